section R57
variable {F : Nat} {μ : Mem} {tx : List Nat}
theorem endR_lt {lo hi s : Nat} (h : s < tx.length) : s < endR tx lo hi s ↔ (lo ≤ tx.getD s 0 ∧ tx.getD s 0 ≤ hi) := by
  unfold endR
  rw [show tx.length - s = tx.length - s - 1 + 1 by omega, runE]
  by_cases c : lo ≤ tx.getD s 0 ∧ tx.getD s 0 ≤ hi
  · rw [if_pos c]
    have := runE_ge tx lo hi (tx.length - s - 1) (s + 1)
    exact ⟨fun _ => c, fun _ => by omega⟩
  · rw [if_neg c]
    exact ⟨fun z => absurd z (Nat.lt_irrefl s), fun z => absurd z c⟩
theorem mvV_big : ∀ (k i v : Nat), 99 < v → mvV tx k i v = v
  | 0, _, _, _ => rfl
  | k + 1, i, v, h => by rw [mvV, if_pos h]; exact mvV_big k (i + 1) v h
theorem num_ok {d s : Nat} (hd : 0 < d) (hdig : ∀ i, s ≤ i → i < s + d → 48 ≤ tx.getD i 0 ∧ tx.getD i 0 ≤ 57) : ((99 < mvV tx d s 0 ∨ (tx.getD s 0 = 48 ∧ 1 < d)) ↔ (2 < d ∨ (d = 2 ∧ tx.getD s 0 = 48))) ∧ (¬ (2 < d ∨ (d = 2 ∧ tx.getD s 0 = 48)) → mvV tx d s 0 = numV tx d s 0) := by
  have h0 := hdig s (by omega) (by omega)
  have s1 : ∀ k, mvV tx (k + 1) s 0 = mvV tx k (s + 1) (10 * 0 + tx.getD s 0 - 48) := fun k => by rw [mvV, if_neg (by omega)]
  rcases (show d = 1 ∨ d = 2 ∨ 3 ≤ d by omega) with rfl | rfl | h3
  · have e : mvV tx 1 s 0 = 10 * 0 + tx.getD s 0 - 48 := s1 0
    have e2 : numV tx 1 s 0 = 0 * 10 + tx.getD s 0 - 48 := rfl
    rw [e, e2]
    constructor
    · omega
    · intro _; omega
  · have h1 := hdig (s + 1) (by omega) (by omega)
    have e : mvV tx 2 s 0 = 10 * (10 * 0 + tx.getD s 0 - 48) + tx.getD (s + 1) 0 - 48 := by
      rw [s1 1, mvV, if_neg (by omega)]; rfl
    have e2 : numV tx 2 s 0 = (0 * 10 + tx.getD s 0 - 48) * 10 + tx.getD (s + 1) 0 - 48 := rfl
    rw [e, e2]
    constructor
    · omega
    · intro _; omega
  · obtain ⟨k, rfl⟩ : ∃ k, d = k + 3 := ⟨d - 3, by omega⟩
    have h1 := hdig (s + 1) (by omega) (by omega)
    have h2 := hdig (s + 1 + 1) (by omega) (by omega)
    refine ⟨⟨fun _ => Or.inl (by omega), fun _ => ?_⟩, fun z => absurd (Or.inl (by omega)) z⟩
    by_cases c : tx.getD s 0 = 48
    · exact Or.inr ⟨c, by omega⟩
    · left
      rw [s1 (k + 2), mvV, if_neg (by omega), mvV, if_neg (by omega)]
      rw [mvV_big k _ _ (by omega)]
      omega
theorem M_step (hF : 5000 ≤ F) (h0 : TxM tx μ) (ho : OkT tx) {pos : Nat} (hp : pos ≤ tx.length) (e1 : gI μ 166 14 = nI pos) : ∃ μ1, f_X9_step F μ 166 = some μ1 ∧ RdM μ μ1 (tk tx pos) := by
  have h1 := ho.1
  have hs := endR_ge (lo := 32) (hi := 32) hp
  unfold f_X9_step
  obtain ⟨μ2, f1, o2, a1⟩ := M_blank (F := F) h0 ho (fun μ_5 => lt (sI μ_5 166 15 (gI μ_5 166 14)) (fun μ_6 => lt (sI μ_6 166 17 0) (fun μ_7 => (f_X9_here F μ_7 166).bind (fun v_8 => (if v_8 < 0 then lt (sI μ_7 166 16 3) (fun μ_48 => some μ_48) else (f_X9_in F μ_7 v_8 97 122).bind (fun v_11 => (if v_11 = 0 then (f_X9_in F μ_7 v_8 48 57).bind (fun v_14 => (if v_14 = 0 then lt (sI μ_7 166 14 ((gI μ_7 166 14) + 1)) (fun μ_17 => (if v_8 = 59 then lt (sI μ_17 166 16 2) (fun μ_19 => some μ_19) else lt (sI μ_17 166 16 4) (fun μ_18 => some μ_18))) else f_X9_step_L126 F 166 v_8 (fun μ_33 => (if 99 < (gI μ_33 166 17) then lt (sI μ_33 166 16 4) (fun μ_34 => some μ_34) else (if v_8 = 48 then (if 1 < ((gI μ_33 166 14) - (gI μ_33 166 15)) then lt (sI μ_33 166 16 4) (fun μ_37 => some μ_37) else lt (sI μ_33 166 16 1) (fun μ_36 => some μ_36)) else lt (sI μ_33 166 16 1) (fun μ_35 => some μ_35)))) F μ_7)) else f_X9_step_L63 F 166 v_8 (fun μ_45 => (if ((gI μ_45 166 14) - (gI μ_45 166 15)) = 1 then lt (sI μ_45 166 16 v_8) (fun μ_47 => some μ_47) else lt (sI μ_45 166 16 4) (fun μ_46 => some μ_46))) F μ_7))))))) (tx.length - pos) F pos μ (by omega) (by omega) (Om_rfl μ) e1
  rw [f1, lt_eq, a1, lt_eq]
  have a1 : gI μ2 166 14 = nI (endR tx 32 32 pos) := a1
  unfold tk
  show ∃ μ1, _ ∧ _
  have er : runE tx 32 32 (tx.length - pos) pos = endR tx 32 32 pos := rfl
  rw [er]
  generalize endR tx 32 32 pos = s at hs a1 ⊢
  have o7 : Om μ (sI (sI μ2 166 15 (nI s)) 166 17 0) := Om_sI (Om_sI o2 (by decide) _) (by decide) _
  have b1 : gI (sI (sI μ2 166 15 (nI s)) 166 17 0) 166 14 = nI s := by rw [gI_sI, if_neg (by omega), gI_sI, if_neg (by omega)]; exact a1
  have b2 : gI (sI (sI μ2 166 15 (nI s)) 166 17 0) 166 15 = nI s := by rw [gI_sI, if_neg (by omega), gI_sI, if_pos ⟨rfl, rfl⟩]
  have b3 : gI (sI (sI μ2 166 15 (nI s)) 166 17 0) 166 17 = nI 0 := by rw [gI_sI, if_pos ⟨rfl, rfl⟩]; rfl
  generalize sI (sI μ2 166 15 (nI s)) 166 17 0 = μ7 at o7 b1 b2 b3 ⊢
  have t7 := TxM_om o7 h0
  by_cases c1 : s < tx.length
  · have hc := ho.2 s c1
    have hle := endR_ge (lo := 97) (hi := 122) hs.2
    have hde := endR_ge (lo := 48) (hi := 57) hs.2
    have i1 : f_X9_in F μ7 (nI (tx.getD s 0)) 97 122 = some (if 97 ≤ tx.getD s 0 ∧ tx.getD s 0 ≤ 122 then 1 else 0) := in_byte (lo := 97) (hi := 122) hc (by decide) (by decide)
    have i2 : f_X9_in F μ7 (nI (tx.getD s 0)) 48 57 = some (if 48 ≤ tx.getD s 0 ∧ tx.getD s 0 ≤ 57 then 1 else 0) := in_byte (lo := 48) (hi := 57) hc (by decide) (by decide)
    rw [here_in t7 ho c1 b1, Option.bind_some, if_neg (nI_pos (by omega)), i1, Option.bind_some, i2, Option.bind_some, if_pos c1]
    by_cases c2 : 97 ≤ tx.getD s 0 ∧ tx.getD s 0 ≤ 122
    · rw [if_pos c2, if_neg (show ¬ (1 : Int32) = 0 by decide), if_pos ((endR_lt c1).mpr c2)]
      obtain ⟨μ3, f3, o3, g1, g2⟩ := M_letters (F := F) h0 ho (nI (tx.getD s 0)) (fun μ_45 => (if ((gI μ_45 166 14) - (gI μ_45 166 15)) = 1 then lt (sI μ_45 166 16 (nI (tx.getD s 0))) (fun μ_47 => some μ_47) else lt (sI μ_45 166 16 4) (fun μ_46 => some μ_46))) (tx.length - s) F s μ7 (by omega) (by omega) o7 b1
      have g1 : gI μ3 166 14 = nI (endR tx 97 122 s) := g1
      rw [b2] at g2
      have hlt := (endR_lt (lo := 97) (hi := 122) c1).mpr c2
      rw [f3, g1, g2, nI_sub hle.1]
      have go : ∀ so kd', kM (s, kd', tx.getD s 0, endR tx 97 122 s) = so → kd' ≠ 2 → RdM μ (sI μ3 166 16 (nI so)) (s, kd', tx.getD s 0, endR tx 97 122 s) := fun so kd' hk hk2 => ⟨Om_sI o3 (by decide) _, by rw [gI_sI, if_neg (by omega)]; exact g1, by rw [gI_sI, if_neg (by omega)]; exact g2, by rw [gI_sI, if_pos ⟨rfl, rfl⟩, hk], fun z => absurd z hk2⟩
      by_cases c3 : endR tx 97 122 s - s = 1
      · rw [if_pos (show nI (endR tx 97 122 s - s) = 1 by rw [c3]; rfl), if_pos c3, lt_eq]
        exact ⟨_, rfl, go _ 1 rfl (by decide)⟩
      · rw [if_neg (show ¬ nI (endR tx 97 122 s - s) = 1 from fun z => c3 ((nI_eq (b := 1) (by omega) (by decide)).mp z)), if_neg c3, lt_eq]
        exact ⟨_, rfl, go 4 4 rfl (by decide)⟩
    · rw [if_neg c2, if_pos (rfl : (0 : Int32) = 0), if_neg (fun z => c2 ((endR_lt c1).mp z))]
      by_cases c4 : 48 ≤ tx.getD s 0 ∧ tx.getD s 0 ≤ 57
      · have hlt := (endR_lt (lo := 48) (hi := 57) c1).mpr c4
        rw [if_pos c4, if_neg (show ¬ (1 : Int32) = 0 by decide), if_pos hlt]
        obtain ⟨μ3, f3, o3, g1, g2, g7, gv⟩ := M_digits (F := F) h0 ho (nI (tx.getD s 0)) (fun μ_33 => (if 99 < (gI μ_33 166 17) then lt (sI μ_33 166 16 4) (fun μ_34 => some μ_34) else (if nI (tx.getD s 0) = 48 then (if 1 < ((gI μ_33 166 14) - (gI μ_33 166 15)) then lt (sI μ_33 166 16 4) (fun μ_37 => some μ_37) else lt (sI μ_33 166 16 1) (fun μ_36 => some μ_36)) else lt (sI μ_33 166 16 1) (fun μ_35 => some μ_35)))) (tx.length - s) F s 0 μ7 (by omega) (by omega) o7 b1 b3 (by decide)
        have g1 : gI μ3 166 14 = nI (endR tx 48 57 s) := g1
        rw [b2] at g2
        have er2 : runE tx 48 57 (tx.length - s) s = endR tx 48 57 s := rfl
        rw [er2] at g7 gv
        obtain ⟨n1, n2⟩ := num_ok (tx := tx) (d := endR tx 48 57 s - s) (s := s) (by omega) (fun i h1 h2 => runE_all tx 48 57 (tx.length - s) s i h1 (by show i < endR tx 48 57 s; omega))
        rw [f3, g1, g2, g7, nI_sub hde.1]
        generalize mvV tx (endR tx 48 57 s - s) s 0 = mv at g7 gv n1 n2 ⊢
        have go : ∀ so kd', kM (s, kd', numV tx (endR tx 48 57 s - s) s 0, endR tx 48 57 s) = so → (kd' = 2 → mv = numV tx (endR tx 48 57 s - s) s 0) → RdM μ (sI μ3 166 16 (nI so)) (s, kd', numV tx (endR tx 48 57 s - s) s 0, endR tx 48 57 s) := fun so kd' hk hk2 => ⟨Om_sI o3 (by decide) _, by rw [gI_sI, if_neg (by omega)]; exact g1, by rw [gI_sI, if_neg (by omega)]; exact g2, by rw [gI_sI, if_pos ⟨rfl, rfl⟩, hk], fun z => by rw [gI_sI, if_neg (by omega), g7, hk2 z]⟩
        by_cases c5 : 99 < mv
        · rw [if_pos (show (99 : Int32) < nI mv from nI_lt (a := 99) c5 (by omega)), if_pos (n1.mp (Or.inl c5)), lt_eq]
          exact ⟨_, rfl, go 4 4 rfl (fun z => absurd z (by decide))⟩
        · rw [if_neg (show ¬ (99 : Int32) < nI mv from nI_nlt (a := 99) (by omega) (by decide))]
          by_cases c6 : tx.getD s 0 = 48
          · rw [if_pos (show nI (tx.getD s 0) = (48 : Int32) by rw [c6]; rfl)]
            by_cases c7 : 1 < endR tx 48 57 s - s
            · rw [if_pos (show (1 : Int32) < nI (endR tx 48 57 s - s) from nI_lt (a := 1) c7 (by omega)), if_pos (n1.mp (Or.inr ⟨c6, c7⟩)), lt_eq]
              exact ⟨_, rfl, go 4 4 rfl (fun z => absurd z (by decide))⟩
            · have hnot : ¬ (2 < endR tx 48 57 s - s ∨ (endR tx 48 57 s - s = 2 ∧ tx.getD s 0 = 48)) := by omega
              rw [if_neg (show ¬ (1 : Int32) < nI (endR tx 48 57 s - s) from nI_nlt (a := 1) (by omega) (by decide)), if_neg hnot, lt_eq]
              exact ⟨_, rfl, go 1 2 rfl (fun _ => n2 hnot)⟩
          · have hnot : ¬ (2 < endR tx 48 57 s - s ∨ (endR tx 48 57 s - s = 2 ∧ tx.getD s 0 = 48)) := fun z => by
              rcases n1.mpr z with y | y
              · exact c5 y
              · exact c6 y.1
            rw [if_neg (show ¬ nI (tx.getD s 0) = (48 : Int32) from fun z => c6 ((nI_eq (b := 48) (by omega) (by decide)).mp z)), if_neg hnot, lt_eq]
            exact ⟨_, rfl, go 1 2 rfl (fun _ => n2 hnot)⟩
      · rw [if_neg c4, if_pos (rfl : (0 : Int32) = 0), if_neg (fun z => c4 ((endR_lt c1).mp z)), lt_eq, b1, nI_1]
        have go : ∀ so kd', kM (s, kd', 0, s + 1) = so → kd' ≠ 2 → RdM μ (sI (sI μ7 166 14 (nI (s + 1))) 166 16 (nI so)) (s, kd', 0, s + 1) := fun so kd' hk hk2 => ⟨Om_sI (Om_sI o7 (by decide) _) (by decide) _, by rw [gI_sI, if_neg (by omega), gI_sI, if_pos ⟨rfl, rfl⟩], by rw [gI_sI, if_neg (by omega), gI_sI, if_neg (by omega)]; exact b2, by rw [gI_sI, if_pos ⟨rfl, rfl⟩, hk], fun z => absurd z hk2⟩
        by_cases c5 : tx.getD s 0 = 59
        · rw [if_pos (show nI (tx.getD s 0) = (59 : Int32) by rw [c5]; rfl), if_pos c5, lt_eq]
          exact ⟨_, rfl, go 2 3 rfl (by decide)⟩
        · rw [if_neg (show ¬ nI (tx.getD s 0) = (59 : Int32) from fun z => c5 ((nI_eq (b := 59) (by omega) (by decide)).mp z)), if_neg c5, lt_eq]
          exact ⟨_, rfl, go 4 4 rfl (by decide)⟩
  · rw [here_out t7 ho (by omega) (by omega) b1, Option.bind_some, if_pos (show (-1 : Int32) < 0 by decide), lt_eq, if_neg c1]
    exact ⟨_, rfl, Om_sI o7 (by decide) _, by rw [gI_sI, if_neg (by omega)]; exact b1, by rw [gI_sI, if_neg (by omega)]; exact b2, by rw [gI_sI, if_pos ⟨rfl, rfl⟩]; rfl, fun z => absurd (show (0 : Nat) = 2 from z) (by decide)⟩
end R57
