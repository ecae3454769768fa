section R55
variable {F : Nat} {μ : Mem} {tx : List Nat}
theorem runE_all (tx : List Nat) (lo hi : Nat) : ∀ k i j, i ≤ j → j < runE tx lo hi k i → lo ≤ tx.getD j 0 ∧ tx.getD j 0 ≤ hi
  | 0, i, j, h1, h2 => by
    have h2 : j < i := h2
    omega
  | k + 1, i, j, h1, h2 => by
    rw [runE] at h2
    by_cases c : lo ≤ tx.getD i 0 ∧ tx.getD i 0 ≤ hi
    · rw [if_pos c] at h2
      by_cases e : j = i
      · subst e; exact c
      · exact runE_all tx lo hi k (i + 1) j (by omega) h2
    · rw [if_neg c] at h2; omega
/-- what a token leaves in the Reader -/
def RdC (μ μ1 : Mem) (t : Nat × Nat × Nat × Nat) : Prop := Off 1 2 μ μ1 ∧ gI μ1 1 1 = nI t.2.2.2 ∧ gI μ1 1 2 = nI t.1 ∧ gI μ1 1 3 = nI t.2.1 ∧ ((t.2.1 = 1 ∨ t.2.1 = 2) → gI μ1 1 4 = nI t.2.2.1) ∧ gI μ1 1 5 = gI μ 1 5 ∧ gI μ1 1 6 = gI μ 1 6
theorem C_number (hF : 5000 ≤ F) (h0 : TxC tx μ) (ho : OkT tx) {d s : Nat} (hd0 : 0 < d) (hd : s + d ≤ tx.length) (hdig : ∀ i, s ≤ i → i < s + d → 48 ≤ tx.getD i 0) (e1 : gI μ 1 1 = nI s) (e2 : gI μ 1 2 = nI s) : ∃ μ2, f_X4_takeNumber F μ 1 (nI d) = some μ2 ∧ RdC μ μ2 (s, (if 2 < d ∨ (d = 2 ∧ tx.getD s 0 = 48) then 4 else 2), numV tx d s 0, s + d) := by
  have h1 := ho.1
  have go : ∀ so : Nat, ∃ μ2, lt (sI μ 1 3 (nI so)) (fun μ_1 => lt (sI μ_1 1 4 0) (fun μ_2 => f_X4_takeNumber_L53 F 1 (nI d) (fun x3_5 μ_6 => some μ_6) F 0 μ_2)) = some μ2 ∧ RdC μ μ2 (s, so, numV tx d s 0, s + d) := fun so => by
    obtain ⟨μ2, f1, f2, f3, f4, f5, f6, f7, f8⟩ := C_digits h0 ho hd hdig d F 0 0 (sI (sI μ 1 3 (nI so)) 1 4 0) (by omega) (by omega) (Off_sI (Off_sI (Off_rfl 1 2 μ) (by decide) _ _) (by decide) _ _) (by rw [gI_sI, if_neg (by omega), gI_sI, if_neg (by omega)]; exact e1) (by rw [gI_sI, if_pos ⟨rfl, rfl⟩]; rfl)
    refine ⟨μ2, f1, f2, f3, ?_, ?_, fun _ => f4, ?_, ?_⟩
    · rw [f5, gI_sI, if_neg (by omega), gI_sI, if_neg (by omega)]; exact e2
    · rw [f6, gI_sI, if_neg (by omega), gI_sI, if_pos ⟨rfl, rfl⟩]
    · rw [f7, gI_sI, if_neg (by omega), gI_sI, if_neg (by omega)]
    · rw [f8, gI_sI, if_neg (by omega), gI_sI, if_neg (by omega)]
  unfold f_X4_takeNumber
  by_cases c1 : 2 < d
  · rw [if_pos (show (2 : Int32) < nI d from nI_lt (a := 2) c1 (by omega)), if_pos (Or.inl c1)]
    exact go 4
  · rw [if_neg (show ¬ (2 : Int32) < nI d from nI_nlt (a := 2) (by omega) (by decide))]
    by_cases c2 : d = 2
    · have j1 : ix (nI s) 150 = true := nI_ix (by omega) (by decide)
      have j2 : (nI s).toNatClampNeg = s := nI_clamp (by omega)
      have h48 := ho.2 s (by omega)
      have e3 : gI μ (1 + 1 + 1) s = nI (tx.getD s 0) := h0.2 s (by omega)
      rw [if_pos (show nI d = (2 : Int32) by rw [c2]; rfl), e2, if_pos j1, j2, e3]
      by_cases c3 : tx.getD s 0 = 48
      · rw [if_pos (show nI (tx.getD s 0) = (48 : Int32) by rw [c3]; rfl), if_pos (Or.inr ⟨c2, c3⟩)]
        exact go 4
      · rw [if_neg (show ¬ nI (tx.getD s 0) = (48 : Int32) from fun z => c3 ((nI_eq (b := 48) (by omega) (by decide)).mp z)), if_neg (show ¬ (2 < d ∨ (d = 2 ∧ tx.getD s 0 = 48)) by omega)]
        exact go 2
    · rw [if_neg (show ¬ nI d = (2 : Int32) from fun z => c2 ((nI_eq (b := 2) (by omega) (by decide)).mp z)), if_neg (show ¬ (2 < d ∨ (d = 2 ∧ tx.getD s 0 = 48)) by omega)]
      exact go 2
theorem C_takeToken (hF : 5000 ≤ F) (h0 : TxC tx μ) (ho : OkT tx) {pos : Nat} (hp : pos ≤ tx.length) (e1 : gI μ 1 1 = nI pos) : ∃ μ1, f_X4_takeToken F μ 1 = some μ1 ∧ RdC μ μ1 (tk tx pos) := by
  have h1 := ho.1
  have hs := endR_ge (lo := 32) (hi := 32) hp
  unfold f_X4_takeToken
  have r1 : f_X4_endOfRun F μ 1 (gI μ 1 1) 32 32 = some (nI (endR tx 32 32 pos)) := by rw [e1]; exact C_endR hF h0 ho (by decide) (by decide) hp
  rw [r1, Option.bind_some, lt_eq]
  have g0 : gI (sI μ 1 1 (nI (endR tx 32 32 pos))) 1 1 = nI (endR tx 32 32 pos) := by rw [gI_sI, if_pos ⟨rfl, rfl⟩]
  rw [g0, lt_eq]
  unfold tk
  generalize endR tx 32 32 pos = s at hs ⊢
  have o5 : Off 1 2 μ (sI (sI μ 1 1 (nI s)) 1 2 (nI s)) := Off_sI (Off_sI (Off_rfl 1 2 μ) (by decide) _ _) (by decide) _ _
  have t5 := TxC_off o5 h0
  have a1 : gI (sI (sI μ 1 1 (nI s)) 1 2 (nI s)) 1 1 = nI s := by rw [gI_sI, if_neg (by omega), gI_sI, if_pos ⟨rfl, rfl⟩]
  have a2 : gI (sI (sI μ 1 1 (nI s)) 1 2 (nI s)) 1 2 = nI s := by rw [gI_sI, if_pos ⟨rfl, rfl⟩]
  have a5 : gI (sI (sI μ 1 1 (nI s)) 1 2 (nI s)) 1 5 = gI μ 1 5 := by rw [gI_sI, if_neg (by omega), gI_sI, if_neg (by omega)]
  have a6 : gI (sI (sI μ 1 1 (nI s)) 1 2 (nI s)) 1 6 = gI μ 1 6 := by rw [gI_sI, if_neg (by omega), gI_sI, if_neg (by omega)]
  generalize sI (sI μ 1 1 (nI s)) 1 2 (nI s) = μ5 at o5 t5 a1 a2 a5 a6 ⊢
  have r2 : f_X4_endOfRun F μ5 1 (nI s) 97 122 = some (nI (endR tx 97 122 s)) := C_endR hF t5 ho (by decide) (by decide) hs.2
  have r3 : f_X4_endOfRun F μ5 1 (nI s) 48 57 = some (nI (endR tx 48 57 s)) := C_endR hF t5 ho (by decide) (by decide) hs.2
  have hle := endR_ge (lo := 97) (hi := 122) hs.2
  have hde := endR_ge (lo := 48) (hi := 57) hs.2
  have hall := runE_all tx 48 57 (tx.length - s) s
  have eT : gI μ5 (1 + 1) 1 = nI tx.length := t5.1
  rw [a2, r2, r3, Option.bind_some, Option.bind_some, eT, nI_sub hle.1, nI_sub hde.1]
  have j1 : s < tx.length → ix (nI s) 150 = true := fun h => nI_ix (by omega) (by decide)
  have j2 : (nI s).toNatClampNeg = s := nI_clamp (by omega)
  by_cases c1 : s < tx.length
  · have e3 : gI μ5 (1 + 1 + 1) s = nI (tx.getD s 0) := t5.2 s c1
    rw [if_pos (nI_lt c1 (by omega)), if_pos c1]
    by_cases c2 : s < endR tx 97 122 s
    · rw [if_pos (show (0 : Int32) < nI (endR tx 97 122 s - s) from nI_lt (a := 0) (by omega) (by omega)), if_pos c2]
      have go : ∀ so : Nat, RdC μ (sI (sI (sI μ5 1 3 (nI so)) 1 4 (nI (tx.getD s 0))) 1 1 (nI (endR tx 97 122 s))) (s, so, tx.getD s 0, endR tx 97 122 s) := fun so => by
        refine ⟨Off_tr o5 (Off_sI (Off_sI (Off_sI (Off_rfl 1 2 μ5) (by decide) _ _) (by decide) _ _) (by decide) _ _), ?_, ?_, ?_, fun _ => ?_, ?_, ?_⟩
        · rw [gI_sI, if_pos ⟨rfl, rfl⟩]
        · rw [gI_sI, if_neg (by omega), gI_sI, if_neg (by omega), gI_sI, if_neg (by omega)]; exact a2
        · rw [gI_sI, if_neg (by omega), gI_sI, if_neg (by omega), gI_sI, if_pos ⟨rfl, rfl⟩]
        · rw [gI_sI, if_neg (by omega), gI_sI, if_pos ⟨rfl, rfl⟩]
        · rw [gI_sI, if_neg (by omega), gI_sI, if_neg (by omega), gI_sI, if_neg (by omega)]; exact a5
        · rw [gI_sI, if_neg (by omega), gI_sI, if_neg (by omega), gI_sI, if_neg (by omega)]; exact a6
      have b1 : ∀ so, gI (sI μ5 1 3 so) 1 2 = nI s := fun so => by rw [gI_sI, if_neg (by omega)]; exact a2
      have b2 : ∀ so, gI (sI μ5 1 3 so) (1 + 1 + 1) s = nI (tx.getD s 0) := fun so => by rw [gI_sI, if_neg (by omega)]; exact e3
      have b3 : ∀ so v, gI (sI (sI μ5 1 3 so) 1 4 v) 1 1 = nI s := fun so v => by rw [gI_sI, if_neg (by omega), gI_sI, if_neg (by omega)]; exact a1
      have b4 : nI s + nI (endR tx 97 122 s - s) = nI (endR tx 97 122 s) := by rw [nI_add, show s + (endR tx 97 122 s - s) = endR tx 97 122 s by omega]
      by_cases c3 : endR tx 97 122 s - s = 1
      · rw [if_pos (show nI (endR tx 97 122 s - s) = 1 by rw [c3]; rfl), if_pos c3]
        simp only [lt_eq, b1, b2, b3, b4, j1 c1, j2, if_true]
        exact ⟨_, rfl, go 1⟩
      · rw [if_neg (show ¬ nI (endR tx 97 122 s - s) = 1 from fun z => c3 ((nI_eq (b := 1) (by omega) (by decide)).mp z)), if_neg c3]
        simp only [lt_eq, b1, b2, b3, b4, j1 c1, j2, if_true]
        exact ⟨_, rfl, go 4⟩
    · rw [if_neg (show ¬ (0 : Int32) < nI (endR tx 97 122 s - s) from nI_nlt (a := 0) (by omega) (by decide)), if_neg c2]
      by_cases c3 : s < endR tx 48 57 s
      · rw [if_pos (show (0 : Int32) < nI (endR tx 48 57 s - s) from nI_lt (a := 0) (by omega) (by omega)), if_pos c3]
        obtain ⟨μ2, f1, f2⟩ := C_number hF t5 ho (d := endR tx 48 57 s - s) (s := s) (by omega) (by omega) (fun i h1 h2 => (hall i h1 (by show i < endR tx 48 57 s; omega)).1) a1 a2
        rw [f1, Option.bind_some]
        rw [show s + (endR tx 48 57 s - s) = endR tx 48 57 s by omega] at f2
        obtain ⟨p1, p2, p3, p4, p5, p6, p7⟩ := f2
        exact ⟨μ2, rfl, Off_tr o5 p1, p2, p3, p4, p5, p6.trans a5, p7.trans a6⟩
      · rw [if_neg (show ¬ (0 : Int32) < nI (endR tx 48 57 s - s) from nI_nlt (a := 0) (by omega) (by decide)), if_neg c3, if_pos (j1 c1), j2, e3]
        have h59 := ho.2 s c1
        have go : ∀ so : Nat, (so ≠ 1 ∧ so ≠ 2) → RdC μ (sI (sI μ5 1 3 (nI so)) 1 1 (nI (s + 1))) (s, so, 0, s + 1) := fun so hso => by
          refine ⟨Off_tr o5 (Off_sI (Off_sI (Off_rfl 1 2 μ5) (by decide) _ _) (by decide) _ _), ?_, ?_, ?_, fun z => ?_, ?_, ?_⟩
          · rw [gI_sI, if_pos ⟨rfl, rfl⟩]
          · rw [gI_sI, if_neg (by omega), gI_sI, if_neg (by omega)]; exact a2
          · rw [gI_sI, if_neg (by omega), gI_sI, if_pos ⟨rfl, rfl⟩]
          · rcases z with z | z
            · exact absurd z hso.1
            · exact absurd z hso.2
          · rw [gI_sI, if_neg (by omega), gI_sI, if_neg (by omega)]; exact a5
          · rw [gI_sI, if_neg (by omega), gI_sI, if_neg (by omega)]; exact a6
        have b1 : ∀ so, gI (sI μ5 1 3 so) 1 1 = nI s := fun so => by rw [gI_sI, if_neg (by omega)]; exact a1
        by_cases c4 : tx.getD s 0 = 59
        · rw [if_pos (show nI (tx.getD s 0) = (59 : Int32) by rw [c4]; rfl), if_pos c4]
          simp only [lt_eq, b1, nI_1]
          exact ⟨_, rfl, go 3 (by decide)⟩
        · rw [if_neg (show ¬ nI (tx.getD s 0) = (59 : Int32) from fun z => c4 ((nI_eq (b := 59) (by omega) (by decide)).mp z)), if_neg c4]
          simp only [lt_eq, b1, nI_1]
          exact ⟨_, rfl, go 4 (by decide)⟩
  · rw [if_neg (nI_nlt (by omega) (by omega)), if_neg c1]
    refine ⟨_, rfl, Off_tr o5 (Off_sI (Off_rfl 1 2 μ5) (by decide) _ _), ?_, ?_, ?_, fun z => ?_, ?_, ?_⟩
    · rw [gI_sI, if_neg (by omega)]; exact a1
    · rw [gI_sI, if_neg (by omega)]; exact a2
    · rw [gI_sI, if_pos ⟨rfl, rfl⟩]; rfl
    · have z : (0 : Nat) = 1 ∨ (0 : Nat) = 2 := z
      omega
    · rw [gI_sI, if_neg (by omega)]; exact a5
    · rw [gI_sI, if_neg (by omega)]; exact a6
end R55
