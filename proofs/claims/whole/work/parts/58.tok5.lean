section R58
variable {F : Nat} {μ : Mem} {tx : List Nat}
theorem tk_ok {pos : Nat} (hp : pos ≤ tx.length) : pos ≤ (tk tx pos).1 ∧ (tk tx pos).1 ≤ (tk tx pos).2.2.2 ∧ (tk tx pos).2.2.2 ≤ tx.length ∧ ((tk tx pos).2.1 ≠ 0 → (tk tx pos).1 < (tk tx pos).2.2.2) ∧ ((tk tx pos).2.1 = 2 → (tk tx pos).2.2.1 ≤ 99) ∧ ((tk tx pos).2.1 = 1 → 97 ≤ (tk tx pos).2.2.1 ∧ (tk tx pos).2.2.1 ≤ 122) ∧ (tk tx pos).2.1 ≤ 4 := by
  have hs := endR_ge (lo := 32) (hi := 32) hp
  unfold tk
  generalize endR tx 32 32 pos = s at hs ⊢
  by_cases c1 : s < tx.length
  · rw [if_pos c1]
    have hle := endR_ge (lo := 97) (hi := 122) hs.2
    have hde := endR_ge (lo := 48) (hi := 57) hs.2
    by_cases c2 : s < endR tx 97 122 s
    · rw [if_pos c2]
      have hc := (endR_lt c1).mp c2
      refine ⟨hs.1, hle.1, hle.2, fun _ => c2, fun z => ?_, fun _ => hc, ?_⟩
      · have z : (if endR tx 97 122 s - s = 1 then 1 else 4) = 2 := z
        split at z <;> omega
      · show (if endR tx 97 122 s - s = 1 then 1 else 4) ≤ 4
        split <;> omega
    · rw [if_neg c2]
      by_cases c3 : s < endR tx 48 57 s
      · rw [if_pos c3]
        refine ⟨hs.1, hde.1, hde.2, fun _ => c3, fun z => ?_, fun z => ?_, ?_⟩
        · have z : (if 2 < endR tx 48 57 s - s ∨ (endR tx 48 57 s - s = 2 ∧ tx.getD s 0 = 48) then 4 else 2) = 2 := z
          show numV tx (endR tx 48 57 s - s) s 0 ≤ 99
          have hall := fun i h1 h2 => runE_all tx 48 57 (tx.length - s) s i h1 (show i < endR tx 48 57 s from h2)
          have h0 := hall s (Nat.le_refl _) c3
          by_cases c4 : 2 < endR tx 48 57 s - s ∨ (endR tx 48 57 s - s = 2 ∧ tx.getD s 0 = 48)
          · rw [if_pos c4] at z; omega
          · rcases (show endR tx 48 57 s - s = 1 ∨ endR tx 48 57 s - s = 2 by omega) with e | e
            · rw [e]
              show 0 * 10 + tx.getD s 0 - 48 ≤ 99
              omega
            · have h1 := hall (s + 1) (by omega) (by omega)
              rw [e]
              show (0 * 10 + tx.getD s 0 - 48) * 10 + tx.getD (s + 1) 0 - 48 ≤ 99
              omega
        · have z : (if 2 < endR tx 48 57 s - s ∨ (endR tx 48 57 s - s = 2 ∧ tx.getD s 0 = 48) then 4 else 2) = 1 := z
          split at z <;> omega
        · show (if 2 < endR tx 48 57 s - s ∨ (endR tx 48 57 s - s = 2 ∧ tx.getD s 0 = 48) then 4 else 2) ≤ 4
          split <;> omega
      · rw [if_neg c3]
        refine ⟨hs.1, by show s ≤ s + 1; omega, by show s + 1 ≤ tx.length; omega, fun _ => by show s < s + 1; omega, fun z => ?_, fun z => ?_, ?_⟩
        · exact Nat.zero_le _
        · have z : (if tx.getD s 0 = 59 then 3 else 4) = 1 := z
          split at z <;> omega
        · show (if tx.getD s 0 = 59 then 3 else 4) ≤ 4
          split <;> omega
  · rw [if_neg c1]
    exact ⟨hs.1, Nat.le_refl _, hs.2, fun z => absurd rfl z, fun _ => Nat.zero_le _, fun z => absurd (show (0 : Nat) = 1 from z) (by decide), Nat.zero_le _⟩
/-- a number from lo to hi -/
def okNum (t : Nat × Nat × Nat × Nat) (lo hi : Nat) : Prop := t.2.1 = 2 ∧ lo ≤ t.2.2.1 ∧ t.2.2.1 ≤ hi
theorem C_isNumber (hF : 5000 ≤ F) (h0 : TxC tx μ) (ho : OkT tx) {pos lo hi : Nat} (hp : pos ≤ tx.length) (hl : lo < 1000) (hh : hi < 1000) (e1 : gI μ 1 1 = nI pos) : ∃ v μ1, f_X4_isNumber F μ 1 (nI lo) (nI hi) = some (v, μ1) ∧ RdC μ μ1 (tk tx pos) ∧ ((v = 1 ∧ okNum (tk tx pos) lo hi) ∨ (v = 0 ∧ ¬ okNum (tk tx pos) lo hi)) := by
  obtain ⟨μ1, f1, r⟩ := C_takeToken hF h0 ho hp e1
  obtain ⟨k1, k2, k3, k4, k5, k6, k7⟩ := tk_ok (tx := tx) hp
  unfold f_X4_isNumber
  rw [f1, Option.bind_some]
  obtain ⟨r1, r2, r3, r4, r5, r6⟩ := id r
  unfold okNum
  rw [r4]
  by_cases c1 : (tk tx pos).2.1 = 2
  · have e4 := r5 (Or.inr c1)
    have hv := k5 c1
    rw [if_pos (show nI (tk tx pos).2.1 = (2 : Int32) by rw [c1]; rfl), e4]
    simp (disch := omega) only [nI_ltI]
    by_cases c2 : (tk tx pos).2.2.1 < lo
    · rw [if_pos c2]
      exact ⟨0, μ1, rfl, r, Or.inr ⟨rfl, by omega⟩⟩
    · rw [if_neg c2]
      by_cases c3 : hi < (tk tx pos).2.2.1
      · rw [if_pos c3]
        exact ⟨0, μ1, rfl, r, Or.inr ⟨rfl, by omega⟩⟩
      · rw [if_neg c3]
        exact ⟨1, μ1, rfl, r, Or.inl ⟨rfl, by omega⟩⟩
  · rw [if_neg (show ¬ nI (tk tx pos).2.1 = (2 : Int32) from fun z => c1 ((nI_eq (b := 2) (by omega) (by decide)).mp z))]
    exact ⟨0, μ1, rfl, r, Or.inr ⟨rfl, fun z => c1 z.1⟩⟩
theorem kM_num {pos : Nat} (hp : pos ≤ tx.length) : kM (tk tx pos) = 1 ↔ (tk tx pos).2.1 = 2 := by
  obtain ⟨k1, k2, k3, k4, k5, k6, k7⟩ := tk_ok (tx := tx) hp
  unfold kM
  by_cases c0 : (tk tx pos).2.1 = 0
  · rw [if_pos c0]; omega
  · rw [if_neg c0]
    by_cases c1 : (tk tx pos).2.1 = 1
    · have := k6 c1
      rw [if_pos c1]; omega
    · rw [if_neg c1]
      by_cases c2 : (tk tx pos).2.1 = 2
      · rw [if_pos c2]; omega
      · rw [if_neg c2]
        split <;> omega
theorem M_dueT (hF : 5000 ≤ F) (h0 : TxM tx μ) (ho : OkT tx) {pos : Nat} (hp : pos ≤ tx.length) (e1 : gI μ 166 14 = nI pos) (e8 : gI μ 166 18 = -9) : ∃ μ1, f_X9_due F μ 166 1 = some (gI μ 166 17, μ1) ∧ RdM μ μ1 (tk tx pos) := by
  obtain ⟨μ1, f1, r⟩ := M_step hF h0 ho hp e1
  unfold f_X9_due
  rw [e8, if_pos (rfl : (-9 : Int32) = -9), if_neg (show ¬ (1 : Int32) = 0 by decide), f1, Option.bind_some]
  exact ⟨μ1, rfl, r⟩
theorem M_dueF (e8 : gI μ 166 18 = -9) : f_X9_due F μ 166 0 = some (gI μ 166 17, sI μ 166 18 (gI μ 166 15)) := by
  unfold f_X9_due
  rw [e8, if_pos (rfl : (-9 : Int32) = -9), if_pos (rfl : (0 : Int32) = 0), lt_eq]
end R58
