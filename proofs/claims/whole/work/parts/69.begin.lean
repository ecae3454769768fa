section R69
variable {F d : Nat} {μ : Mem} {tx : List Nat}
def Dr0 : Dr := (((2, 0, 0, 4, 1), fun _ => 0, fun _ => 0, fun _ => 0), (fun _ => 0, fun _ => 0), (false, false))
theorem Dr0_ok : OkDr Dr0 := ⟨⟨by decide, by decide, by decide, by decide, by decide, by decide, by decide, fun l hl => absurd hl (Nat.not_lt_zero _)⟩, fun p hp => absurd hp (Nat.not_lt_zero _)⟩
theorem read_ok (hF : 5000 ≤ F) (hd : 4 ≤ d) (ho : OkT tx) (hc : TxC tx μ) : ∃ μ1, f_X4_read F μ 1 d = f_X4_read_L25 F 1 d (fun x μ => some (x, μ)) F 0 μ1 ∧ CTk d tx 0 Dr0 μ1 ∧ FrC d μ μ1 := by
  unfold f_X4_read f_X7_begin
  simp only [lt_eq, Option.bind_some]
  have fc : FrC d μ (sI (sI (sI (sI (sI (sI (sI (sI μ d 0 2) d 1 0) d 5 0) d 8 4) d 9 1) 1 1 0) 1 5 0) 1 6 0) := FrC_sI (FrC_sI (FrC_sI (FrC_sI (FrC_sI (FrC_sI (FrC_sI (FrC_sI (FrC_rfl d μ) (Or.inr (by omega)) _ _) (Or.inr (by omega)) _ _) (Or.inr (by omega)) _ _) (Or.inr (by omega)) _ _) (Or.inr (by omega)) _ _) (Or.inl rfl) _ _) (Or.inl rfl) _ _) (Or.inl rfl) _ _
  have hD : DrC d (sI (sI (sI (sI (sI (sI (sI (sI μ d 0 2) d 1 0) d 5 0) d 8 4) d 9 1) 1 1 0) 1 5 0) 1 6 0) Dr0 := by
    refine ⟨⟨?_, ?_, ?_, ?_, ?_, fun l hl => absurd hl (Nat.not_lt_zero _)⟩, fun p hp => absurd hp (Nat.not_lt_zero _), ?_, ?_⟩
    · show _ = (2 : Int32)
      simp (disch := omega) only [gI_sI, if_neg, if_pos, and_self, if_true]
    · show _ = (0 : Int32)
      simp (disch := omega) only [gI_sI, if_neg, if_pos, and_self, if_true]
    · show _ = (0 : Int32)
      simp (disch := omega) only [gI_sI, if_neg, if_pos, and_self, if_true]
    · show _ = (4 : Int32)
      simp (disch := omega) only [gI_sI, if_neg, if_pos, and_self, if_true]
    · show _ = (1 : Int32)
      simp (disch := omega) only [gI_sI, if_neg, if_pos, and_self, if_true]
    · show _ = (0 : Int32)
      simp (disch := omega) only [gI_sI, if_neg, if_pos, and_self, if_true]
    · show _ = (0 : Int32)
      simp (disch := omega) only [gI_sI, if_neg, if_pos, and_self, if_true]
  have e1 : gI (sI (sI (sI (sI (sI (sI (sI (sI μ d 0 2) d 1 0) d 5 0) d 8 4) d 9 1) 1 1 0) 1 5 0) 1 6 0) 1 1 = nI 0 := by
    show _ = (0 : Int32)
    simp (disch := omega) only [gI_sI, if_neg, if_pos, and_self, if_true]
  have ht := TxC_fr hd fc hc
  generalize sI (sI (sI (sI (sI (sI (sI (sI μ d 0 2) d 1 0) d 5 0) d 8 4) d 9 1) 1 1 0) 1 5 0) 1 6 0 = μ2 at fc hD e1 ht ⊢
  obtain ⟨μ3, f3, r3⟩ := C_takeToken hF ht ho (Nat.zero_le _) e1
  rw [f3, Option.bind_some]
  exact ⟨μ3, rfl, CTk_of hd ht hD r3, FrC_tr fc (FrC_off r3.1)⟩
def capK (F : Nat) : Int32 → Mem → Option (Int32 × Mem) := fun x μ => if gI μ 166 18 = -9 then (f_X9_takeDraft F μ 166).bind (fun μ => lt (sI μ 166 2 0) (fun μ => some (x, μ))) else some (-10 - gI μ 166 18, μ)
theorem cap_ok (hF : 5000 ≤ F) (ho : OkT tx) (hm : TxM tx μ) : ∃ μ1, f_X9_capital F μ 166 = f_X9_capital_L21 F 166 (capK F) F 0 μ1 ∧ MSt tx 0 Dr0 μ1 ∧ FrM μ μ1 := by
  unfold f_X9_capital f_X9_plain
  simp only [lt_eq, Option.bind_some]
  have fm : FrM μ (sI (sI (sI (sI (sI (sI (sI (sI μ 166 14 0) 166 18 (-9)) (166 + 2) 1 2) (166 + 3) 1 0) (166 + 7) 1 0) (166 + 10) 1 4) (166 + 11) 1 1) 166 13 0) := FrM_sI (FrM_sI (FrM_sI (FrM_sI (FrM_sI (FrM_sI (FrM_sI (FrM_sI (FrM_rfl μ) (by unfold Drf; omega) _) (by unfold Drf; omega) _) (by unfold Drf; omega) _) (by unfold Drf; omega) _) (by unfold Drf; omega) _) (by unfold Drf; omega) _) (by unfold Drf; omega) _) (by unfold Drf; omega) _
  have hD : DrM (sI (sI (sI (sI (sI (sI (sI (sI μ 166 14 0) 166 18 (-9)) (166 + 2) 1 2) (166 + 3) 1 0) (166 + 7) 1 0) (166 + 10) 1 4) (166 + 11) 1 1) 166 13 0) Dr0 := by
    refine ⟨⟨?_, ?_, ?_, ?_, ?_⟩, fun l hl => absurd hl (Nat.not_lt_zero _), fun p hp => absurd hp (Nat.not_lt_zero _), ?_⟩
    · show _ = (2 : Int32)
      simp (disch := omega) only [gI_sI, if_neg, if_pos, and_self, if_true]
    · show _ = (0 : Int32)
      simp (disch := omega) only [gI_sI, if_neg, if_pos, and_self, if_true]
    · show _ = (0 : Int32)
      simp (disch := omega) only [gI_sI, if_neg, if_pos, and_self, if_true]
    · show _ = (4 : Int32)
      simp (disch := omega) only [gI_sI, if_neg, if_pos, and_self, if_true]
    · show _ = (1 : Int32)
      simp (disch := omega) only [gI_sI, if_neg, if_pos, and_self, if_true]
    · show _ = (0 : Int32)
      simp (disch := omega) only [gI_sI, if_neg, if_pos, and_self, if_true]
  have e1 : gI (sI (sI (sI (sI (sI (sI (sI (sI μ 166 14 0) 166 18 (-9)) (166 + 2) 1 2) (166 + 3) 1 0) (166 + 7) 1 0) (166 + 10) 1 4) (166 + 11) 1 1) 166 13 0) 166 14 = nI 0 := by
    show _ = (0 : Int32)
    simp (disch := omega) only [gI_sI, if_neg, if_pos, and_self, if_true]
  have e8 : gI (sI (sI (sI (sI (sI (sI (sI (sI μ 166 14 0) 166 18 (-9)) (166 + 2) 1 2) (166 + 3) 1 0) (166 + 7) 1 0) (166 + 10) 1 4) (166 + 11) 1 1) 166 13 0) 166 18 = -9 := by
    simp (disch := omega) only [gI_sI, if_neg, if_pos, and_self, if_true]
  have ht := TxM_fr fm hm
  generalize sI (sI (sI (sI (sI (sI (sI (sI μ 166 14 0) 166 18 (-9)) (166 + 2) 1 2) (166 + 3) 1 0) (166 + 7) 1 0) (166 + 10) 1 4) (166 + 11) 1 1) 166 13 0 = μ2 at fm hD e1 e8 ht ⊢
  obtain ⟨μ3, f3, r3⟩ := M_step hF ht ho (Nat.zero_le _) e1
  rw [f3, Option.bind_some]
  exact ⟨μ3, rfl, ⟨TxM_om r3.1 ht, MAt_of (Nat.zero_le _) r3, by rw [r3.1.2.2 166 18 (by omega)]; exact e8, DrM_om r3.1 hD⟩, FrM_tr fm (FrM_om r3.1)⟩
end R69
