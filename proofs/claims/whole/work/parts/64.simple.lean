section R64
variable {F d : Nat} {μ μ' : Mem} {tx : List Nat} {pos : Nat} {D : Dr}
theorem sI_ne {μ : Mem} {q j : Nat} {x : Int32} {a i : Nat} (h : ¬ (a = q ∧ i = j)) : gI (sI μ q j x) a i = gI μ a i := by rw [gI_sI, if_neg h]
theorem sI_eq {μ : Mem} {q j : Nat} {x : Int32} : gI (sI μ q j x) q j = x := by rw [gI_sI, if_pos ⟨rfl, rfl⟩]
theorem row_n (F : Nat) (μ : Mem) : f_X9_readRow F μ 166 110 = bW (f_X9_number F μ 166 2 8) (fun v μ3 => some (sI μ3 168 1 v)) := by
  unfold f_X9_readRow
  rw [if_neg (by decide), if_neg (by decide), if_pos rfl]
  rfl
theorem row_b (F : Nat) (μ : Mem) : f_X9_readRow F μ 166 98 = bW (f_X9_number F μ 166 1 9) (fun v μ3 => some (sI (sI μ3 176 1 v) 166 13 (gI (sI μ3 176 1 v) 166 13 ||| 1))) := by
  unfold f_X9_readRow
  rw [if_pos rfl]
  rfl
theorem row_e (F : Nat) (μ : Mem) : f_X9_readRow F μ 166 101 = bW (f_X9_number F μ 166 0 3) (fun v μ3 => some (sI (sI μ3 177 1 v) 166 13 (gI (sI μ3 177 1 v) 166 13 ||| 2))) := by
  unfold f_X9_readRow
  rw [if_neg (by decide), if_neg (by decide), if_neg (by decide), if_neg (by decide)]
  rfl
theorem it_places (hF : 5000 ≤ F) (hd : 4 ≤ d) (ho : OkT tx) (hc : CAt d tx pos D μ) (hm : MSt tx pos D μ') (hD : OkDr D) (hz : gN D.1 = 0) (hz2 : gM D.1 = 0) : ItemR d tx pos μ μ' (f_X4_readPlaces F μ 1 d) (f_X9_readRow F μ' 166 110) := by
  obtain ⟨⟨⟨P, N, M, B, E⟩, f, s, w⟩, ⟨e, h⟩, bt, et⟩ := D
  have hz : N = 0 := hz
  have hz2 : M = 0 := hz2
  subst hz hz2
  unfold f_X4_readPlaces
  rw [row_n]
  rcases num_two hF hd ho hc hm (lo := 2) (hi := 8) (by decide) (by decide) with ⟨v, p', μ1, μ2, a1, a2, a3, a4, f1, g1, f2, r1, r2, c1, m1, o1, o2⟩ | ⟨s, v, μ1, a1, f1, g1, f2, r1⟩
  · left
    have f1 : f_X4_isNumber F μ 1 2 8 = _ := f1
    have f2 : f_X9_number F μ' 166 2 8 = _ := f2
    obtain ⟨t1, t2, ⟨x1, x2, x3, x4, x5, x6⟩, x7, x8, x9⟩ := c1
    obtain ⟨u1, u2, u3, ⟨y1, y2, y3, y4, y5⟩, y6, y7, y8⟩ := m1
    rw [f1, f2, bW_some, bW_some, if_neg (show ¬ (1 : Int32) = 0 by decide), lt_eq, g1]
    have fc := FrC_sI (FrC_rfl d μ1) (q := d) (Or.inr (by omega)) 0 (nI v)
    have fm := FrM_sI (FrM_rfl μ2) (q := 168) (j := 1) (by unfold Drf; omega) (nI v)
    refine ⟨(((v, 0, 0, B, E), f, s, w), ⟨e, h⟩, bt, et), p', _, _, rfl, rfl, FrC_tr r1 fc, FrM_tr r2 fm, a4, ⟨⟨a1, a2, hD.1.2.2.1, hD.1.2.2.2.1, hD.1.2.2.2.2.1, hD.1.2.2.2.2.2.1, hD.1.2.2.2.2.2.2.1, fun l hl => absurd hl (Nat.not_lt_zero _)⟩, fun p hp => absurd hp (Nat.not_lt_zero _)⟩, ⟨TxC_fr hd fc t1, (sI_ne (by omega)).trans t2, ⟨sI_eq, (sI_ne (by omega)).trans x2, (sI_ne (by omega)).trans x3, (sI_ne (by omega)).trans x4, (sI_ne (by omega)).trans x5, fun l hl => absurd hl (Nat.not_lt_zero _)⟩, fun p hp => absurd hp (Nat.not_lt_zero _), (sI_ne (by omega)).trans x8, (sI_ne (by omega)).trans x9⟩, ⟨TxM_fr fm u1, ?_, (sI_ne (by omega)).trans u3, ⟨sI_eq, (sI_ne (by omega)).trans y2, (sI_ne (by omega)).trans y3, (sI_ne (by omega)).trans y4, (sI_ne (by omega)).trans y5⟩, fun l hl => absurd hl (Nat.not_lt_zero _), fun p hp => absurd hp (Nat.not_lt_zero _), (sI_ne (by omega)).trans y8⟩⟩
    exact ⟨u2.1, (sI_ne (by omega)).trans u2.2.1, (sI_ne (by omega)).trans u2.2.2.1, (sI_ne (by omega)).trans u2.2.2.2.1, fun z => (sI_ne (by omega)).trans (u2.2.2.2.2 z)⟩
  · right
    have f1 : f_X4_isNumber F μ 1 2 8 = _ := f1
    have f2 : f_X9_number F μ' 166 2 8 = _ := f2
    rw [f1, f2, bW_some, bW_some, if_pos (rfl : (0 : Int32) = 0)]
    exact ⟨s, _, _, a1, rfl, rfl, r1, FrM_sI (FrM_sI (FrM_rfl μ') (by unfold Drf; omega) _) (by unfold Drf; omega) _, g1, (sI_ne (by omega)).trans sI_eq⟩
theorem or_1 (bt et : Bool) : nI ((if bt = true then 1 else 0) + (if et = true then 2 else 0)) ||| 1 = nI ((if true = true then 1 else 0) + (if et = true then 2 else 0)) := by
  cases bt <;> cases et <;> decide +kernel
theorem or_2 (bt et : Bool) : nI ((if bt = true then 1 else 0) + (if et = true then 2 else 0)) ||| 2 = nI ((if bt = true then 1 else 0) + (if true = true then 2 else 0)) := by
  cases bt <;> cases et <;> decide +kernel
theorem it_body (hF : 5000 ≤ F) (hd : 4 ≤ d) (ho : OkT tx) (hc : CAt d tx pos D μ) (hm : MSt tx pos D μ') (hD : OkDr D) : ItemR d tx pos μ μ' (f_X4_readBody F μ 1 d) (f_X9_readRow F μ' 166 98) := by
  obtain ⟨⟨⟨P, N, M, B, E⟩, f, s, w⟩, ⟨e, h⟩, bt, et⟩ := D
  unfold f_X4_readBody
  rw [row_b]
  rcases num_two hF hd ho hc hm (lo := 1) (hi := 9) (by decide) (by decide) with ⟨v, p', μ1, μ2, a1, a2, a3, a4, f1, g1, f2, r1, r2, c1, m1, o1, o2⟩ | ⟨s, v, μ1, a1, f1, g1, f2, r1⟩
  · left
    have f1 : f_X4_isNumber F μ 1 1 9 = _ := f1
    have f2 : f_X9_number F μ' 166 1 9 = _ := f2
    obtain ⟨t1, t2, ⟨x1, x2, x3, x4, x5, x6⟩, x7, x8, x9⟩ := c1
    obtain ⟨u1, u2, u3, ⟨y1, y2, y3, y4, y5⟩, y6, y7, y8⟩ := m1
    have y8 : gI μ2 166 13 = nI ((if bt = true then 1 else 0) + (if et = true then 2 else 0)) := y8
    rw [f1, f2, bW_some, bW_some, if_neg (show ¬ (1 : Int32) = 0 by decide), lt_eq, lt_eq, g1, sI_ne (μ := μ2) (show ¬ (166 = 176 ∧ 13 = 1) by omega), y8, or_1]
    have fc := FrC_sI (FrC_sI (FrC_rfl d μ1) (q := d) (Or.inr (by omega)) 8 (nI v)) (q := 1) (Or.inl rfl) 5 1
    have fm := FrM_sI (FrM_sI (FrM_rfl μ2) (q := 176) (j := 1) (by unfold Drf; omega) (nI v)) (q := 166) (j := 13) (by unfold Drf; omega) (nI ((if true = true then 1 else 0) + (if et = true then 2 else 0)))
    have nc : ∀ {a i : Nat}, ¬ (a = d ∧ i = 8) → ¬ (a = 1 ∧ i = 5) → gI (sI (sI μ1 d 8 (nI v)) 1 5 1) a i = gI μ1 a i := fun z1 z2 => (sI_ne z2).trans (sI_ne z1)
    have nm : ∀ {a i : Nat}, ¬ (a = 176 ∧ i = 1) → ¬ (a = 166 ∧ i = 13) → gI (sI (sI μ2 176 1 (nI v)) 166 13 (nI ((if true = true then 1 else 0) + (if et = true then 2 else 0)))) a i = gI μ2 a i := fun z1 z2 => (sI_ne z2).trans (sI_ne z1)
    refine ⟨(((P, N, M, v, E), f, s, w), ⟨e, h⟩, true, et), p', _, _, rfl, rfl, FrC_tr r1 fc, FrM_tr r2 fm, a4, ⟨⟨hD.1.1, hD.1.2.1, hD.1.2.2.1, hD.1.2.2.2.1, a1, a2, hD.1.2.2.2.2.2.2.1, hD.1.2.2.2.2.2.2.2⟩, hD.2⟩, ⟨TxC_fr hd fc t1, (nc (by omega) (by omega)).trans t2, ⟨(nc (by omega) (by omega)).trans x1, (nc (by omega) (by omega)).trans x2, (nc (by omega) (by omega)).trans x3, (sI_ne (by omega)).trans sI_eq, (nc (by omega) (by omega)).trans x5, fun l hl => ?_⟩, fun p hp => ?_, sI_eq, (nc (by omega) (by omega)).trans x9⟩, ⟨TxM_fr fm u1, ?_, (nm (by omega) (by omega)).trans u3, ⟨(nm (by omega) (by omega)).trans y1, (nm (by omega) (by omega)).trans y2, (nm (by omega) (by omega)).trans y3, (sI_ne (by omega)).trans sI_eq, (nm (by omega) (by omega)).trans y5⟩, fun l hl => ?_, fun p hp => ?_, sI_eq⟩⟩
    · have z := x6 l hl
      exact ⟨(nc (by omega) (by omega)).trans z.1, (nc (by omega) (by omega)).trans z.2.1, (nc (by omega) (by omega)).trans z.2.2⟩
    · have z := x7 p hp
      exact ⟨(nc (by omega) (by omega)).trans z.1, (nc (by omega) (by omega)).trans z.2⟩
    · exact ⟨u2.1, (nm (by omega) (by omega)).trans u2.2.1, (nm (by omega) (by omega)).trans u2.2.2.1, (nm (by omega) (by omega)).trans u2.2.2.2.1, fun z => (nm (by omega) (by omega)).trans (u2.2.2.2.2 z)⟩
    · have z := y6 l hl
      exact ⟨(nm (by omega) (by omega)).trans z.1, (nm (by omega) (by omega)).trans z.2.1, (nm (by omega) (by omega)).trans z.2.2⟩
    · have z := y7 p hp
      exact ⟨(nm (by omega) (by omega)).trans z.1, (nm (by omega) (by omega)).trans z.2⟩
  · right
    have f1 : f_X4_isNumber F μ 1 1 9 = _ := f1
    have f2 : f_X9_number F μ' 166 1 9 = _ := f2
    rw [f1, f2, bW_some, bW_some, if_pos (rfl : (0 : Int32) = 0)]
    exact ⟨s, _, _, a1, rfl, rfl, r1, FrM_sI (FrM_sI (FrM_sI (FrM_rfl μ') (by unfold Drf; omega) _) (by unfold Drf; omega) _) (by unfold Drf; omega) _, g1, (sI_ne (by omega)).trans ((sI_ne (by omega)).trans sI_eq)⟩
theorem it_error (hF : 5000 ≤ F) (hd : 4 ≤ d) (ho : OkT tx) (hc : CAt d tx pos D μ) (hm : MSt tx pos D μ') (hD : OkDr D) : ItemR d tx pos μ μ' (f_X4_readError F μ 1 d) (f_X9_readRow F μ' 166 101) := by
  obtain ⟨⟨⟨P, N, M, B, E⟩, f, s, w⟩, ⟨e, h⟩, bt, et⟩ := D
  unfold f_X4_readError
  rw [row_e]
  rcases num_two hF hd ho hc hm (lo := 0) (hi := 3) (by decide) (by decide) with ⟨v, p', μ1, μ2, a1, a2, a3, a4, f1, g1, f2, r1, r2, c1, m1, o1, o2⟩ | ⟨s, v, μ1, a1, f1, g1, f2, r1⟩
  · left
    have f1 : f_X4_isNumber F μ 1 0 3 = _ := f1
    have f2 : f_X9_number F μ' 166 0 3 = _ := f2
    obtain ⟨t1, t2, ⟨x1, x2, x3, x4, x5, x6⟩, x7, x8, x9⟩ := c1
    obtain ⟨u1, u2, u3, ⟨y1, y2, y3, y4, y5⟩, y6, y7, y8⟩ := m1
    have y8 : gI μ2 166 13 = nI ((if bt = true then 1 else 0) + (if et = true then 2 else 0)) := y8
    rw [f1, f2, bW_some, bW_some, if_neg (show ¬ (1 : Int32) = 0 by decide), lt_eq, lt_eq, g1, sI_ne (μ := μ2) (show ¬ (166 = 177 ∧ 13 = 1) by omega), y8, or_2]
    have fc := FrC_sI (FrC_sI (FrC_rfl d μ1) (q := d) (Or.inr (by omega)) 9 (nI v)) (q := 1) (Or.inl rfl) 6 1
    have fm := FrM_sI (FrM_sI (FrM_rfl μ2) (q := 177) (j := 1) (by unfold Drf; omega) (nI v)) (q := 166) (j := 13) (by unfold Drf; omega) (nI ((if bt = true then 1 else 0) + (if true = true then 2 else 0)))
    have nc : ∀ {a i : Nat}, ¬ (a = d ∧ i = 9) → ¬ (a = 1 ∧ i = 6) → gI (sI (sI μ1 d 9 (nI v)) 1 6 1) a i = gI μ1 a i := fun z1 z2 => (sI_ne z2).trans (sI_ne z1)
    have nm : ∀ {a i : Nat}, ¬ (a = 177 ∧ i = 1) → ¬ (a = 166 ∧ i = 13) → gI (sI (sI μ2 177 1 (nI v)) 166 13 (nI ((if bt = true then 1 else 0) + (if true = true then 2 else 0)))) a i = gI μ2 a i := fun z1 z2 => (sI_ne z2).trans (sI_ne z1)
    refine ⟨(((P, N, M, B, v), f, s, w), ⟨e, h⟩, bt, true), p', _, _, rfl, rfl, FrC_tr r1 fc, FrM_tr r2 fm, a4, ⟨⟨hD.1.1, hD.1.2.1, hD.1.2.2.1, hD.1.2.2.2.1, hD.1.2.2.2.2.1, hD.1.2.2.2.2.2.1, a2, hD.1.2.2.2.2.2.2.2⟩, hD.2⟩, ⟨TxC_fr hd fc t1, (nc (by omega) (by omega)).trans t2, ⟨(nc (by omega) (by omega)).trans x1, (nc (by omega) (by omega)).trans x2, (nc (by omega) (by omega)).trans x3, (nc (by omega) (by omega)).trans x4, (sI_ne (by omega)).trans sI_eq, fun l hl => ?_⟩, fun p hp => ?_, (nc (by omega) (by omega)).trans x8, sI_eq⟩, ⟨TxM_fr fm u1, ?_, (nm (by omega) (by omega)).trans u3, ⟨(nm (by omega) (by omega)).trans y1, (nm (by omega) (by omega)).trans y2, (nm (by omega) (by omega)).trans y3, (nm (by omega) (by omega)).trans y4, (sI_ne (by omega)).trans sI_eq⟩, fun l hl => ?_, fun p hp => ?_, sI_eq⟩⟩
    · have z := x6 l hl
      exact ⟨(nc (by omega) (by omega)).trans z.1, (nc (by omega) (by omega)).trans z.2.1, (nc (by omega) (by omega)).trans z.2.2⟩
    · have z := x7 p hp
      exact ⟨(nc (by omega) (by omega)).trans z.1, (nc (by omega) (by omega)).trans z.2⟩
    · exact ⟨u2.1, (nm (by omega) (by omega)).trans u2.2.1, (nm (by omega) (by omega)).trans u2.2.2.1, (nm (by omega) (by omega)).trans u2.2.2.2.1, fun z => (nm (by omega) (by omega)).trans (u2.2.2.2.2 z)⟩
    · have z := y6 l hl
      exact ⟨(nm (by omega) (by omega)).trans z.1, (nm (by omega) (by omega)).trans z.2.1, (nm (by omega) (by omega)).trans z.2.2⟩
    · have z := y7 p hp
      exact ⟨(nm (by omega) (by omega)).trans z.1, (nm (by omega) (by omega)).trans z.2⟩
  · right
    have f1 : f_X4_isNumber F μ 1 0 3 = _ := f1
    have f2 : f_X9_number F μ' 166 0 3 = _ := f2
    rw [f1, f2, bW_some, bW_some, if_pos (rfl : (0 : Int32) = 0)]
    exact ⟨s, _, _, a1, rfl, rfl, r1, FrM_sI (FrM_sI (FrM_sI (FrM_rfl μ') (by unfold Drf; omega) _) (by unfold Drf; omega) _) (by unfold Drf; omega) _, g1, (sI_ne (by omega)).trans ((sI_ne (by omega)).trans sI_eq)⟩
end R64
