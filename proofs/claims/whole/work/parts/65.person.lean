section R65
variable {F d : Nat} {μ μ' : Mem} {tx : List Nat} {pos : Nat} {D : Dr}
def updN (f : Nat → Nat) (i x : Nat) : Nat → Nat := fun j => if j = i then x else f j
theorem updN_eq (f : Nat → Nat) (i x : Nat) : updN f i x i = x := if_pos rfl
theorem updN_ne {f : Nat → Nat} {i x j : Nat} (h : j ≠ i) : updN f i x j = f j := if_neg h
/-- what the row writes beyond the draft's lanes and people changes nothing of it -/
theorem MSt_sI (h : MSt tx pos D μ) {q j : Nat} (hq : ((q = 174 ∨ q = 175) ∧ j = gM D.1) ∨ ((q = 170 ∨ q = 171 ∨ q = 172) ∧ j = 8 + gN D.1)) (x : Int32) : MSt tx pos D (sI μ q j x) := by
  obtain ⟨u1, u2, u3, ⟨y1, y2, y3, y4, y5⟩, y6, y7, y8⟩ := h
  have n : ∀ {a i : Nat}, ¬ (a = q ∧ i = j) → gI (sI μ q j x) a i = gI μ a i := fun z => sI_ne z
  refine ⟨TxM_fr (FrM_sI (FrM_rfl μ) (q := q) (j := j) (by unfold Drf; omega) x) u1, ⟨u2.1, (n (by omega)).trans u2.2.1, (n (by omega)).trans u2.2.2.1, (n (by omega)).trans u2.2.2.2.1, fun z => (n (by omega)).trans (u2.2.2.2.2 z)⟩, (n (by omega)).trans u3, ⟨(n (by omega)).trans y1, (n (by omega)).trans y2, (n (by omega)).trans y3, (n (by omega)).trans y4, (n (by omega)).trans y5⟩, fun l hl => ?_, fun p hp => ?_, (n (by omega)).trans y8⟩
  · have z := y6 l hl
    exact ⟨(n (by omega)).trans z.1, (n (by omega)).trans z.2.1, (n (by omega)).trans z.2.2⟩
  · have z := y7 p hp
    exact ⟨(n (by omega)).trans z.1, (n (by omega)).trans z.2⟩
theorem row_p (F : Nat) (μ : Mem) : f_X9_readRow F μ 166 112 = bW (f_X9_number F μ 166 0 9) (fun v1 μ1 => if ix (gI μ 173 1) 5 = true then lt (sI μ1 174 ((gI μ 173 1).toNatClampNeg) v1) (fun μ2 => bW (f_X9_number F μ2 166 0 (gI μ2 168 1 - 1)) (fun v3 μ3 => if ix (gI μ2 173 1) 5 = true then lt (sI μ3 175 ((gI μ2 173 1).toNatClampNeg) v3) (fun μ4 => some (sI μ4 173 1 (gI μ4 173 1 + 1))) else none)) else none) := by
  unfold f_X9_readRow
  rw [if_neg (by decide), if_neg (by decide), if_neg (by decide), if_pos rfl]
  rfl
theorem addPerson_ok {M : Nat} (hM : M < 5) (e : gI μ d 5 = nI M) (x y : Int32) : f_X7_addPerson F μ d x y = some (1, sI (sI (sI μ (d + 4) M x) (d + 5) M y) d 5 (nI (M + 1))) := by
  have j1 : ix (nI M) 5 = true := nI_ix (by omega) (by decide)
  have j2 : (nI M).toNatClampNeg = M := nI_clamp (by omega)
  have e1 : gI (sI μ (d + 4) M x) d 5 = nI M := (sI_ne (by omega)).trans e
  have e2 : gI (sI (sI μ (d + 4) M x) (d + 5) M y) d 5 = nI M := (sI_ne (by omega)).trans e1
  unfold f_X7_addPerson
  rw [e, if_pos (show nI M < (5 : Int32) from nI_lt hM (by decide)), if_pos j1, j2, lt_eq, e1, if_pos j1, j2, lt_eq, e2, nI_1, lt_eq]
theorem it_person (hF : 5000 ≤ F) (hd : 4 ≤ d) (ho : OkT tx) (hc : CAt d tx pos D μ) (hm : MSt tx pos D μ') (hD : OkDr D) (hM : gM D.1 < 5) : ItemR d tx pos μ μ' (f_X4_readPerson F μ 1 d) (f_X9_readRow F μ' 166 112) := by
  obtain ⟨⟨⟨P, N, M, B, E⟩, f, s, w⟩, ⟨e, h⟩, bt, et⟩ := D
  have hM : M < 5 := hM
  have hP1 : 2 ≤ P := hD.1.1
  have hP2 : P ≤ 8 := hD.1.2.1
  have j1 : ix (nI M) 5 = true := nI_ix (by omega) (by decide)
  have j2 : (nI M).toNatClampNeg = M := nI_clamp (by omega)
  have eP : nI P - 1 = nI (P - 1) := nI_sub (b := 1) (by omega)
  have y3 : gI μ' 173 1 = nI M := hm.2.2.2.1.2.2.1
  unfold f_X4_readPerson
  rw [row_p, y3]
  rcases num_two hF hd ho hc hm (lo := 0) (hi := 9) (by decide) (by decide) with ⟨v, p', μ1, μ2, a1, a2, a3, a4, f1, g1, f2, r1, r2, c1, m1, o1, o2⟩ | ⟨s, v, μ1, a1, f1, g1, f2, r1⟩
  · have f1 : f_X4_isNumber F μ 1 0 9 = _ := f1
    have f2 : f_X9_number F μ' 166 0 9 = _ := f2
    have m2 := MSt_sI m1 (q := 174) (j := M) (Or.inl ⟨Or.inl rfl, rfl⟩) (nI v)
    have fm2 := FrM_tr r2 (FrM_sI (FrM_rfl μ2) (q := 174) (j := M) (by unfold Drf; omega) (nI v))
    have x1 : gI μ1 d 0 = nI P := c1.2.2.1.1
    rw [f1, f2, bW_some, bW_some, if_neg (show ¬ (1 : Int32) = 0 by decide), if_pos j1, j2, lt_eq, x1, eP, g1]
    have ev : gI (sI μ2 174 M (nI v)) 174 M = nI v := sI_eq
    generalize sI μ2 174 M (nI v) = μ3 at m2 fm2 ev ⊢
    have z1 : gI μ3 168 1 = nI P := m2.2.2.2.1.1
    have z3 : gI μ3 173 1 = nI M := m2.2.2.2.1.2.2.1
    rw [z1, z3, eP]
    rcases num_two hF hd ho c1 m2 (lo := 0) (hi := P - 1) (by decide) (by omega) with ⟨v', p2, μ4, μ5, b1, b2, b3, b4, k1, l1, k2, s1, s2, c3, m3, o3, o4⟩ | ⟨s, v', μ4, b1, k1, l1, k2, s1⟩
    · left
      have k1 : f_X4_isNumber F μ1 1 0 (nI (P - 1)) = _ := k1
      have k2 : f_X9_number F μ3 166 0 (nI (P - 1)) = _ := k2
      have c35 : gI μ4 d 5 = nI M := c3.2.2.1.2.2.1
      have m35 : gI μ5 173 1 = nI M := m3.2.2.2.1.2.2.1
      have ev5 : gI μ5 174 M = nI v := (o4.2.2 174 M (by omega)).trans ev
      rw [k1, k2, bW_some, bW_some, if_neg (show ¬ (1 : Int32) = 0 by decide), addPerson_ok hM c35, bW_some, if_neg (show ¬ (1 : Int32) = 0 by decide), if_pos j1, j2, lt_eq, sI_ne (show ¬ (173 = 175 ∧ 1 = M) by omega), m35, nI_1, l1]
      have fc := FrC_sI (FrC_sI (FrC_sI (FrC_rfl d μ4) (q := d + 4) (Or.inr (by omega)) M (nI v)) (q := d + 5) (Or.inr (by omega)) M (nI v')) (q := d) (Or.inr (by omega)) 5 (nI (M + 1))
      have fm := FrM_sI (FrM_sI (FrM_rfl μ5) (q := 175) (j := M) (by unfold Drf; omega) (nI v')) (q := 173) (j := 1) (by unfold Drf; omega) (nI (M + 1))
      have nc : ∀ {a i : Nat}, ¬ (a = d + 4 ∧ i = M) → ¬ (a = d + 5 ∧ i = M) → ¬ (a = d ∧ i = 5) → gI (sI (sI (sI μ4 (d + 4) M (nI v)) (d + 5) M (nI v')) d 5 (nI (M + 1))) a i = gI μ4 a i := fun z1 z2 z3 => (sI_ne z3).trans ((sI_ne z2).trans (sI_ne z1))
      have nm : ∀ {a i : Nat}, ¬ (a = 175 ∧ i = M) → ¬ (a = 173 ∧ i = 1) → gI (sI (sI μ5 175 M (nI v')) 173 1 (nI (M + 1))) a i = gI μ5 a i := fun z1 z2 => (sI_ne z2).trans (sI_ne z1)
      obtain ⟨t1, t2, ⟨x1, x2, x3, x4, x5, x6⟩, x7, x8, x9⟩ := c3
      obtain ⟨u1, u2, u3, ⟨y1, y2, y3, y4, y5⟩, y6, y7, y8⟩ := m3
      refine ⟨(((P, N, M + 1, B, E), f, s, w), ⟨updN e M v, updN h M v'⟩, bt, et), p2, _, _, rfl, rfl, FrC_tr r1 (FrC_tr s1 fc), FrM_tr fm2 (FrM_tr s2 fm), by omega, ⟨⟨hP1, hP2, hD.1.2.2.1, by show M + 1 ≤ 5; omega, hD.1.2.2.2.2.1, hD.1.2.2.2.2.2.1, hD.1.2.2.2.2.2.2.1, hD.1.2.2.2.2.2.2.2⟩, fun p hp => ?_⟩, ⟨TxC_fr hd fc t1, (nc (by omega) (by omega) (by omega)).trans t2, ⟨(nc (by omega) (by omega) (by omega)).trans x1, (nc (by omega) (by omega) (by omega)).trans x2, sI_eq, (nc (by omega) (by omega) (by omega)).trans x4, (nc (by omega) (by omega) (by omega)).trans x5, fun l hl => ?_⟩, fun p hp => ?_, (nc (by omega) (by omega) (by omega)).trans x8, (nc (by omega) (by omega) (by omega)).trans x9⟩, ⟨TxM_fr fm u1, ?_, (nm (by omega) (by omega)).trans u3, ⟨(nm (by omega) (by omega)).trans y1, (nm (by omega) (by omega)).trans y2, sI_eq, (nm (by omega) (by omega)).trans y4, (nm (by omega) (by omega)).trans y5⟩, fun l hl => ?_, fun p hp => ?_, (nm (by omega) (by omega)).trans y8⟩⟩
      · show updN e M v p ≤ 9 ∧ updN h M v' p < P
        have hp : p < M + 1 := hp
        by_cases c : p = M
        · subst c; rw [updN_eq, updN_eq]; omega
        · rw [updN_ne c, updN_ne c]; exact hD.2 p (show p < M by omega)
      · have z := x6 l hl
        exact ⟨(nc (by omega) (by omega) (by omega)).trans z.1, (nc (by omega) (by omega) (by omega)).trans z.2.1, (nc (by omega) (by omega) (by omega)).trans z.2.2⟩
      · show gI _ (d + 4) p = nI (updN e M v p) ∧ gI _ (d + 5) p = nI (updN h M v' p)
        have hp : p < M + 1 := hp
        by_cases c : p = M
        · subst c; rw [updN_eq, updN_eq]
          exact ⟨(sI_ne (by omega)).trans ((sI_ne (by omega)).trans sI_eq), (sI_ne (by omega)).trans sI_eq⟩
        · rw [updN_ne c, updN_ne c]
          have z := x7 p (show p < M by omega)
          exact ⟨(nc (by omega) (by omega) (by omega)).trans z.1, (nc (by omega) (by omega) (by omega)).trans z.2⟩
      · exact ⟨u2.1, (nm (by omega) (by omega)).trans u2.2.1, (nm (by omega) (by omega)).trans u2.2.2.1, (nm (by omega) (by omega)).trans u2.2.2.2.1, fun z => (nm (by omega) (by omega)).trans (u2.2.2.2.2 z)⟩
      · have z := y6 l hl
        exact ⟨(nm (by omega) (by omega)).trans z.1, (nm (by omega) (by omega)).trans z.2.1, (nm (by omega) (by omega)).trans z.2.2⟩
      · show gI _ 174 p = nI (updN e M v p) ∧ gI _ 175 p = nI (updN h M v' p)
        have hp : p < M + 1 := hp
        by_cases c : p = M
        · subst c; rw [updN_eq, updN_eq]
          exact ⟨(nm (by omega) (by omega)).trans ev5, (sI_ne (by omega)).trans sI_eq⟩
        · rw [updN_ne c, updN_ne c]
          have z := y7 p (show p < M by omega)
          exact ⟨(nm (by omega) (by omega)).trans z.1, (nm (by omega) (by omega)).trans z.2⟩
    · right
      have k1 : f_X4_isNumber F μ1 1 0 (nI (P - 1)) = _ := k1
      have k2 : f_X9_number F μ3 166 0 (nI (P - 1)) = _ := k2
      rw [k1, k2, bW_some, bW_some, if_pos (rfl : (0 : Int32) = 0), if_pos j1, j2, lt_eq]
      exact ⟨s, _, _, b1, rfl, rfl, FrC_tr r1 s1, FrM_tr fm2 (FrM_sI (FrM_sI (FrM_sI (FrM_rfl μ3) (by unfold Drf; omega) _) (by unfold Drf; omega) _) (by unfold Drf; omega) _), l1, (sI_ne (by omega)).trans ((sI_ne (by omega)).trans sI_eq)⟩
  · right
    have f1 : f_X4_isNumber F μ 1 0 9 = _ := f1
    have f2 : f_X9_number F μ' 166 0 9 = _ := f2
    have e8 : ¬ gI (sI (sI μ' 166 18 (nI s)) 174 M v) 166 18 = -9 := by
      rw [sI_ne (by omega), sI_eq]
      exact nI_n9 (by omega)
    have e3 : gI (sI (sI μ' 166 18 (nI s)) 174 M v) 173 1 = nI M := (sI_ne (by omega)).trans ((sI_ne (by omega)).trans y3)
    rw [f1, f2, bW_some, bW_some, if_pos (rfl : (0 : Int32) = 0), if_pos j1, j2, lt_eq, M_number9 e8, bW_some, e3, if_pos j1, j2, lt_eq]
    exact ⟨s, _, _, a1, rfl, rfl, r1, FrM_sI (FrM_sI (FrM_sI (FrM_sI (FrM_rfl μ') (by unfold Drf; omega) _) (by unfold Drf; omega) _) (by unfold Drf; omega) _) (by unfold Drf; omega) _, g1, (sI_ne (by omega)).trans ((sI_ne (by omega)).trans ((sI_ne (by omega)).trans sI_eq))⟩
end R65
