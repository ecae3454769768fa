section R66
variable {F d : Nat} {μ μ' : Mem} {tx : List Nat} {pos : Nat} {D : Dr}
def laneK (F : Nat) (c : Int32) (v : Int32) (μ : Mem) : Option Mem := if ix c 16 = true then lt (sI μ 171 c.toNatClampNeg v) (fun μ => bW (f_X9_number F μ 166 1 40) (fun v2 μ => if ix c 16 = true then lt (sI μ 172 c.toNatClampNeg v2) (fun μ => some (sI μ 169 1 (gI μ 169 1 + 1))) else none)) else none
def laneX (F : Nat) (c : Int32) (μ : Mem) : Option Mem := if gI μ 166 16 = 1 then (if gI μ 166 17 < gI μ 168 1 then if ix c 16 = true then (if gI μ 166 17 = gI μ 170 c.toNatClampNeg then bW (f_X9_due F μ 166 0) (laneK F c) else bW (f_X9_due F μ 166 1) (laneK F c)) else none else bW (f_X9_due F μ 166 0) (laneK F c)) else bW (f_X9_due F μ 166 0) (laneK F c)
theorem row_l (F : Nat) (μ : Mem) : f_X9_readRow F μ 166 108 = bW (f_X9_number F μ 166 0 (gI μ 168 1 - 1)) (fun v1 μ1 => if ix (8 + gI μ 169 1) 16 = true then lt (sI μ1 170 ((8 + gI μ 169 1).toNatClampNeg) v1) (fun μ2 => laneX F (8 + gI μ 169 1) μ2) else none) := by
  unfold f_X9_readRow
  rw [if_neg (by decide), if_pos rfl]
  rfl
theorem addLane_ok {N : Nat} (hN : N < 8) (e : gI μ d 1 = nI N) (x y z : Int32) : f_X7_addLane F μ d x y z = some (1, sI (sI (sI (sI μ (d + 1) N x) (d + 2) N y) (d + 3) N z) d 1 (nI (N + 1))) := by
  have j1 : ix (nI N) 8 = true := nI_ix (by omega) (by decide)
  have j2 : (nI N).toNatClampNeg = N := nI_clamp (by omega)
  have e1 : gI (sI μ (d + 1) N x) d 1 = nI N := (sI_ne (by omega)).trans e
  have e2 : gI (sI (sI μ (d + 1) N x) (d + 2) N y) d 1 = nI N := (sI_ne (by omega)).trans e1
  have e3 : gI (sI (sI (sI μ (d + 1) N x) (d + 2) N y) (d + 3) N z) d 1 = nI N := (sI_ne (by omega)).trans e2
  unfold f_X7_addLane
  rw [e, if_pos (show nI N < (8 : Int32) from nI_lt hN (by decide)), if_pos j1, j2, lt_eq, e1, if_pos j1, j2, lt_eq, e2, if_pos j1, j2, lt_eq, e3, nI_1, lt_eq]
theorem laneX9 (e8 : ¬ gI μ 166 18 = -9) {c : Int32} (j1 : ix c 16 = true) : laneX F c μ = laneK F c (gI μ 166 17) μ := by
  have hdue : ∀ x, f_X9_due F μ 166 x = some (gI μ 166 17, μ) := fun x => by
    unfold f_X9_due
    rw [if_neg e8]
  unfold laneX
  simp only [hdue, bW_some, j1, if_true, ite_self]
theorem laneK9 (e8 : ¬ gI μ 166 18 = -9) {N : Nat} (hN : N < 8) (v : Int32) : ∃ μ2, laneK F (nI (8 + N)) v μ = some μ2 ∧ FrM μ μ2 ∧ gI μ2 166 18 = gI μ 166 18 := by
  have j1 : ix (nI (8 + N)) 16 = true := nI_ix (by omega) (by decide)
  have j2 : (nI (8 + N)).toNatClampNeg = 8 + N := nI_clamp (by omega)
  have e8' : ¬ gI (sI μ 171 (8 + N) v) 166 18 = -9 := by rw [sI_ne (by omega)]; exact e8
  unfold laneK
  rw [if_pos j1, j2, lt_eq, M_number9 e8', bW_some, if_pos j1, lt_eq]
  exact ⟨_, rfl, FrM_sI (FrM_sI (FrM_sI (FrM_rfl μ) (by unfold Drf; omega) _) (by unfold Drf; omega) _) (by unfold Drf; omega) _, (sI_ne (by omega)).trans ((sI_ne (by omega)).trans (sI_ne (by omega)))⟩
/-- the other end of a lane -/
theorem lane_b (hF : 5000 ≤ F) (hd : 4 ≤ d) (ho : OkT tx) (hc : CAt d tx pos D μ) (hm : MSt tx pos D μ') (hD : OkDr D) {N a : Nat} (hN : N < 8) (ha : a < 8) (ea : gI μ' 170 (8 + N) = nI a) :
    (∃ v p' μ1 μ2, v < gP D.1 ∧ v ≠ a ∧ pos < p' ∧ f_X4_isNumber F μ 1 0 (nI (gP D.1 - 1)) = some (1, μ1) ∧ gI μ1 1 4 = nI v ∧ laneX F (nI (8 + N)) μ' = laneK F (nI (8 + N)) (nI v) μ2 ∧ FrC d μ μ1 ∧ FrM μ' μ2 ∧ CAt d tx p' D μ1 ∧ MSt tx p' D μ2 ∧ Om μ' μ2) ∨
    (∃ s v μ1, s ≤ 150 ∧ (f_X4_isNumber F μ 1 0 (nI (gP D.1 - 1)) = some (0, μ1) ∨ (f_X4_isNumber F μ 1 0 (nI (gP D.1 - 1)) = some (1, μ1) ∧ gI μ1 1 4 = nI a)) ∧ gI μ1 1 2 = nI s ∧ laneX F (nI (8 + N)) μ' = laneK F (nI (8 + N)) v (sI μ' 166 18 (nI s)) ∧ FrC d μ μ1) := by
  obtain ⟨c1, c2, c3⟩ := hc
  obtain ⟨m1, m2, m3, m4⟩ := hm
  obtain ⟨hp, q1, q2, q3, q4⟩ := id m2
  have h1 := ho.1
  have hP1 : 2 ≤ gP D.1 := hD.1.1
  have hP2 : gP D.1 ≤ 8 := hD.1.2.1
  have y1 : gI μ' 168 1 = nI (gP D.1) := m4.1.1
  obtain ⟨k1, k2, k3, k4, k5, k6, k7⟩ := tk_ok (tx := tx) hp
  have hk := kM_lt hp
  have j1 : ix (nI (8 + N)) 16 = true := nI_ix (by omega) (by decide)
  have j2 : (nI (8 + N)).toNatClampNeg = 8 + N := nI_clamp (by omega)
  obtain ⟨v, μ1, f1, r1, hv⟩ := C_isNumber hF c1 ho hp (lo := 0) (hi := gP D.1 - 1) (by decide) (by omega) c2
  have f1 : f_X4_isNumber F μ 1 0 (nI (gP D.1 - 1)) = some (v, μ1) := f1
  have hf : f_X9_due F μ' 166 0 = some (gI μ' 166 17, sI μ' 166 18 (nI (tk tx pos).1)) := by rw [M_dueF m3, q2]
  unfold okNum at hv
  unfold laneX
  rw [q3]
  by_cases e1 : (tk tx pos).2.1 = 2
  · have e4 := q4 e1
    have hv99 := k5 e1
    rw [if_pos (show nI (kM (tk tx pos)) = (1 : Int32) by rw [(kM_num hp).mpr e1]; rfl), e4, y1]
    by_cases e2 : (tk tx pos).2.2.1 < gP D.1
    · have v1 : v = 1 := by
        rcases hv with ⟨z, -⟩ | ⟨-, z⟩
        · exact z
        · exact absurd ⟨e1, by omega, by omega⟩ z
      subst v1
      rw [if_pos (nI_lt e2 (by omega)), if_pos j1, j2, ea]
      by_cases e3 : (tk tx pos).2.2.1 = a
      · right
        rw [if_pos (by rw [e3]), hf, bW_some]
        exact ⟨(tk tx pos).1, _, μ1, by omega, Or.inr ⟨f1, by rw [← e3]; exact r1.2.2.2.2.1 (Or.inr e1)⟩, r1.2.2.1, rfl, FrC_off r1.1⟩
      · left
        obtain ⟨μ2, f2, r2⟩ := M_dueT hF m1 ho k3 q1 m3
        have := k4 (by omega)
        rw [if_neg (fun z => e3 (nI_inj (by omega) (by omega) z)), f2, bW_some, e4]
        refine ⟨_, (tk tx pos).2.2.2, μ1, μ2, e2, e3, by omega, f1, r1.2.2.2.2.1 (Or.inr e1), rfl, FrC_off r1.1, FrM_om r2.1, ⟨TxC_off r1.1 c1, r1.2.1, DrC_rd hd r1 c3⟩, ⟨TxM_om r2.1 m1, MAt_of k3 r2, ?_, DrM_om r2.1 m4⟩, r2.1⟩
        rw [r2.1.2.2 166 18 (by omega)]; exact m3
    · right
      have v1 : v = 0 := by
        rcases hv with ⟨-, z⟩ | ⟨z, -⟩
        · omega
        · exact z
      subst v1
      rw [if_neg (nI_nlt (by omega) (by omega)), hf, bW_some]
      exact ⟨(tk tx pos).1, _, μ1, by omega, Or.inl f1, r1.2.2.1, rfl, FrC_off r1.1⟩
  · right
    have v1 : v = 0 := by
      rcases hv with ⟨-, z⟩ | ⟨z, -⟩
      · exact absurd z.1 e1
      · exact z
    subst v1
    rw [if_neg (show ¬ nI (kM (tk tx pos)) = (1 : Int32) from fun z => e1 ((kM_num hp).mp ((nI_eq (b := 1) (by omega) (by decide)).mp z))), hf, bW_some]
    exact ⟨(tk tx pos).1, _, μ1, by omega, Or.inl f1, r1.2.2.1, rfl, FrC_off r1.1⟩
theorem it_lane (hF : 5000 ≤ F) (hd : 4 ≤ d) (ho : OkT tx) (hc : CAt d tx pos D μ) (hm : MSt tx pos D μ') (hD : OkDr D) (hN : gN D.1 < 8) : ItemR d tx pos μ μ' (f_X4_readLane F μ 1 d) (f_X9_readRow F μ' 166 108) := by
  obtain ⟨⟨⟨P, N, M, B, E⟩, f, s, w⟩, ⟨e, h⟩, bt, et⟩ := D
  have hN : N < 8 := hN
  have hP1 : 2 ≤ P := hD.1.1
  have hP2 : P ≤ 8 := hD.1.2.1
  have j1 : ix (nI (8 + N)) 16 = true := nI_ix (by omega) (by decide)
  have j2 : (nI (8 + N)).toNatClampNeg = 8 + N := nI_clamp (by omega)
  have eP : nI P - 1 = nI (P - 1) := nI_sub (b := 1) (by omega)
  have eN : (8 : Int32) + nI N = nI (8 + N) := nI_add 8 N
  have y1 : gI μ' 168 1 = nI P := hm.2.2.2.1.1
  have y2 : gI μ' 169 1 = nI N := hm.2.2.2.1.2.1
  have x1 : gI μ d 0 = nI P := hc.2.2.1.1
  unfold f_X4_readLane
  rw [row_l, y1, y2, eN, eP, x1, eP]
  rcases num_two hF hd ho hc hm (lo := 0) (hi := P - 1) (by decide) (by omega) with ⟨v, p', μ1, μ2, a1, a2, a3, a4, f1, g1, f2, r1, r2, c1, m1, o1, o2⟩ | ⟨s, v, μ1, a1, f1, g1, f2, r1⟩
  · have f1 : f_X4_isNumber F μ 1 0 (nI (P - 1)) = _ := f1
    have f2 : f_X9_number F μ' 166 0 (nI (P - 1)) = _ := f2
    have m2 := MSt_sI m1 (q := 170) (j := 8 + N) (Or.inr ⟨Or.inl rfl, rfl⟩) (nI v)
    have fm2 := FrM_tr r2 (FrM_sI (FrM_rfl μ2) (q := 170) (j := 8 + N) (by unfold Drf; omega) (nI v))
    have x1 : gI μ1 d 0 = nI P := c1.2.2.1.1
    rw [f1, f2, bW_some, bW_some, if_neg (show ¬ (1 : Int32) = 0 by decide), if_pos j1, j2, lt_eq, x1, eP, g1]
    have ev : gI (sI μ2 170 (8 + N) (nI v)) 170 (8 + N) = nI v := sI_eq
    generalize sI μ2 170 (8 + N) (nI v) = μ3 at m2 fm2 ev ⊢
    rcases lane_b hF hd ho c1 m2 hD hN (show v < 8 by omega) ev with ⟨v', p2, μ4, μ5, b1, b2, b4, k1, l1, k2, s1, s2, c3, m3, o4⟩ | ⟨s, v', μ4, b1, k1, l1, k2, s1⟩
    · have b1 : v' < P := b1
      have k1 : f_X4_isNumber F μ1 1 0 (nI (P - 1)) = _ := k1
      rw [k1, k2, bW_some, if_neg (show ¬ (1 : Int32) = 0 by decide), l1, if_neg (fun z => b2 (nI_inj (by omega) (by omega) z))]
      unfold laneK
      rw [if_pos j1, j2, lt_eq]
      have m5 := MSt_sI m3 (q := 171) (j := 8 + N) (Or.inr ⟨Or.inr (Or.inl rfl), rfl⟩) (nI v')
      have fm5 := FrM_tr fm2 (FrM_tr s2 (FrM_sI (FrM_rfl μ5) (q := 171) (j := 8 + N) (by unfold Drf; omega) (nI v')))
      have ev5 : gI (sI μ5 171 (8 + N) (nI v')) 170 (8 + N) = nI v := (sI_ne (by omega)).trans ((o4.2.2 170 (8 + N) (by omega)).trans ev)
      have ew5 : gI (sI μ5 171 (8 + N) (nI v')) 171 (8 + N) = nI v' := sI_eq
      generalize sI μ5 171 (8 + N) (nI v') = μ6 at m5 fm5 ev5 ew5 ⊢
      rcases num_two hF hd ho c3 m5 (lo := 1) (hi := 40) (by decide) (by decide) with ⟨v2, p3, μ7, μ8, d1, d2, d3, d4, i1, n1, i2, t1, t2, c7, m7, o7, o8⟩ | ⟨s, v2, μ7, d1, i1, n1, i2, t1⟩
      · left
        have i1 : f_X4_isNumber F μ4 1 1 40 = _ := i1
        have i2 : f_X9_number F μ6 166 1 40 = _ := i2
        have c75 : gI μ7 d 1 = nI N := c7.2.2.1.2.1
        have m75 : gI μ8 169 1 = nI N := m7.2.2.2.1.2.1
        have ev8 : gI μ8 170 (8 + N) = nI v := (o8.2.2 _ _ (by omega)).trans ev5
        have ew8 : gI μ8 171 (8 + N) = nI v' := (o8.2.2 _ _ (by omega)).trans ew5
        rw [i1, i2, bW_some, bW_some, if_neg (show ¬ (1 : Int32) = 0 by decide), addLane_ok hN c75, bW_some, if_neg (show ¬ (1 : Int32) = 0 by decide), if_pos j1, lt_eq, sI_ne (show ¬ (169 = 172 ∧ 1 = 8 + N) by omega), m75, nI_1, n1]
        have fc := FrC_sI (FrC_sI (FrC_sI (FrC_sI (FrC_rfl d μ7) (q := d + 1) (Or.inr (by omega)) N (nI v)) (q := d + 2) (Or.inr (by omega)) N (nI v')) (q := d + 3) (Or.inr (by omega)) N (nI v2)) (q := d) (Or.inr (by omega)) 1 (nI (N + 1))
        have fm := FrM_sI (FrM_sI (FrM_rfl μ8) (q := 172) (j := 8 + N) (by unfold Drf; omega) (nI v2)) (q := 169) (j := 1) (by unfold Drf; omega) (nI (N + 1))
        have nc : ∀ {a i : Nat}, ¬ (a = d + 1 ∧ i = N) → ¬ (a = d + 2 ∧ i = N) → ¬ (a = d + 3 ∧ i = N) → ¬ (a = d ∧ i = 1) → gI (sI (sI (sI (sI μ7 (d + 1) N (nI v)) (d + 2) N (nI v')) (d + 3) N (nI v2)) d 1 (nI (N + 1))) a i = gI μ7 a i := fun z1 z2 z3 z4 => (sI_ne z4).trans ((sI_ne z3).trans ((sI_ne z2).trans (sI_ne z1)))
        have nm : ∀ {a i : Nat}, ¬ (a = 172 ∧ i = 8 + N) → ¬ (a = 169 ∧ i = 1) → gI (sI (sI μ8 172 (8 + N) (nI v2)) 169 1 (nI (N + 1))) a i = gI μ8 a i := fun z1 z2 => (sI_ne z2).trans (sI_ne z1)
        obtain ⟨t7, t8, ⟨x1, x2, x3, x4, x5, x6⟩, x7, x8, x9⟩ := c7
        obtain ⟨u1, u2, u3, ⟨y1, y2, y3, y4, y5⟩, y6, y7, y8⟩ := m7
        refine ⟨(((P, N + 1, M, B, E), updN f N v, updN s N v', updN w N v2), ⟨e, h⟩, bt, et), p3, _, _, rfl, rfl, FrC_tr r1 (FrC_tr s1 (FrC_tr t1 fc)), FrM_tr fm5 (FrM_tr t2 fm), by omega, ⟨⟨hP1, hP2, by show N + 1 ≤ 8; omega, hD.1.2.2.2.1, hD.1.2.2.2.2.1, hD.1.2.2.2.2.2.1, hD.1.2.2.2.2.2.2.1, fun l hl => ?_⟩, hD.2⟩, ⟨TxC_fr hd fc t7, (nc (by omega) (by omega) (by omega) (by omega)).trans t8, ⟨(nc (by omega) (by omega) (by omega) (by omega)).trans x1, sI_eq, (nc (by omega) (by omega) (by omega) (by omega)).trans x3, (nc (by omega) (by omega) (by omega) (by omega)).trans x4, (nc (by omega) (by omega) (by omega) (by omega)).trans x5, fun l hl => ?_⟩, fun p hp => ?_, (nc (by omega) (by omega) (by omega) (by omega)).trans x8, (nc (by omega) (by omega) (by omega) (by omega)).trans x9⟩, ⟨TxM_fr fm u1, ?_, (nm (by omega) (by omega)).trans u3, ⟨(nm (by omega) (by omega)).trans y1, sI_eq, (nm (by omega) (by omega)).trans y3, (nm (by omega) (by omega)).trans y4, (nm (by omega) (by omega)).trans y5⟩, fun l hl => ?_, fun p hp => ?_, (nm (by omega) (by omega)).trans y8⟩⟩
        · show updN f N v l < P ∧ updN s N v' l < P ∧ updN f N v l ≠ updN s N v' l ∧ 1 ≤ updN w N v2 l ∧ updN w N v2 l ≤ 40
          have hl : l < N + 1 := hl
          by_cases c : l = N
          · subst c; rw [updN_eq, updN_eq, updN_eq]; omega
          · rw [updN_ne c, updN_ne c, updN_ne c]
            exact hD.1.2.2.2.2.2.2.2 l (show l < N by omega)
        · show gI _ (d + 1) l = nI (updN f N v l) ∧ gI _ (d + 2) l = nI (updN s N v' l) ∧ gI _ (d + 3) l = nI (updN w N v2 l)
          have hl : l < N + 1 := hl
          by_cases c : l = N
          · subst c; rw [updN_eq, updN_eq, updN_eq]
            exact ⟨(sI_ne (by omega)).trans ((sI_ne (by omega)).trans ((sI_ne (by omega)).trans sI_eq)), (sI_ne (by omega)).trans ((sI_ne (by omega)).trans sI_eq), (sI_ne (by omega)).trans sI_eq⟩
          · rw [updN_ne c, updN_ne c, updN_ne c]
            have z := x6 l (show l < N by omega)
            exact ⟨(nc (by omega) (by omega) (by omega) (by omega)).trans z.1, (nc (by omega) (by omega) (by omega) (by omega)).trans z.2.1, (nc (by omega) (by omega) (by omega) (by omega)).trans z.2.2⟩
        · have z := x7 p hp
          exact ⟨(nc (by omega) (by omega) (by omega) (by omega)).trans z.1, (nc (by omega) (by omega) (by omega) (by omega)).trans z.2⟩
        · exact ⟨u2.1, (nm (by omega) (by omega)).trans u2.2.1, (nm (by omega) (by omega)).trans u2.2.2.1, (nm (by omega) (by omega)).trans u2.2.2.2.1, fun z => (nm (by omega) (by omega)).trans (u2.2.2.2.2 z)⟩
        · show gI _ 170 (8 + l) = nI (updN f N v l) ∧ gI _ 171 (8 + l) = nI (updN s N v' l) ∧ gI _ 172 (8 + l) = nI (updN w N v2 l)
          have hl : l < N + 1 := hl
          by_cases c : l = N
          · subst c; rw [updN_eq, updN_eq, updN_eq]
            exact ⟨(nm (by omega) (by omega)).trans ev8, (nm (by omega) (by omega)).trans ew8, (sI_ne (by omega)).trans sI_eq⟩
          · rw [updN_ne c, updN_ne c, updN_ne c]
            have z := y6 l (show l < N by omega)
            exact ⟨(nm (by omega) (by omega)).trans z.1, (nm (by omega) (by omega)).trans z.2.1, (nm (by omega) (by omega)).trans z.2.2⟩
        · have z := y7 p hp
          exact ⟨(nm (by omega) (by omega)).trans z.1, (nm (by omega) (by omega)).trans z.2⟩
      · right
        have i1 : f_X4_isNumber F μ4 1 1 40 = _ := i1
        have i2 : f_X9_number F μ6 166 1 40 = _ := i2
        rw [i1, i2, bW_some, bW_some, if_pos (rfl : (0 : Int32) = 0), if_pos j1, lt_eq]
        exact ⟨s, _, _, d1, rfl, rfl, FrC_tr r1 (FrC_tr s1 t1), FrM_tr fm5 (FrM_sI (FrM_sI (FrM_sI (FrM_rfl μ6) (by unfold Drf; omega) _) (by unfold Drf; omega) _) (by unfold Drf; omega) _), n1, (sI_ne (by omega)).trans ((sI_ne (by omega)).trans sI_eq)⟩
    · right
      have e8 : ¬ gI (sI μ3 166 18 (nI s)) 166 18 = -9 := by
        rw [sI_eq]
        exact nI_n9 (by omega)
      obtain ⟨μ9, w1, w2, w3⟩ := laneK9 (F := F) e8 hN v'
      rw [k2, w1]
      refine ⟨s, μ4, μ9, b1, ?_, rfl, FrC_tr r1 s1, FrM_tr fm2 (FrM_tr (FrM_sI (FrM_rfl μ3) (by unfold Drf; omega) _) w2), l1, w3.trans sI_eq⟩
      rcases k1 with k1 | ⟨k1, k3⟩
      · have k1 : f_X4_isNumber F μ1 1 0 (nI (P - 1)) = _ := k1
        rw [k1, bW_some, if_pos (rfl : (0 : Int32) = 0)]
      · have k1 : f_X4_isNumber F μ1 1 0 (nI (P - 1)) = _ := k1
        rw [k1, bW_some, if_neg (show ¬ (1 : Int32) = 0 by decide), k3, if_pos rfl]
  · right
    have f1 : f_X4_isNumber F μ 1 0 (nI (P - 1)) = _ := f1
    have f2 : f_X9_number F μ' 166 0 (nI (P - 1)) = _ := f2
    have e8 : ¬ gI (sI (sI μ' 166 18 (nI s)) 170 (8 + N) v) 166 18 = -9 := by
      rw [sI_ne (by omega), sI_eq]
      exact nI_n9 (by omega)
    rw [f1, f2, bW_some, bW_some, if_pos (rfl : (0 : Int32) = 0), if_pos j1, j2, lt_eq, laneX9 e8 j1]
    obtain ⟨μ9, w1, w2, w3⟩ := laneK9 (F := F) e8 hN (gI (sI (sI μ' 166 18 (nI s)) 170 (8 + N) v) 166 17)
    rw [w1]
    exact ⟨s, _, μ9, a1, rfl, rfl, r1, FrM_tr (FrM_sI (FrM_sI (FrM_rfl μ') (by unfold Drf; omega) _) (by unfold Drf; omega) _) w2, g1, w3.trans ((sI_ne (by omega)).trans sI_eq)⟩
end R66
