section R48
variable {F : Nat}
theorem OkM_E {g : Cfg} {m : Mo} (h : OkM g m) {p x : Nat} (hx : x ≤ 9) : OkM g (seE m p x) := by
  refine ⟨fun r hr => ⟨?_, (h.1 r hr).2⟩, h.2⟩
  show upn m.1 p x r ≤ 9
  unfold upn
  split
  · exact hx
  · exact (h.1 r hr).1
theorem OkM_A {g : Cfg} {m : Mo} (h : OkM g m) {p x : Nat} (hx : x < gP g) : OkM g (seA m p x) := by
  refine ⟨fun r hr => ⟨(h.1 r hr).1, ?_⟩, h.2⟩
  show upn m.2.1 p x r < gP g
  unfold upn
  split
  · exact hx
  · exact (h.1 r hr).2
theorem OkM_G {g : Cfg} {m : Mo} (h : OkM g m) {p x : Nat} : OkM g (seG m p x) := h
theorem OkM_C {g : Cfg} {m : Mo} (h : OkM g m) {x : Nat} (hx : x < 2 ^ gN g) : OkM g (seC m x) := ⟨h.1, hx⟩
theorem S_patents (hF : 5000 ≤ F) {σ : St} {μ μ' : Mem} (ho : OkS σ) (hC : RcC σ μ) (hM : RcM σ μ') (a b : Int32) : Stps μ μ' (f_X8_patents F μ 0 a b) (f_X9_patents F μ' 166 a b) := by
  have vC := RcC_VC ho hC
  have vM := RcM_VM ho hM
  have hg := ho.1
  have h5 := hg.2.2.2.1
  unfold f_X8_patents f_X9_patents
  rw [C_noPerson vC, M_isPerson vM, Option.bind_some, Option.bind_some]
  by_cases ha : okN a (gM σ.1) = true
  · simp only [ha, if_true, if_false, show ¬ (1 : Int32) = 0 by decide]
    obtain ⟨p, hp, rfl⟩ := okN_of (by omega) ha
    have eb : f_X9_in F μ' b 0 9 = some (if okN b 10 = true then 1 else 0) := in_ok F μ' b 10 (by decide)
    rw [eb, Option.bind_some]
    by_cases hb : okN b 10 = true
    · obtain ⟨x, hx, rfl⟩ := okN_of (by omega) hb
      rw [if_neg (nI_pos (by omega)), if_neg (show ¬ (9 : Int32) < nI x from nI_nlt (b := x) (a := 9) (by omega) (by decide)), if_pos hb, if_neg (show ¬ (1 : Int32) = 0 by decide)]
      obtain ⟨j1, j2⟩ := M_ixp (p := p) (b := 5) (by omega) (by decide)
      have j1 : ix (5 + nI p) 531 = true := j1
      have j2 : (5 + nI p).toNatClampNeg = 5 + p := j2
      have e1 : gI μ (0 + 16 + 1 + 1) p = nI (mE σ.2.1.1 p) := C_el vC hp
      simp only [ix5 hg hp, cl5 hg hp, j1, j2, if_true, lt_eq, e1, M_el vM hp]
      have he9 := (vC.2.2.2.1 p hp).1
      by_cases hex : nI (mE σ.2.1.1 p) = nI x
      · rw [if_pos hex, if_pos hex]
        exact Stps_same ho hC hM _
      · rw [if_neg hex, if_neg hex]
        obtain ⟨μ1, e1, o1, q1, c1⟩ := remember_ok hF h5 hC.2.1 hC.2.2.1
        obtain ⟨μ3, e3, o3, c3⟩ := M_know hF h5 hM.2.1
        have e1 : f_X0_remember F μ (0 + 16) = some μ1 := e1
        rw [e1, e3, Option.bind_some, Option.bind_some]
        obtain ⟨z1, z2, z3, z4, z5⟩ := mvs (v := 0) ho hC hM (m' := seE σ.2.1.1 p x) (OkM_E vC.2.2.2 (by omega)) o1 q1 c1 (Off_sI (Off_rfl 17 21 μ1) (q := 18) (by decide) p (nI x)) (MoC_E c1.1 p x) (Of8_wide o3 (by decide) (by decide)) c3 (Of8_sI (Of8_rfl 0 16 μ3) (j := 5 + p) (by omega) (nI x)) (MoM_E h5 c3.1 (by omega) x)
        exact ⟨_, _, _, _, rfl, rfl, z1, z2, z3, z4, z5⟩
    · simp only [hb, if_false, if_true, Bool.false_eq_true]
      rcases rng (by decide) (by decide) hb with z | z
      · rw [if_pos z]; exact Stps_same ho hC hM _
      · have z : (9 : Int32) < b := z
        rw [if_pos z]
        by_cases y : b < 0
        · rw [if_pos y]; exact Stps_same ho hC hM _
        · rw [if_neg y]; exact Stps_same ho hC hM _
  · simp only [ha, if_true, if_false, show ¬ (1 : Int32) = 0 by decide, Bool.false_eq_true]
    exact Stps_same ho hC hM _
theorem S_claims (hF : 5000 ≤ F) {σ : St} {μ μ' : Mem} (ho : OkS σ) (hC : RcC σ μ) (hM : RcM σ μ') (a b : Int32) : Stps μ μ' (f_X8_claims F μ 0 a b) (f_X9_claims F μ' 166 a b) := by
  have vC := RcC_VC ho hC
  have vM := RcM_VM ho hM
  have hg := ho.1
  have h5 := hg.2.2.2.1
  unfold f_X8_claims f_X9_claims
  rw [C_noPerson vC, M_isPerson vM, Option.bind_some, Option.bind_some]
  by_cases ha : okN a (gM σ.1) = true
  · rw [C_noPerson vC, M_isPerson vM, Option.bind_some, Option.bind_some]
    by_cases hb : okN b (gM σ.1) = true
    · simp only [ha, hb, if_true, if_false, show ¬ (1 : Int32) = 0 by decide]
      by_cases hab : a = b
      · rw [if_pos hab, if_pos hab]; exact Stps_same ho hC hM _
      · rw [if_neg hab, if_neg hab]
        obtain ⟨p, hp, rfl⟩ := okN_of (by omega) ha
        obtain ⟨q, hq, rfl⟩ := okN_of (by omega) hb
        have hpq : p ≠ q := fun z => hab (by rw [z])
        obtain ⟨j1, j2⟩ := M_ixp (p := p) (b := 5) (by omega) (by decide)
        have j1 : ix (5 + nI p) 531 = true := j1
        have j2 : (5 + nI p).toNatClampNeg = 5 + p := j2
        obtain ⟨k1, k2⟩ := M_ixp (p := q) (b := 5) (by omega) (by decide)
        have k1 : ix (5 + nI q) 531 = true := k1
        have k2 : (5 + nI q).toNatClampNeg = 5 + q := k2
        obtain ⟨l1, l2⟩ := M_ixp (p := p) (b := 0) (by omega) (by decide)
        have l1 : ix (0 + nI p) 531 = true := l1
        have l2 : (0 + nI p).toNatClampNeg = 0 + p := l2
        obtain ⟨n1, n2⟩ := M_ixp (p := q) (b := 0) (by omega) (by decide)
        have n1 : ix (0 + nI q) 531 = true := n1
        have n2 : (0 + nI q).toNatClampNeg = 0 + q := n2
        have e1 : gI μ (0 + 16 + 1 + 1) p = nI (mE σ.2.1.1 p) := C_el vC hp
        have e2 : gI μ (0 + 16 + 1 + 1) q = nI (mE σ.2.1.1 q) := C_el vC hq
        have e3 : gI μ (0 + 16 + 1 + 2) p = nI (mA σ.2.1.1 p) := C_at vC hp
        have e4 : gI μ (0 + 16 + 1 + 2) q = nI (mA σ.2.1.1 q) := C_at vC hq
        have bp := vC.2.2.2.1 p hp
        have bq := vC.2.2.2.1 q hq
        have hP := hg.2.1
        simp only [ix5 hg hp, cl5 hg hp, ix5 hg hq, cl5 hg hq, j1, j2, k1, k2, l1, l2, n1, n2, if_true, lt_eq, e1, e2, e3, e4, M_el vM hp, M_el vM hq, M_at vM hp, M_at vM hq]
        by_cases c1 : nI (mA σ.2.1.1 p) = nI (mA σ.2.1.1 q)
        · rw [if_pos c1, if_pos c1]
          by_cases c2 : mE σ.2.1.1 q < mE σ.2.1.1 p
          · rw [if_pos (nI_lt c2 (by omega)), if_pos (nI_lt c2 (by omega))]
            by_cases c3 : mE σ.2.1.1 p < 9
            · rw [if_pos (show nI (mE σ.2.1.1 p) < (9 : Int32) from (nI_lt c3 (by decide) : _ < nI 9)), if_neg (show ¬ nI (mE σ.2.1.1 p) = (9 : Int32) from fun z => by have := (nI_eq (b := 9) (by omega) (by decide)).mp z; omega)]
              by_cases c4 : 0 < mE σ.2.1.1 q
              · rw [if_pos (show (0 : Int32) < nI (mE σ.2.1.1 q) from nI_lt (a := 0) c4 (by omega)), if_neg (nI_ne0 c4 (by omega))]
                obtain ⟨μ1, r1, o1, q1, d1⟩ := remember_ok hF h5 hC.2.1 hC.2.2.1
                obtain ⟨μ3, r3, o3, d3⟩ := M_know hF h5 hM.2.1
                have r1 : f_X0_remember F μ (0 + 16) = some μ1 := r1
                have f1 : gI μ1 (0 + 16 + 1 + 1) p = nI (mE σ.2.1.1 p) := (d1.1.2 p hp).1
                have f2 : gI μ1 (0 + 16 + 1 + 1) q = nI (mE σ.2.1.1 q) := (d1.1.2 q hq).1
                have f3 : gI μ3 (166 + 12) (5 + p) = nI (mE σ.2.1.1 p) := by have := (d3.1.2 p hp).1; rwa [Nat.zero_add] at this
                have f4 : gI μ3 (166 + 12) (5 + q) = nI (mE σ.2.1.1 q) := by have := (d3.1.2 q hq).1; rwa [Nat.zero_add] at this
                have s1 : nI (mE σ.2.1.1 q) - 1 = nI (mE σ.2.1.1 q - 1) := nI_sub (b := 1) c4
                rw [r1, r3, Option.bind_some, Option.bind_some]
                have g1 : gI (sI μ1 (0 + 16 + 1 + 1) p (nI (mE σ.2.1.1 p + 1))) (0 + 16 + 1 + 1) q = nI (mE σ.2.1.1 q) := by rw [gI_sI, if_neg (by omega)]; exact f2
                have g2 : gI (sI μ3 (166 + 12) (5 + p) (nI (mE σ.2.1.1 p + 1))) (166 + 12) (5 + q) = nI (mE σ.2.1.1 q) := by rw [gI_sI, if_neg (by omega)]; exact f4
                have g3 : gI (sI (sI μ1 (0 + 16 + 1 + 1) p (nI (mE σ.2.1.1 p + 1))) (0 + 16 + 1 + 1) q (nI (mE σ.2.1.1 q - 1))) (0 + 16 + 1 + 1) p = nI (mE σ.2.1.1 p + 1) := by rw [gI_sI, if_neg (by omega), gI_sI, if_pos ⟨rfl, rfl⟩]
                have g4 : gI (sI (sI μ3 (166 + 12) (5 + p) (nI (mE σ.2.1.1 p + 1))) (166 + 12) (5 + q) (nI (mE σ.2.1.1 q - 1))) (166 + 12) (5 + p) = nI (mE σ.2.1.1 p + 1) := by rw [gI_sI, if_neg (by omega), gI_sI, if_pos ⟨rfl, rfl⟩]
                rw [f1, f3, nIs, g1, g2, s1, g3, g4]
                obtain ⟨z1, z2, z3, z4, z5⟩ := mvs (v := 0) ho hC hM (m' := seE (seE σ.2.1.1 p (mE σ.2.1.1 p + 1)) q (mE σ.2.1.1 q - 1)) (OkM_E (OkM_E vC.2.2.2 (by omega)) (by omega)) o1 q1 d1 (Off_sI (Off_sI (Off_rfl 17 21 μ1) (q := 18) (by decide) p (nI (mE σ.2.1.1 p + 1))) (q := 18) (by decide) q (nI (mE σ.2.1.1 q - 1))) (MoC_E (MoC_E d1.1 p (mE σ.2.1.1 p + 1)) q (mE σ.2.1.1 q - 1)) (Of8_wide o3 (by decide) (by decide)) d3 (Of8_sI (Of8_sI (Of8_rfl 0 16 μ3) (j := 5 + p) (by omega) (nI (mE σ.2.1.1 p + 1))) (j := 5 + q) (by omega) (nI (mE σ.2.1.1 q - 1))) (MoM_E h5 (MoM_E h5 d3.1 (by omega) (mE σ.2.1.1 p + 1)) (by omega) (mE σ.2.1.1 q - 1))
                exact ⟨_, _, _, _, rfl, rfl, z1, z2, z3, z4, z5⟩
              · rw [if_neg (show ¬ (0 : Int32) < nI (mE σ.2.1.1 q) from nI_nlt (b := mE σ.2.1.1 q) (a := 0) (by omega) (by decide)), if_pos (show nI (mE σ.2.1.1 q) = 0 by rw [show mE σ.2.1.1 q = 0 by omega]; rfl)]
                exact Stps_same ho hC hM _
            · rw [if_neg (show ¬ nI (mE σ.2.1.1 p) < (9 : Int32) from (nI_nlt (by omega) (by omega) : ¬ _ < nI 9)), if_pos (show nI (mE σ.2.1.1 p) = (9 : Int32) by rw [show mE σ.2.1.1 p = 9 by omega]; rfl)]
              exact Stps_same ho hC hM _
          · rw [if_neg (nI_nlt (by omega) (by omega)), if_neg (nI_nlt (by omega) (by omega))]
            exact Stps_same ho hC hM _
        · rw [if_neg c1, if_neg c1]
          exact Stps_same ho hC hM _
    · simp only [ha, hb, if_true, if_false, show ¬ (1 : Int32) = 0 by decide, Bool.false_eq_true]
      exact Stps_same ho hC hM _
  · simp only [ha, if_true, if_false, show ¬ (1 : Int32) = 0 by decide, Bool.false_eq_true]
    exact Stps_same ho hC hM _
end R48
