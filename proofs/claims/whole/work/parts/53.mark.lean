section R53
variable {F : Nat}
theorem S_count {σ : St} {μ μ' : Mem} (hC : RcC σ μ) (hM : RcM σ μ') (a : Int32) : ∃ v, f_X8_count F μ 0 a = some v ∧ f_X9_count F μ' 166 a = some v := by
  obtain ⟨⟨t, d, r1, r2, r3, r4⟩, -, c, -, x, ga, -⟩ := hC
  obtain ⟨m1, mc, -, mx, mg, -⟩ := hM
  obtain ⟨a1, a2, a3, a4, a5, -⟩ := r4
  obtain ⟨b1, b2, b3, b4, b5, -⟩ := m1
  have b1 : gI μ' (166 + 2) 0 = _ := b1
  have b2 : gI μ' (166 + 3) 0 = _ := b2
  have b3 : gI μ' (166 + 7) 0 = _ := b3
  have b4 : gI μ' (166 + 10) 0 = _ := b4
  have b5 : gI μ' (166 + 11) 0 = _ := b5
  have c6 : gI μ (0 + 16) 2 = nI σ.2.1.2.length := c.2.1
  have c7 : gI μ (0 + 1 + 1) 1 = nI σ.2.2.2.1.length := x.1
  have c5 : gI μ (0 + 64) 2 = nI σ.2.2.2.2.1.length := ga.1
  have d6 : gI μ' (166 + 12) 16 = nI σ.2.1.2.length := mc.2.1
  have d7 : gI μ' 166 2 = nI σ.2.2.2.1.length := mx.1
  have d5 : gI μ' 166 26 = nI σ.2.2.2.2.1.length := mg.1
  unfold f_X8_count f_X9_count
  rw [r1, a1, a2, a3, a4, a5, b1, b2, b3, b4, b5, c5, c6, c7, d5, d6, d7]
  have hall : ∀ o : Option Int32, (∃ v, o = some v) → ∃ v, o = some v ∧ o = some v := fun o h => by
    obtain ⟨v, h⟩ := h
    exact ⟨v, h, h⟩
  refine hall _ ?_
  split
  · exact ⟨_, rfl⟩
  · split
    · exact ⟨_, rfl⟩
    · split
      · exact ⟨_, rfl⟩
      · split
        · exact ⟨_, rfl⟩
        · split
          · exact ⟨_, rfl⟩
          · split
            · exact ⟨_, rfl⟩
            · split
              · exact ⟨_, rfl⟩
              · split
                · exact ⟨_, rfl⟩
                · exact ⟨_, rfl⟩
theorem S_trace {σ : St} {μ μ' : Mem} (hC : RcC σ μ) (hM : RcM σ μ') : ∃ v, f_X8_trace F μ 0 = some v ∧ f_X9_trace F μ' 166 = some v := by
  unfold f_X8_trace f_X9_trace
  rw [hC.2.2.2.2.2.2, hM.2.2.2.2.2]
  exact ⟨_, rfl, rfl⟩
theorem RcC_tr {σ : St} {μ : Mem} (hr : RcC σ μ) (v : Int64) : RcC (σ.1, σ.2.1, σ.2.2.1, σ.2.2.2.1, σ.2.2.2.2.1, v) (sL μ 0 v) := by
  obtain ⟨r, p, c, k, x, a, l⟩ := hr
  exact ⟨r, p, c, k, x, a, by rw [gL_sL, if_pos rfl]⟩
theorem RcM_tr {σ : St} {μ : Mem} (hr : RcM σ μ) (v : Int64) : RcM (σ.1, σ.2.1, σ.2.2.1, σ.2.2.2.1, σ.2.2.2.2.1, v) (sL μ 166 v) := by
  obtain ⟨r, c, k, x, a, l⟩ := hr
  exact ⟨r, c, k, x, a, by rw [gL_sL, if_pos rfl]⟩
theorem VC_L {μ : Mem} {g : Cfg} {m : Mo} (h : VC μ g m) (v : Int64) : VC (sL μ 0 v) g m := h
theorem VM_L {μ : Mem} {g : Cfg} {m : Mo} (h : VM μ g m) (v : Int64) : VM (sL μ 166 v) g m := h
theorem sL_sL (μ : Mem) (q : Nat) (v w : Int64) : sL (sL μ q v) q w = sL μ q w := by
  unfold sL
  congr 2
  funext a
  by_cases e : a = q
  · simp [e]
  · simp [e]
theorem mark_fin {σ : St} {μ μ' : Mem} (ho : OkS σ) (hC : RcC σ μ) (hM : RcM σ μ') (v : Int32) (d d' : Int64) (hd : d = σ.2.2.2.2.2 + d') (o o' : Option (Int32 × Mem)) (h1 : o = some (v, sL μ 0 d)) (h2 : o' = some (v, sL μ' 166 (gL μ' 166 + d'))) : Stps μ μ' o o' := by
  have e : gL μ' 166 = σ.2.2.2.2.2 := hM.2.2.2.2.2
  rw [e, ← hd] at h2
  exact ⟨v, (σ.1, σ.2.1, σ.2.2.1, σ.2.2.2.1, σ.2.2.2.2.1, d), _, _, h1, h2, ⟨ho.1, ho.2.1, ho.2.2.1, ho.2.2.2.1, ho.2.2.2.2⟩, RcC_tr hC d, RcM_tr hM d, fun q hq => ⟨fun _ _ => rfl, fun _ => rfl, by rw [gL_sL, if_neg (by omega)]⟩, fun q hq => ⟨fun _ _ => rfl, fun _ => rfl, by rw [gL_sL, if_neg (by omega)]⟩⟩
theorem S_mark (hF : 5000 ≤ F) {σ : St} {μ μ' : Mem} (ho : OkS σ) (hC : RcC σ μ) (hM : RcM σ μ') (a b : Int32) : Stps μ μ' (f_X8_mark F μ 0 a b) (f_X9_mark F μ' 166 a b) := by
  have vC := RcC_VC ho hC
  have vM := RcM_VM ho hM
  have hg := ho.1
  have h5 := hg.2.2.2.1
  have ein : f_X9_in F μ' a 0 5 = some (if okN a 6 = true then 1 else 0) := in_ok F μ' a 6 (by decide)
  unfold f_X8_mark f_X9_mark
  rw [C_noPerson vC, M_isPerson vM, Option.bind_some, Option.bind_some, ein, Option.bind_some]
  by_cases ha : okN a 6 = true
  · by_cases hb : okN b (gM σ.1) = true
    · rw [if_pos hb, if_pos hb, if_pos ha, if_pos (rfl : (0 : Int32) = 0), if_neg (show ¬ (1 : Int32) = 0 by decide), if_neg (show ¬ (1 : Int32) = 0 by decide)]
      obtain ⟨p, hp, rfl⟩ := okN_of (by omega) hb
      obtain ⟨j, hj, rfl⟩ := okN_of (by decide) ha
      have hcm := mC_lt hg vC.2.2.2
      have hap := (vC.2.2.2.1 p hp).2
      have hcl := clo_lt (al := alw σ.1 σ.2.1.1 p (mC σ.2.1.1)) hg hap
      have eC : gI μ' (166 + 12) 15 = nI (mC σ.2.1.1) := vM.2.1.1
      have eL : gL μ 0 = σ.2.2.2.2.2 := hC.2.2.2.2.2.2
      have mw : ∀ v, f_X9_wide F (sL μ' 166 v) 166 (nI p) = some (nI (wd σ.1 σ.2.1.1 p)) := fun v => M_wide (VM_L vM v) hp
      have cw : ∀ v, f_X8_wideness F (sL μ 0 v) 0 (nI p) = some (nI (wd σ.1 σ.2.1.1 p)) := fun v => C_wide (VC_L vC v) hp
      have cr : ∀ v, f_X8_reach F (sL μ 0 v) 0 (nI p) = some (nI (clo σ.1 (alw σ.1 σ.2.1.1 p (mC σ.2.1.1)) (mA σ.2.1.1 p))) := fun v => C_reach hF (VC_L vC v) hp
      have cb : ∀ v, f_J_bitCount F (sL μ 0 v) (nI (clo σ.1 (alw σ.1 σ.2.1.1 p (mC σ.2.1.1)) (mA σ.2.1.1 p))) = some (nI (pc8 (clo σ.1 (alw σ.1 σ.2.1.1 p (mC σ.2.1.1)) (mA σ.2.1.1 p)))) := fun v => bitCount_ok F _ hcl
      have cc : ∀ v, f_X8_closedLanes F (sL μ 0 v) 0 = some (nI (pc8 (mC σ.2.1.1))) := fun v => C_closedLanes (VC_L vC v)
      have mc : ∀ v, f_X9_manyOf F (sL μ' 166 v) (gI (sL μ' 166 v) (166 + 12) 15) = some (nI (pc8 (mC σ.2.1.1))) := fun v => by
        have e : gI (sL μ' 166 v) (166 + 12) 15 = nI (mC σ.2.1.1) := eC
        rw [e]; exact manyOf_ok hF _ hcm
      obtain ⟨k1, k2⟩ := M_ixp (p := p) (b := 10) (by omega) (by decide)
      have k1 : ix (10 + nI p) 531 = true := k1
      have k2 : (10 + nI p).toNatClampNeg = 10 + p := k2
      have mg : ∀ v, gI (sL μ' 166 v) (166 + 12) (10 + p) = nI (mG σ.2.1.1 p) := fun v => M_gv (VM_L vM v) hp
      have cg : ∀ v, gI (sL μ 0 v) (0 + 16 + 1 + 3) p = nI (mG σ.2.1.1 p) := fun v => C_gv (VC_L vC v) hp
      rw [M_wide vM hp, Option.bind_some, eC, M_reach hF vM hp hcm, Option.bind_some, manyOf_ok hF μ' hcl, Option.bind_some]
      unfold f_X8_markThief f_X8_markTailor f_X8_markBride f_X8_markPage f_X8_markEarl f_X8_markPerson
      have gl : ∀ v, gL (sL μ 0 v) 0 = v := fun v => by rw [gL_sL, if_pos rfl]
      have c2 : ∀ x : Int32, x * 2 = 2 * x := fun x => Int32.mul_comm x 2
      rcases (show j = 0 ∨ j = 1 ∨ j = 2 ∨ j = 3 ∨ j = 4 ∨ j = 5 by omega) with rfl | rfl | rfl | rfl | rfl | rfl
      · rw [if_pos (show nI 0 = 0 from rfl), if_pos (show nI 0 = 0 from rfl)]
        refine mark_fin ho hC hM (nI (wd σ.1 σ.2.1.1 p)) (σ.2.2.2.2.2 + 1) 1 rfl _ _ ?_ ?_
        · simp only [lt_eq, cw, Option.bind_some, bW_some, eL]
        · simp only [lt_eq, mw, Option.bind_some]
      · rw [if_neg (show ¬ nI 1 = 0 by decide), if_neg (show ¬ nI 1 = 0 by decide), if_pos (show nI 1 = 1 from rfl), if_pos (show nI 1 = 1 from rfl)]
        refine mark_fin ho hC hM (nI (wd σ.1 σ.2.1.1 p) + nI (pc8 (clo σ.1 (alw σ.1 σ.2.1.1 p (mC σ.2.1.1)) (mA σ.2.1.1 p)))) (σ.2.2.2.2.2 + 10 + 1) 11 (by rw [Int64.add_assoc]; rfl) _ _ ?_ ?_
        · simp only [lt_eq, cw, cr, cb, Option.bind_some, bW_some, eL, gl, sL_sL]
        · simp only [lt_eq]
      · rw [if_neg (show ¬ nI 2 = 0 by decide), if_neg (show ¬ nI 2 = 0 by decide), if_neg (show ¬ nI 2 = 1 by decide), if_neg (show ¬ nI 2 = 1 by decide), if_pos (show nI 2 = 2 from rfl), if_pos (show nI 2 = 2 from rfl)]
        refine mark_fin ho hC hM (nI (wd σ.1 σ.2.1.1 p) - nI p) (σ.2.2.2.2.2 + 100 + 1) 101 (by rw [Int64.add_assoc]; rfl) _ _ ?_ ?_
        · simp only [lt_eq, cw, Option.bind_some, bW_some, eL, gl, sL_sL]
        · simp only [lt_eq, mw, Option.bind_some]
      · rw [if_neg (show ¬ nI 3 = 0 by decide), if_neg (show ¬ nI 3 = 0 by decide), if_neg (show ¬ nI 3 = 1 by decide), if_neg (show ¬ nI 3 = 1 by decide), if_neg (show ¬ nI 3 = 2 by decide), if_neg (show ¬ nI 3 = 2 by decide), if_pos (show nI 3 = 3 from rfl), if_pos (show nI 3 = 3 from rfl)]
        refine mark_fin ho hC hM (2 * (nI (wd σ.1 σ.2.1.1 p) + nI (pc8 (clo σ.1 (alw σ.1 σ.2.1.1 p (mC σ.2.1.1)) (mA σ.2.1.1 p))))) (σ.2.2.2.2.2 + 1000 + 10 + 1) 1011 (by rw [Int64.add_assoc, Int64.add_assoc]; rfl) _ _ ?_ ?_
        · simp only [lt_eq, cw, cr, cb, Option.bind_some, bW_some, eL, gl, sL_sL, c2]
        · simp only [lt_eq]
      · rw [if_neg (show ¬ nI 4 = 0 by decide), if_neg (show ¬ nI 4 = 0 by decide), if_neg (show ¬ nI 4 = 1 by decide), if_neg (show ¬ nI 4 = 1 by decide), if_neg (show ¬ nI 4 = 2 by decide), if_neg (show ¬ nI 4 = 2 by decide), if_neg (show ¬ nI 4 = 3 by decide), if_neg (show ¬ nI 4 = 3 by decide), if_pos (show nI 4 = 4 from rfl), if_pos (show nI 4 = 4 from rfl)]
        refine mark_fin ho hC hM (nI (wd σ.1 σ.2.1.1 p) - nI p + nI (mG σ.2.1.1 p)) (σ.2.2.2.2.2 + 10000 + 100 + 1) 10101 (by rw [Int64.add_assoc, Int64.add_assoc]; rfl) _ _ ?_ ?_
        · simp only [lt_eq, cw, Option.bind_some, bW_some, eL, gl, sL_sL, ix5 hg hp, cl5 hg hp, if_true, cg]
        · simp only [lt_eq, mw, Option.bind_some, k1, k2, if_true, mg]
      · rw [if_neg (show ¬ nI 5 = 0 by decide), if_neg (show ¬ nI 5 = 0 by decide), if_neg (show ¬ nI 5 = 1 by decide), if_neg (show ¬ nI 5 = 1 by decide), if_neg (show ¬ nI 5 = 2 by decide), if_neg (show ¬ nI 5 = 2 by decide), if_neg (show ¬ nI 5 = 3 by decide), if_neg (show ¬ nI 5 = 3 by decide), if_neg (show ¬ nI 5 = 4 by decide), if_neg (show ¬ nI 5 = 4 by decide), if_pos (show nI 5 = 5 from rfl)]
        refine mark_fin ho hC hM (nI (wd σ.1 σ.2.1.1 p) + nI (pc8 (mC σ.2.1.1))) (σ.2.2.2.2.2 + 100000 + 1) 100001 (by rw [Int64.add_assoc]; rfl) _ _ ?_ ?_
        · simp only [lt_eq, cw, cc, Option.bind_some, bW_some, eL, gl, sL_sL]
        · simp only [lt_eq, mw, mc, Option.bind_some]
    · rw [if_neg hb, if_neg hb, if_pos ha, if_neg (show ¬ (1 : Int32) = 0 by decide), if_neg (show ¬ (1 : Int32) = 0 by decide), if_pos (rfl : (0 : Int32) = 0)]
      exact Stps_same ho hC hM _
  · rw [if_neg ha, if_pos (rfl : (0 : Int32) = 0)]
    have nn : ∀ i, i < 6 → ¬ a = nI i := fun i hi z => ha (by rw [z]; exact okN_nI hi (by decide))
    by_cases hb : okN b (gM σ.1) = true
    · rw [if_pos hb, if_pos (rfl : (0 : Int32) = 0), if_neg (show ¬ a = 0 from nn 0 (by decide)), if_neg (show ¬ a = 1 from nn 1 (by decide)), if_neg (show ¬ a = 2 from nn 2 (by decide)), if_neg (show ¬ a = 3 from nn 3 (by decide)), if_neg (show ¬ a = 4 from nn 4 (by decide)), if_neg (show ¬ a = 5 from nn 5 (by decide))]
      exact Stps_same ho hC hM _
    · rw [if_neg hb, if_neg (show ¬ (1 : Int32) = 0 by decide)]
      exact Stps_same ho hC hM _
end R53
