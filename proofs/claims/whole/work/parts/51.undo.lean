section R51
variable {F : Nat}
theorem S_undo (hF : 5000 ≤ F) {σ : St} {μ μ' : Mem} (ho : OkS σ) (hC : RcC σ μ) (hM : RcM σ μ') : Stps μ μ' (f_X8_undo F μ 0) (f_X9_undo F μ' 166) := by
  have h5 := ho.1.2.2.2.1
  obtain ⟨g, ⟨m, l⟩, rest⟩ := σ
  have h5 : gM g ≤ 5 := h5
  by_cases hl : l = []
  · subst hl
    have e1 : gI μ (0 + 16) 2 = 0 := hC.2.2.1.2.1
    have e2 : gI μ' (166 + 12) 16 = 0 := hM.2.1.2.1
    unfold f_X8_undo f_X9_undo f_X0_stepBack
    rw [e1, e2, if_neg (show ¬ (0 : Int32) < 0 by decide), bW_some, if_pos (rfl : (0 : Int32) = 0), if_pos (rfl : (0 : Int32) = 0)]
    exact Stps_same ho hC hM _
  · obtain ⟨μ1, e1, o1, q1, c1⟩ := stepBack_ok hF h5 hC.2.1 hC.2.2.1 hl
    obtain ⟨μ2, e2, o2, c2⟩ := M_undo hF h5 hM.2.1 hl
    have e1 : f_X0_stepBack F μ (0 + 16) = some (1, μ1) := e1
    have o1 : Off 16 62 μ μ1 := o1
    have hok : OkC g (l.getLast hl, l.dropLast) := by
      have h3 : ∀ x ∈ l, OkM g x := ho.2.1.2.2
      have h2 : l.length ≤ 10 := ho.2.1.2.1
      refine ⟨h3 _ (List.getLast_mem hl), ?_, fun x hx => h3 x (List.dropLast_subset l hx)⟩
      show l.dropLast.length ≤ 10
      rw [List.length_dropLast]; omega
    have e3 : gI μ1 (0 + 16) 2 = nI (l.length - 1) := by
      have : gI μ1 16 2 = nI l.dropLast.length := c1.2.1
      rw [List.length_dropLast] at this; exact this
    unfold f_X8_undo
    rw [e1, bW_some, if_neg (show ¬ (1 : Int32) = 0 by decide), e3, e2]
    exact ⟨_, (g, (l.getLast hl, l.dropLast), rest), μ1, μ2, rfl, rfl, OkS_co ho hok, RcC_co o1 hC q1 c1, RcM_co h5 o2 hM c2, Off_hi o1 (by decide), Of8_lo o2⟩
theorem at_img (i j : Nat) : 177 * (1 + nI i) + nI j = nI (177 * (1 + i) + j) := by
  rw [show (1 : Int32) + nI i = nI (1 + i) from nI_add 1 i, show (177 : Int32) * nI (1 + i) = nI (177 * (1 + i)) from nI_mul 177 _, nI_add]
theorem M_keepL (hF : 5000 ≤ F) (μ : Mem) {i : Nat} (hi : i < 2) (k : Int32 → Mem → Option (Int32 × Mem)) : ∃ μ1, f_X9_keep_L13 F 166 (nI i) k F 0 μ = k (nI 177) μ1 ∧ Of8 (177 * (1 + i)) (177 * (1 + i) + 177) μ μ1 ∧ ∀ j, j < 177 → gI μ1 178 (177 * (1 + i) + j) = gI μ 178 (0 + j) := by
  obtain ⟨μ1, h1, e1⟩ := for_rel (S := Mem) (f := fun n s j => f_X9_keep_L13 F 166 (nI i) k n (nI j) s) (N := 177) (k := fun s => k (nI 177) s) (fun j s => Of8 (177 * (1 + i)) (177 * (1 + i) + 177) μ s ∧ ∀ r, r < j → gI s 178 (177 * (1 + i) + r) = gI μ 178 (0 + r))
    (fun n j s hj hs => by
      obtain ⟨i1, i2⟩ := ix531 (show j < 531 by omega)
      obtain ⟨j1, j2⟩ := ix531 (show 177 * (1 + i) + j < 531 by omega)
      refine ⟨sI s 178 (177 * (1 + i) + j) (gI μ 178 (0 + j)), ⟨Of8_sI hs.1 (by omega) _, fun r hr => ?_⟩, ?_⟩
      · rw [gI_sI]
        by_cases e : r = j
        · rw [if_pos (by omega), e]
        · rw [if_neg (by omega)]; exact hs.2 r (by omega)
      · show f_X9_keep_L13 F 166 (nI i) k (n + 1) (nI j) s = _
        rw [f_X9_keep_L13, if_pos (show nI j < (177 : Int32) from nI_lt hj (by decide)), at_img, if_pos i1, if_pos j1, lt_eq, i2, j2, show gI s (166 + 12) j = gI μ 178 j from hs.1.2.2 178 j (by omega), nI_1, Nat.zero_add])
    (fun n s hs => by
      show f_X9_keep_L13 F 166 (nI i) k (n + 1) (nI 177) s = _
      rw [f_X9_keep_L13, if_neg (show ¬ nI 177 < (177 : Int32) from nI_nlt (Nat.le_refl _) (by decide))])
    177 F 0 μ (by omega) (by omega) ⟨Of8_rfl _ _ μ, fun r hr => by omega⟩
  exact ⟨μ1, e1, h1.1, h1.2⟩
theorem M_backL (hF : 5000 ≤ F) (μ : Mem) {i : Nat} (hi : i < 2) (k : Int32 → Mem → Option (Int32 × Mem)) : ∃ μ1, f_X9_back_L25 F 166 (nI i) k F 0 μ = k (nI 177) μ1 ∧ Of8 0 177 μ μ1 ∧ ∀ j, j < 177 → gI μ1 178 (0 + j) = gI μ 178 (177 * (1 + i) + j) := by
  obtain ⟨μ1, h1, e1⟩ := for_rel (S := Mem) (f := fun n s j => f_X9_back_L25 F 166 (nI i) k n (nI j) s) (N := 177) (k := fun s => k (nI 177) s) (fun j s => Of8 0 177 μ s ∧ ∀ r, r < j → gI s 178 (0 + r) = gI μ 178 (177 * (1 + i) + r))
    (fun n j s hj hs => by
      obtain ⟨i1, i2⟩ := ix531 (show j < 531 by omega)
      obtain ⟨j1, j2⟩ := ix531 (show 177 * (1 + i) + j < 531 by omega)
      refine ⟨sI s 178 j (gI μ 178 (177 * (1 + i) + j)), ⟨Of8_sI hs.1 (by omega) _, fun r hr => ?_⟩, ?_⟩
      · rw [gI_sI]
        by_cases e : r = j
        · rw [if_pos (by omega), e]
        · rw [if_neg (by omega)]; exact hs.2 r (by omega)
      · show f_X9_back_L25 F 166 (nI i) k (n + 1) (nI j) s = _
        rw [f_X9_back_L25, if_pos (show nI j < (177 : Int32) from nI_lt hj (by decide)), at_img, if_pos j1, if_pos i1, lt_eq, i2, j2, show gI s (166 + 12) (177 * (1 + i) + j) = gI μ 178 (177 * (1 + i) + j) from hs.1.2.2 178 _ (by omega), nI_1])
    (fun n s hs => by
      show f_X9_back_L25 F 166 (nI i) k (n + 1) (nI 177) s = _
      rw [f_X9_back_L25, if_neg (show ¬ nI 177 < (177 : Int32) from nI_nlt (Nat.le_refl _) (by decide))])
    177 F 0 μ (by omega) (by omega) ⟨Of8_rfl _ _ μ, fun r hr => by omega⟩
  exact ⟨μ1, e1, h1.1, h1.2⟩
theorem S_back (hF : 5000 ≤ F) {σ : St} {μ μ' : Mem} (ho : OkS σ) (hC : RcC σ μ) (hM : RcM σ μ') (a : Int32) : Stps μ μ' (f_X8_back F μ 0 a) (f_X9_back F μ' 166 a) := by
  have hg := ho.1
  have h5 := hg.2.2.2.1
  unfold f_X8_back f_X9_back
  have eb : f_X9_in F μ' a 0 1 = some (if okN a 2 = true then 1 else 0) := in_ok F μ' a 2 (by decide)
  rw [eb, Option.bind_some]
  by_cases ha : okN a 2 = true
  · obtain ⟨i, hi, rfl⟩ := okN_of (by decide) ha
    have j1 : ix (nI i) 2 = true := nI_ix hi (by decide)
    have j2 : (nI i).toNatClampNeg = i := nI_clamp (by omega)
    obtain ⟨k1, k2, k3, k4⟩ := hC.2.2.2.1 i hi
    obtain ⟨k5, k6⟩ := hM.2.2.1 i hi
    have k1 : gR μ (0 + 62) i = 74 + 46 * i := k1
    have k3 : gI μ (0 + 63) i = _ := k3
    have k5 : gI μ' (166 + 13) i = _ := k5
    rw [if_neg (nI_pos (by omega)), if_pos (show nI i < (2 : Int32) from nI_lt hi (by decide)), if_pos j1, if_pos j1, j2, k3, k1, if_pos ha, if_neg (show ¬ (1 : Int32) = 0 by decide), if_pos j1, k5]
    cases hk : σ.2.2.1 i with
    | none =>
      rw [if_neg (show ¬ (none : Option Co).isSome = true by decide), if_pos (rfl : (0 : Int32) = 0), if_pos (rfl : (0 : Int32) = 0)]
      exact Stps_same ho hC hM _
    | some c =>
      rw [if_pos (show (some c).isSome = true from rfl), if_neg (show ¬ (1 : Int32) = 0 by decide), if_neg (show ¬ (1 : Int32) = 0 by decide)]
      obtain ⟨μ1, e1, o1, q1, c1⟩ := copy_ok (t := 16) (q := 74 + 46 * i) hF h5 (by omega) hC.2.1 k2 (k4 c hk)
      have e1 : f_X0_copy F μ (0 + 16) (74 + 46 * i) = some μ1 := e1
      have o1 : Off 16 62 μ μ1 := o1
      obtain ⟨μ2, e2, o2, c2⟩ := M_backL hF μ' hi (fun x2_5 μ_6 => (f_X9_manyOf F μ_6 (gI μ_6 (166 + 12) 15)).bind (fun v_7 => some (v_7, μ_6)))
      have hco := ho.2.2.1 i c hk
      have R1 : RcC (σ.1, c, σ.2.2) μ1 := RcC_co o1 hC q1 c1
      have R2 : RcM (σ.1, c, σ.2.2) μ2 := RcM_co h5 o2 hM (CoM_at h5 c2 (k6 c hk))
      have ok2 : OkS (σ.1, c, σ.2.2) := OkS_co ho hco
      have eC : gI μ2 (166 + 12) 15 = nI (mC c.1) := R2.2.1.1.1
      have hc8 : mC c.1 < 256 := mC_lt hg hco.1
      have e4 : f_X8_closedLanes F μ1 0 = some (nI (pc8 (mC c.1))) := C_closedLanes (RcC_VC ok2 R1)
      rw [e1, Option.bind_some, e4, Option.bind_some, e2, eC, manyOf_ok hF μ2 hc8, Option.bind_some]
      exact ⟨_, _, _, _, rfl, rfl, ok2, R1, R2, Off_hi o1 (by decide), Of8_lo o2⟩
  · simp only [ha, if_false, if_true, Bool.false_eq_true]
    rcases okN_no ha with z | z
    · rw [if_pos z]; exact Stps_same ho hC hM _
    · have z : ¬ a < (2 : Int32) := z
      rw [if_neg z]
      by_cases y : a < 0
      · rw [if_pos y]; exact Stps_same ho hC hM _
      · rw [if_neg y]; exact Stps_same ho hC hM _
theorem S_keep (hF : 5000 ≤ F) {σ : St} {μ μ' : Mem} (ho : OkS σ) (hC : RcC σ μ) (hM : RcM σ μ') (a : Int32) : Stps μ μ' (f_X8_keep F μ 0 a) (f_X9_keep F μ' 166 a) := by
  have hg := ho.1
  have h5 := hg.2.2.2.1
  unfold f_X8_keep f_X9_keep
  have eb : f_X9_in F μ' a 0 1 = some (if okN a 2 = true then 1 else 0) := in_ok F μ' a 2 (by decide)
  rw [eb, Option.bind_some]
  by_cases ha : okN a 2 = true
  · obtain ⟨i, hi, rfl⟩ := okN_of (by decide) ha
    have j1 : ix (nI i) 2 = true := nI_ix hi (by decide)
    have j2 : (nI i).toNatClampNeg = i := nI_clamp (by omega)
    obtain ⟨k1, k2, k3, k4⟩ := hC.2.2.2.1 i hi
    have k1 : gR μ (0 + 62) i = 74 + 46 * i := k1
    rw [if_neg (nI_pos (by omega)), if_pos (show nI i < (2 : Int32) from nI_lt hi (by decide)), if_pos j1, j2, k1, if_pos ha, if_neg (show ¬ (1 : Int32) = 0 by decide)]
    obtain ⟨μ1, e1, o1, q1, c1⟩ := copy_ok (t := 74 + 46 * i) (q := 16) hF h5 (by omega) k2 hC.2.1 hC.2.2.1
    have e1 : f_X0_copy F μ (74 + 46 * i) (0 + 16) = some μ1 := e1
    obtain ⟨μ2, e2, o2, c2⟩ := M_keepL hF μ' hi (fun x2_5 μ_6 => if ix (nI i) 2 = true then lt (sI μ_6 (166 + 13) i (vp_nar .boolean 1)) (fun μ_7 => (f_X9_manyOf F μ_7 (gI μ_7 (166 + 12) 15)).bind (fun v_8 => some (v_8, μ_7))) else none)
    have hnar : vp_nar .boolean 1 = 1 := by decide +kernel
    rw [e1, Option.bind_some, if_pos j1, lt_eq, e2, if_pos j1, lt_eq, hnar]
    have sC : ∀ a, ¬ (74 + 46 * i ≤ a ∧ a < 120 + 46 * i) → a ≠ 63 → Sm μ (sI μ1 63 i 1) a := fun a h1 h2 => Sm_tr (o1 a (by omega)) (sI_off a h2)
    have sM : ∀ a, a ≠ 178 → a ≠ 179 → Sm μ' (sI μ2 179 i 1) a := fun a h1 h2 => Sm_tr ⟨fun j => o2.2.2 a j (by omega), o2.1 a, o2.2.1 a⟩ (sI_off a h2)
    have e178 : ∀ j, gI (sI μ2 179 i 1) 178 j = gI μ2 178 j := fun j => by rw [gI_sI, if_neg (by omega)]
    have R1 : RcC (σ.1, σ.2.1, (fun j => if j = i then some σ.2.1 else σ.2.2.1 j), σ.2.2.2) (sI μ1 63 i 1) := by
      obtain ⟨⟨t, d, r1, r2, r3, r4⟩, p, c, k, x, a, l⟩ := id hC
      have s0 := sC 0 (by omega) (by omega)
      refine ⟨⟨t, d, (s0.2.1 1).trans r1, (s0.2.1 2).trans r2, r3, CfgC_sm (fun k hk => sC _ (by omega) (by omega)) r4⟩, PtC_sm (sC _ (by omega) (by omega)) p, CoC_sm (fun k hk => sC _ (by omega) (by omega)) p c, fun j hj => ?_, ?_, GaC_sm (fun k hk => sC _ (by omega) (by omega)) a, s0.2.2.trans l⟩
      · obtain ⟨m1, m2, m3, m4⟩ := k j hj
        refine ⟨((sC 62 (by omega) (by omega)).2.1 j).trans m1, ?_, ?_, fun c hc => ?_⟩
        · by_cases e : j = i
          · subst e; exact PtC_sm (sI_off _ (by omega)) q1
          · exact PtC_sm (sC _ (by omega) (by omega)) m2
        · rw [gI_sI]
          by_cases e : j = i
          · rw [if_pos ⟨rfl, e⟩]
            show _ = if (if j = i then some σ.2.1 else σ.2.2.1 j).isSome = true then 1 else 0
            rw [if_pos e]; rfl
          · rw [if_neg (by omega), (o1 63 (by omega)).1 j, m3]
            show _ = if (if j = i then some σ.2.1 else σ.2.2.1 j).isSome = true then 1 else 0
            rw [if_neg e]
        · have hc : (if j = i then some σ.2.1 else σ.2.2.1 j) = some c := hc
          by_cases e : j = i
          · rw [if_pos e] at hc
            cases hc
            subst e
            exact CoC_sm (fun k hk => sI_off _ (by omega)) q1 c1
          · rw [if_neg e] at hc
            exact CoC_sm (fun k hk => sC _ (by omega) (by omega)) m2 (m4 c hc)
      · exact ⟨((sC 2 (by omega) (by omega)).1 1).trans x.1, fun i hi => ((sC 3 (by omega) (by omega)).1 i).trans (x.2 i hi)⟩
    have R2 : RcM (σ.1, σ.2.1, (fun j => if j = i then some σ.2.1 else σ.2.2.1 j), σ.2.2.2) (sI μ2 179 i 1) := by
      obtain ⟨r, c, k, x, a, l⟩ := id hM
      refine ⟨CfgM_sm (fun k h1 h2 => sM k (by omega) (by omega)) r, CoM_at h5 (fun k hk => by rw [e178]; exact o2.2.2 178 _ (by omega)) c, fun j hj => ?_, ?_, GaM_sm ((sM 166 (by decide) (by decide)).1 26) (sM _ (by decide) (by decide)) (sM _ (by decide) (by decide)) a, (sM 166 (by decide) (by decide)).2.2.trans l⟩
      · obtain ⟨m1, m2⟩ := k j hj
        refine ⟨?_, fun c' hc => ?_⟩
        · rw [gI_sI]
          by_cases e : j = i
          · rw [if_pos ⟨rfl, e⟩]
            show _ = if (if j = i then some σ.2.1 else σ.2.2.1 j).isSome = true then 1 else 0
            rw [if_pos e]; rfl
          · rw [if_neg (by omega), o2.2.2 179 j (by omega), m1]
            show _ = if (if j = i then some σ.2.1 else σ.2.2.1 j).isSome = true then 1 else 0
            rw [if_neg e]
        · have hc : (if j = i then some σ.2.1 else σ.2.2.1 j) = some c' := hc
          by_cases e : j = i
          · rw [if_pos e] at hc
            cases hc
            subst e
            exact CoM_at h5 (fun k hk => by rw [e178]; exact c2 k hk) c
          · rw [if_neg e] at hc
            exact CoM_at h5 (fun k hk => by rw [e178]; exact o2.2.2 178 _ (by omega)) (m2 c' hc)
      · exact ⟨((sM 166 (by decide) (by decide)).1 2).trans x.1, fun i hi => by rw [(sM 167 (by decide) (by decide)).1 i]; exact x.2 i hi⟩
    have ok2 : OkS (σ.1, σ.2.1, (fun j => if j = i then some σ.2.1 else σ.2.2.1 j), σ.2.2.2) := ⟨ho.1, ho.2.1, fun j c hc => by
      have hc : (if j = i then some σ.2.1 else σ.2.2.1 j) = some c := hc
      by_cases e : j = i
      · rw [if_pos e] at hc; cases hc; exact ho.2.1
      · rw [if_neg e] at hc; exact ho.2.2.1 j c hc, ho.2.2.2⟩
    have hc8 : mC σ.2.1.1 < 256 := mC_lt hg ho.2.1.1
    have v2 := RcC_VC ok2 R1
    have e4 : f_X8_closedLanes F (sI μ1 63 i 1) 0 = some (nI (pc8 (mC σ.2.1.1))) := C_closedLanes v2
    have e4 : f_X8_closedLanes F (sI μ1 (0 + 63) i 1) 0 = some (nI (pc8 (mC σ.2.1.1))) := e4
    have eC : gI (sI μ2 (166 + 13) i 1) (166 + 12) 15 = nI (mC σ.2.1.1) := R2.2.1.1.1
    rw [e4, Option.bind_some, eC, manyOf_ok hF _ hc8, Option.bind_some]
    refine ⟨_, _, _, _, rfl, rfl, ok2, R1, R2, fun q hq => ?_, fun q hq => ?_⟩
    · have := sC q (by omega) (by omega)
      exact ⟨fun j _ => this.1 j, this.2.1, this.2.2⟩
    · have := sM q (by omega) (by omega)
      exact ⟨fun j _ => this.1 j, this.2.1, this.2.2⟩
  · simp only [ha, if_false, if_true, Bool.false_eq_true]
    rcases okN_no ha with z | z
    · rw [if_pos z]; exact Stps_same ho hC hM _
    · have z : ¬ a < (2 : Int32) := z
      rw [if_neg z]
      by_cases y : a < 0
      · rw [if_pos y]; exact Stps_same ho hC hM _
      · rw [if_neg y]; exact Stps_same ho hC hM _
end R51
