section R52
variable {F : Nat}
theorem byte_q : ∀ x, x < 256 → vp_nar .byte (nI x).toInt8.toInt32 &&& 255 = nI x := by decide +kernel
theorem RcC_tx {σ : St} {μ μ' : Mem} {tx : List Nat} (h : Off 2 4 μ μ') (hr : RcC σ μ) (hx : gI μ' 2 1 = nI tx.length ∧ ∀ i (h : i < tx.length), gI μ' 3 i = nI tx[i]) : RcC (σ.1, σ.2.1, σ.2.2.1, tx, σ.2.2.2.2) μ' := by
  obtain ⟨⟨t, d, r1, r2, r3, r4⟩, p, c, k, x, a, l⟩ := hr
  have s0 := h 0 (by omega)
  refine ⟨⟨t, d, (s0.2.1 1).trans r1, (s0.2.1 2).trans r2, r3, CfgC_sm (fun k hk => h _ (by omega)) r4⟩, PtC_sm (h _ (by omega)) p, CoC_sm (fun k hk => h _ (by omega)) p c, fun i hi => ?_, hx, GaC_sm (fun k hk => h _ (by omega)) a, s0.2.2.trans l⟩
  obtain ⟨k1, k2, k3, k4⟩ := k i hi
  exact ⟨((h 62 (by omega)).2.1 i).trans k1, PtC_sm (h _ (by omega)) k2, ((h 63 (by omega)).1 i).trans k3, fun c hc => CoC_sm (fun k hk => h _ (by omega)) k2 (k4 c hc)⟩
theorem RcC_ga {σ : St} {μ μ' : Mem} {a' : Ga} (h : Off 64 67 μ μ') (hr : RcC σ μ) (ha : GaC μ' a') : RcC (σ.1, σ.2.1, σ.2.2.1, σ.2.2.2.1, a', σ.2.2.2.2.2) μ' := by
  obtain ⟨⟨t, d, r1, r2, r3, r4⟩, p, c, k, x, a, l⟩ := hr
  have s0 := h 0 (by omega)
  refine ⟨⟨t, d, (s0.2.1 1).trans r1, (s0.2.1 2).trans r2, r3, CfgC_sm (fun k hk => h _ (by omega)) r4⟩, PtC_sm (h _ (by omega)) p, CoC_sm (fun k hk => h _ (by omega)) p c, fun i hi => ?_, ⟨((h 2 (by omega)).1 1).trans x.1, fun i hi => ((h 3 (by omega)).1 i).trans (x.2 i hi)⟩, ha, s0.2.2.trans l⟩
  obtain ⟨k1, k2, k3, k4⟩ := k i hi
  exact ⟨((h 62 (by omega)).2.1 i).trans k1, PtC_sm (h _ (by omega)) k2, ((h 63 (by omega)).1 i).trans k3, fun c hc => CoC_sm (fun k hk => h _ (by omega)) k2 (k4 c hc)⟩
theorem RcM_tx {σ : St} {μ μ' : Mem} {tx : List Nat} (h5 : gM σ.1 ≤ 5) (h : ∀ a, a ≠ 166 → a ≠ 167 → Sm μ μ' a) (h1 : gI μ' 166 26 = gI μ 166 26) (h2 : gL μ' 166 = gL μ 166) (hr : RcM σ μ) (hx : gI μ' 166 2 = nI tx.length ∧ ∀ i (h : i < tx.length), gI μ' 167 i &&& 255 = nI tx[i]) : RcM (σ.1, σ.2.1, σ.2.2.1, tx, σ.2.2.2.2) μ' := by
  obtain ⟨r, c, k, x, a, l⟩ := hr
  have s178 := (h 178 (by decide) (by decide)).1
  refine ⟨CfgM_sm (fun k h1 h2 => h k (by omega) (by omega)) r, CoM_at h5 (fun k _ => s178 _) c, fun i hi => ?_, hx, GaM_sm h1 (h _ (by decide) (by decide)) (h _ (by decide) (by decide)) a, h2.trans l⟩
  obtain ⟨k1, k2⟩ := k i hi
  exact ⟨((h 179 (by decide) (by decide)).1 i).trans k1, fun c hc => CoM_at h5 (fun k _ => s178 _) (k2 c hc)⟩
theorem RcM_ga {σ : St} {μ μ' : Mem} {a' : Ga} (h5 : gM σ.1 ≤ 5) (h : ∀ a, a ≠ 166 → a ≠ 183 → a ≠ 184 → Sm μ μ' a) (h1 : gI μ' 166 2 = gI μ 166 2) (h2 : gL μ' 166 = gL μ 166) (hr : RcM σ μ) (ha : GaM μ' a') : RcM (σ.1, σ.2.1, σ.2.2.1, σ.2.2.2.1, a', σ.2.2.2.2.2) μ' := by
  obtain ⟨r, c, k, x, a, l⟩ := hr
  have s178 := (h 178 (by decide) (by decide) (by decide)).1
  refine ⟨CfgM_sm (fun k h1 h2 => h k (by omega) (by omega) (by omega)) r, CoM_at h5 (fun k _ => s178 _) c, fun i hi => ?_, ⟨h1.trans x.1, fun i hi => by rw [(h 167 (by decide) (by decide) (by decide)).1 i]; exact x.2 i hi⟩, ha, h2.trans l⟩
  obtain ⟨k1, k2⟩ := k i hi
  exact ⟨((h 179 (by decide) (by decide) (by decide)).1 i).trans k1, fun c hc => CoM_at h5 (fun k _ => s178 _) (k2 c hc)⟩
theorem Lo_of {μ μ' : Mem} (h : ∀ a, a < 166 → Sm μ μ' a) : LoS μ μ' := fun q hq => ⟨fun j _ => (h q hq).1 j, (h q hq).2.1, (h q hq).2.2⟩
theorem S_clear {σ : St} {μ μ' : Mem} (ho : OkS σ) (hC : RcC σ μ) (hM : RcM σ μ') : Stps μ μ' (f_X8_clear F μ 0) (f_X9_clear F μ' 166) := by
  have h5 := ho.1.2.2.2.1
  have e1 : gI μ (0 + 1 + 1) 1 = nI σ.2.2.2.1.length := hC.2.2.2.2.1.1
  have e2 : gI μ' 166 2 = nI σ.2.2.2.1.length := hM.2.2.2.1.1
  unfold f_X8_clear f_X9_clear
  rw [lt_eq, lt_eq, e1, e2]
  have o1 : Off 2 4 μ (sI μ 2 1 0) := Off_sI (Off_rfl _ _ μ) (by decide) _ _
  have o2 : ∀ a, a ≠ 166 → Sm μ' (sI μ' 166 2 0) a := fun a ha => sI_off a ha
  exact ⟨_, (σ.1, σ.2.1, σ.2.2.1, [], σ.2.2.2.2), _, _, rfl, rfl, ⟨ho.1, ho.2.1, ho.2.2.1, ⟨Nat.zero_le _, fun x hx => by cases hx⟩, ho.2.2.2.2⟩, RcC_tx o1 hC ⟨by rw [gI_sI, if_pos ⟨rfl, rfl⟩]; rfl, fun i hi => by cases hi⟩, RcM_tx h5 (fun a h1 _ => o2 a h1) (by rw [gI_sI, if_neg (by omega)]) rfl hM ⟨by rw [gI_sI, if_pos ⟨rfl, rfl⟩]; rfl, fun i hi => by cases hi⟩, Off_hi o1 (by decide), Lo_of (fun a ha => o2 a (by omega))⟩
theorem S_forget {σ : St} {μ μ' : Mem} (ho : OkS σ) (hC : RcC σ μ) (hM : RcM σ μ') : Stps μ μ' (f_X8_forget F μ 0) (f_X9_forget F μ' 166) := by
  have h5 := ho.1.2.2.2.1
  have e1 : gI μ (0 + 64) 2 = nI σ.2.2.2.2.1.length := hC.2.2.2.2.2.1.1
  have e2 : gI μ' 166 26 = nI σ.2.2.2.2.1.length := hM.2.2.2.2.1.1
  unfold f_X8_forget f_X9_forget
  rw [lt_eq, lt_eq, e1, e2]
  have o1 : Off 64 67 μ (sI μ 64 2 0) := Off_sI (Off_rfl _ _ μ) (by decide) _ _
  have o2 : ∀ a, a ≠ 166 → Sm μ' (sI μ' 166 26 0) a := fun a ha => sI_off a ha
  exact ⟨_, (σ.1, σ.2.1, σ.2.2.1, σ.2.2.2.1, [], σ.2.2.2.2.2), _, _, rfl, rfl, ⟨ho.1, ho.2.1, ho.2.2.1, ho.2.2.2.1, ⟨Nat.zero_le _, fun x hx => by cases hx⟩⟩, RcC_ga o1 hC ⟨by rw [gI_sI, if_pos ⟨rfl, rfl⟩]; rfl, fun i hi => by cases hi⟩, RcM_ga h5 (fun a h1 _ _ => o2 a h1) (by rw [gI_sI, if_neg (by omega)]) rfl hM ⟨by rw [gI_sI, if_pos ⟨rfl, rfl⟩]; rfl, fun i hi => by cases hi⟩, Off_hi o1 (by decide), Lo_of (fun a ha => o2 a (by omega))⟩
theorem S_type {σ : St} {μ μ' : Mem} (ho : OkS σ) (hC : RcC σ μ) (hM : RcM σ μ') (a : Int32) : Stps μ μ' (f_X8_type F μ 0 a) (f_X9_type F μ' 166 a) := by
  have h5 := ho.1.2.2.2.1
  obtain ⟨g, c, k, tx, ga, tr⟩ := σ
  have e1 : gI μ 2 1 = nI tx.length := hC.2.2.2.2.1.1
  have e2 : gI μ' 166 2 = nI tx.length := hM.2.2.2.1.1
  have e3 : ∀ i (h : i < tx.length), gI μ 3 i = nI tx[i] := hC.2.2.2.2.1.2
  have e4 : ∀ i (h : i < tx.length), gI μ' 167 i &&& 255 = nI tx[i] := hM.2.2.2.1.2
  have hlen : tx.length ≤ 150 := ho.2.2.2.1.1
  have hb : ∀ x ∈ tx, x < 256 := ho.2.2.2.1.2
  have ein : f_X9_in F μ' a 0 255 = some (if okN a 256 = true then 1 else 0) := in_ok F μ' a 256 (by decide)
  unfold f_X8_type f_X9_type
  rw [ein, Option.bind_some]
  by_cases ha : okN a 256 = true
  · obtain ⟨x, hx, rfl⟩ := okN_of (by decide) ha
    rw [if_neg (nI_pos (by omega)), if_neg (show ¬ (255 : Int32) < nI x from nI_nlt (b := x) (a := 255) (by omega) (by decide)), if_pos ha, if_neg (show ¬ (1 : Int32) = 0 by decide), e2]
    unfold f_X5_add
    rw [show (0 + 1 + 1 : Nat) = 2 from rfl, e1]
    by_cases h : tx.length < 150
    · have j1 : ix (nI tx.length) 150 = true := nI_ix h (by decide)
      have j2 : (nI tx.length).toNatClampNeg = tx.length := nI_clamp (by omega)
      rw [if_pos (show nI tx.length < (150 : Int32) from (nI_lt h (by decide) : _ < nI 150)), if_neg (show ¬ nI tx.length = (150 : Int32) from fun z => by have := (nI_eq (b := 150) (by omega) (by decide)).mp z; omega), if_pos j1, if_pos j1, j2]
      have g1 : gI (sI μ (2 + 1) tx.length (nI x)) 2 1 = nI tx.length := by rw [gI_sI, if_neg (by omega)]; exact e1
      have g2 : gI (sI μ' (166 + 1) tx.length (vp_nar .byte (nI x).toInt8.toInt32)) 166 2 = nI tx.length := by rw [gI_sI, if_neg (by omega)]; exact e2
      have g3 : ∀ v, gI (sI (sI μ (2 + 1) tx.length (nI x)) 2 1 v) 2 1 = v := fun v => by rw [gI_sI, if_pos ⟨rfl, rfl⟩]
      have g4 : ∀ v, gI (sI (sI μ' (166 + 1) tx.length (vp_nar .byte (nI x).toInt8.toInt32)) 166 2 v) 166 2 = v := fun v => by rw [gI_sI, if_pos ⟨rfl, rfl⟩]
      simp only [lt_eq, g1, g2, bW_some, show ¬ (1 : Int32) = 0 by decide, if_false, g3, g4, nI_1]
      have o1 : Off 2 4 μ (sI (sI μ (2 + 1) tx.length (nI x)) 2 1 (nI (tx.length + 1))) := Off_sI (Off_sI (Off_rfl _ _ μ) (by decide) _ _) (by decide) _ _
      have o2 : ∀ a, a ≠ 166 → a ≠ 167 → Sm μ' (sI (sI μ' (166 + 1) tx.length (vp_nar .byte (nI x).toInt8.toInt32)) 166 2 (nI (tx.length + 1))) a := fun a h1 h2 => Sm_tr (sI_off a h2) (sI_off a h1)
      refine ⟨_, (g, c, k, tx ++ [x], ga, tr), _, _, rfl, rfl, ⟨ho.1, ho.2.1, ho.2.2.1, ⟨?_, fun y hy => ?_⟩, ho.2.2.2.2⟩, RcC_tx o1 hC ⟨?_, fun i hi => ?_⟩, RcM_tx h5 o2 ?_ rfl hM ⟨?_, fun i hi => ?_⟩, Off_hi o1 (by decide), Lo_of (fun a ha => o2 a (by omega) (by omega))⟩
      · show (tx ++ [x]).length ≤ 150
        simp; omega
      · have hy : y ∈ tx ++ [x] := hy
        rcases List.mem_append.mp hy with z | z
        · exact hb y z
        · have := List.mem_singleton.mp z; omega
      · rw [g3]; simp
      · have hi2 : i < tx.length + 1 := by simpa using hi
        rw [gI_sI, if_neg (by omega), gI_sI]
        by_cases e : i = tx.length
        · subst e; rw [if_pos ⟨rfl, rfl⟩]; simp
        · rw [if_neg (by omega), e3 i (by omega)]
          congr 1
          simp [List.getElem_append_left (show i < tx.length by omega)]
      · rw [gI_sI, if_neg (by omega), gI_sI, if_neg (by omega)]
      · rw [g4]; simp
      · have hi2 : i < tx.length + 1 := by simpa using hi
        rw [gI_sI, if_neg (by omega), gI_sI]
        by_cases e : i = tx.length
        · subst e; rw [if_pos ⟨rfl, rfl⟩, byte_q x hx]; simp
        · rw [if_neg (by omega), e4 i (by omega)]
          congr 1
          simp [List.getElem_append_left (show i < tx.length by omega)]
    · rw [if_neg (show ¬ nI tx.length < (150 : Int32) from (nI_nlt (by omega) (by omega) : ¬ _ < nI 150)), if_pos (show nI tx.length = (150 : Int32) by rw [show tx.length = 150 by omega]; rfl), bW_some, if_pos (rfl : (0 : Int32) = 0)]
      exact Stps_same ho hC hM _
  · simp only [ha, if_false, if_true, Bool.false_eq_true]
    rcases rng (by decide) (by decide) ha with z | z
    · rw [if_pos z]; exact Stps_same ho hC hM _
    · have z : (255 : Int32) < a := z
      rw [if_pos z]
      by_cases y : a < 0
      · rw [if_pos y]; exact Stps_same ho hC hM _
      · rw [if_neg y]; exact Stps_same ho hC hM _
theorem S_gate {σ : St} {μ μ' : Mem} (ho : OkS σ) (hC : RcC σ μ) (hM : RcM σ μ') (b a : Int32) : Stps μ μ' (f_X8_gate F μ 0 b a) (f_X9_gate F μ' 166 b a) := by
  have vC := RcC_VC ho hC
  have vM := RcM_VM ho hM
  have h5 := ho.1.2.2.2.1
  obtain ⟨g, c, k, tx, ga, tr⟩ := σ
  have e1 : gI μ 64 2 = nI ga.length := hC.2.2.2.2.2.1.1
  have e2 : gI μ' 166 26 = nI ga.length := hM.2.2.2.2.1.1
  have e3 : ∀ (i : Nat) (h : i < ga.length), gI μ 65 i = nI (ga[i]).1 ∧ gI μ 66 i = nI (ga[i]).2 := hC.2.2.2.2.2.1.2
  have e4 : ∀ (i : Nat) (h : i < ga.length), gI μ' 183 i = nI (ga[i]).1 ∧ gI μ' 184 i = nI (ga[i]).2 := hM.2.2.2.2.1.2
  have hlen : ga.length ≤ 6 := ho.2.2.2.2.1
  have hb : ∀ x ∈ ga, x.1 < 5 ∧ x.2 ≤ 40 := ho.2.2.2.2.2
  have h5 : gM g ≤ 5 := h5
  have ein : f_X9_in F μ' a 0 40 = some (if okN a 41 = true then 1 else 0) := in_ok F μ' a 41 (by decide)
  unfold f_X8_gate f_X9_gate
  rw [C_noPerson vC, M_isPerson vM, Option.bind_some, Option.bind_some, ein, Option.bind_some]
  by_cases hp0 : okN b (gM g) = true
  · rw [if_pos hp0, if_pos hp0, if_pos (rfl : (0 : Int32) = 0), if_neg (show ¬ (1 : Int32) = 0 by decide)]
    obtain ⟨p, hp, rfl⟩ := okN_of (by omega) hp0
    by_cases ha : okN a 41 = true
    · obtain ⟨x, hx, rfl⟩ := okN_of (by decide) ha
      rw [if_neg (nI_pos (by omega)), if_neg (show ¬ (40 : Int32) < nI x from nI_nlt (b := x) (a := 40) (by omega) (by decide)), if_pos ha, if_neg (show ¬ (1 : Int32) = 0 by decide), e2]
      unfold f_X2_add
      rw [show (0 + 64 : Nat) = 64 from rfl, e1]
      by_cases h : ga.length < 6
      · have j1 : ix (nI ga.length) 6 = true := nI_ix h (by decide)
        have j2 : (nI ga.length).toNatClampNeg = ga.length := nI_clamp (by omega)
        rw [if_pos (show nI ga.length < (6 : Int32) from (nI_lt h (by decide) : _ < nI 6)), if_neg (show ¬ nI ga.length = (6 : Int32) from fun z => by have := (nI_eq (b := 6) (by omega) (by decide)).mp z; omega), if_pos j1, if_pos j1, j2]
        have g1 : gI (sI μ (64 + 1) ga.length (nI p)) 64 2 = nI ga.length := by rw [gI_sI, if_neg (by omega)]; exact e1
        have g2 : gI (sI μ' (166 + 17) ga.length (nI p)) 166 26 = nI ga.length := by rw [gI_sI, if_neg (by omega)]; exact e2
        have g1' : gI (sI (sI μ (64 + 1) ga.length (nI p)) (64 + 2) ga.length (nI x)) 64 2 = nI ga.length := by rw [gI_sI, if_neg (by omega)]; exact g1
        have g2' : gI (sI (sI μ' (166 + 17) ga.length (nI p)) (166 + 18) ga.length (nI x)) 166 26 = nI ga.length := by rw [gI_sI, if_neg (by omega)]; exact g2
        have g3 : ∀ v, gI (sI (sI (sI μ (64 + 1) ga.length (nI p)) (64 + 2) ga.length (nI x)) 64 2 v) 64 2 = v := fun v => by rw [gI_sI, if_pos ⟨rfl, rfl⟩]
        have g4 : ∀ v, gI (sI (sI (sI μ' (166 + 17) ga.length (nI p)) (166 + 18) ga.length (nI x)) 166 26 v) 166 26 = v := fun v => by rw [gI_sI, if_pos ⟨rfl, rfl⟩]
        simp only [lt_eq, g1, g2, j1, j2, if_true, g1', g2', bW_some, show ¬ (1 : Int32) = 0 by decide, if_false, g3, g4, nI_1]
        have o1 : Off 64 67 μ (sI (sI (sI μ (64 + 1) ga.length (nI p)) (64 + 2) ga.length (nI x)) 64 2 (nI (ga.length + 1))) := Off_sI (Off_sI (Off_sI (Off_rfl _ _ μ) (by decide) _ _) (by decide) _ _) (by decide) _ _
        have o2 : ∀ a, a ≠ 166 → a ≠ 183 → a ≠ 184 → Sm μ' (sI (sI (sI μ' (166 + 17) ga.length (nI p)) (166 + 18) ga.length (nI x)) 166 26 (nI (ga.length + 1))) a := fun a h1 h2 h3 => Sm_tr (Sm_tr (sI_off a h2) (sI_off a h3)) (sI_off a h1)
        refine ⟨_, (g, c, k, tx, ga ++ [(p, x)], tr), _, _, rfl, rfl, ⟨ho.1, ho.2.1, ho.2.2.1, ho.2.2.2.1, ⟨?_, fun y hy => ?_⟩⟩, RcC_ga o1 hC ⟨?_, fun i hi => ?_⟩, RcM_ga h5 o2 ?_ rfl hM ⟨?_, fun i hi => ?_⟩, Off_hi o1 (by decide), Lo_of (fun a ha => o2 a (by omega) (by omega) (by omega))⟩
        · show (ga ++ [(p, x)]).length ≤ 6
          simp; omega
        · have hy : y ∈ ga ++ [(p, x)] := hy
          rcases List.mem_append.mp hy with z | z
          · exact hb y z
          · have := List.mem_singleton.mp z
            subst this
            exact ⟨by show p < 5; omega, by show x ≤ 40; omega⟩
        · rw [g3]; simp
        · have hi2 : i < ga.length + 1 := by simpa using hi
          simp only [gI_sI]
          by_cases e : i = ga.length
          · subst e
            rw [if_neg (by omega), if_neg (by omega), if_pos (by simp), if_neg (by omega), if_pos (by simp)]
            simp
          · rw [if_neg (by omega), if_neg (by omega), if_neg (by omega), if_neg (by omega), if_neg (by omega), if_neg (by omega)]
            rw [List.getElem_append_left (show i < ga.length by omega)]
            exact e3 i (by omega)
        · rw [gI_sI, if_neg (by omega), gI_sI, if_neg (by omega), gI_sI, if_neg (by omega)]
        · rw [g4]; simp
        · have hi2 : i < ga.length + 1 := by simpa using hi
          simp only [gI_sI]
          by_cases e : i = ga.length
          · subst e
            rw [if_neg (by omega), if_neg (by omega), if_pos (by simp), if_neg (by omega), if_pos (by simp)]
            simp
          · rw [if_neg (by omega), if_neg (by omega), if_neg (by omega), if_neg (by omega), if_neg (by omega), if_neg (by omega)]
            rw [List.getElem_append_left (show i < ga.length by omega)]
            exact e4 i (by omega)
      · rw [if_neg (show ¬ nI ga.length < (6 : Int32) from (nI_nlt (by omega) (by omega) : ¬ _ < nI 6)), if_pos (show nI ga.length = (6 : Int32) by rw [show ga.length = 6 by omega]; rfl), bW_some, if_pos (rfl : (0 : Int32) = 0)]
        exact Stps_same ho hC hM _
    · simp only [ha, if_false, if_true, Bool.false_eq_true]
      rcases rng (by decide) (by decide) ha with z | z
      · rw [if_pos z]; exact Stps_same ho hC hM _
      · have z : (40 : Int32) < a := z
        rw [if_pos z]
        by_cases y : a < 0
        · rw [if_pos y]; exact Stps_same ho hC hM _
        · rw [if_neg y]; exact Stps_same ho hC hM _
  · rw [if_neg hp0, if_neg hp0, if_neg (show ¬ (1 : Int32) = 0 by decide), if_pos (rfl : (0 : Int32) = 0)]
    exact Stps_same ho hC hM _
end R52
