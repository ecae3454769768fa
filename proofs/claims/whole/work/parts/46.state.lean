/-! the whole state, as the class keeps it and as the model does -/
abbrev St : Type := Cfg × Co × (Nat → Option Co) × List Nat × Ga × Int64
def RcC (σ : St) (μ : Mem) : Prop :=
  (∃ t d, gR μ 0 1 = t ∧ gR μ 0 2 = d ∧ ((t = 4 ∧ d = 10) ∨ (t = 10 ∧ d = 4)) ∧ CfgC μ t σ.1) ∧
  PtC μ 16 ∧ CoC μ 16 (gM σ.1) σ.2.1 ∧
  (∀ i, i < 2 → gR μ 62 i = 74 + 46 * i ∧ PtC μ (74 + 46 * i) ∧ gI μ 63 i = (if (σ.2.2.1 i).isSome = true then 1 else 0) ∧ ∀ c, σ.2.2.1 i = some c → CoC μ (74 + 46 * i) (gM σ.1) c) ∧
  (gI μ 2 1 = nI σ.2.2.2.1.length ∧ ∀ i (h : i < σ.2.2.2.1.length), gI μ 3 i = nI σ.2.2.2.1[i]) ∧
  GaC μ σ.2.2.2.2.1 ∧ gL μ 0 = σ.2.2.2.2.2
def RcM (σ : St) (μ : Mem) : Prop :=
  CfgM μ σ.1 ∧ CoM μ 0 (gM σ.1) σ.2.1 ∧
  (∀ i, i < 2 → gI μ 179 i = (if (σ.2.2.1 i).isSome = true then 1 else 0) ∧ ∀ c, σ.2.2.1 i = some c → CoM μ (177 * (1 + i)) (gM σ.1) c) ∧
  (gI μ 166 2 = nI σ.2.2.2.1.length ∧ ∀ i (h : i < σ.2.2.2.1.length), gI μ 167 i &&& 255 = nI σ.2.2.2.1[i]) ∧
  GaM μ σ.2.2.2.2.1 ∧ gL μ 166 = σ.2.2.2.2.2
def OkS (σ : St) : Prop := OkG σ.1 ∧ OkC σ.1 σ.2.1 ∧ (∀ i c, σ.2.2.1 i = some c → OkC σ.1 c) ∧ (σ.2.2.2.1.length ≤ 150 ∧ ∀ x ∈ σ.2.2.2.1, x < 256) ∧ OkGa σ.1 σ.2.2.2.2.1
def LoS (μ μ' : Mem) : Prop := ∀ q, q < 166 → (∀ j, scr q j = false → gI μ' q j = gI μ q j) ∧ (∀ j, gR μ' q j = gR μ q j) ∧ gL μ' q = gL μ q
def HiS (μ μ' : Mem) : Prop := ∀ q, 166 ≤ q → (∀ j, scr q j = false → gI μ' q j = gI μ q j) ∧ (∀ j, gR μ' q j = gR μ q j) ∧ gL μ' q = gL μ q
theorem Sc_lo {μ μ' : Mem} (h : Sc μ μ') : LoS μ μ' := fun q _ => ⟨fun j hs => h.2.2 q j hs, h.1 q, h.2.1 q⟩
theorem Sc_hi {μ μ' : Mem} (h : Sc μ μ') : HiS μ μ' := fun q _ => ⟨fun j hs => h.2.2 q j hs, h.1 q, h.2.1 q⟩
theorem LoS_rfl (μ : Mem) : LoS μ μ := fun _ _ => ⟨fun _ _ => rfl, fun _ => rfl, rfl⟩
theorem HiS_rfl (μ : Mem) : HiS μ μ := fun _ _ => ⟨fun _ _ => rfl, fun _ => rfl, rfl⟩
theorem LoS_tr {μ μ1 μ2 : Mem} (h1 : LoS μ μ1) (h2 : LoS μ1 μ2) : LoS μ μ2 := fun q hq => ⟨fun j hs => ((h2 q hq).1 j hs).trans ((h1 q hq).1 j hs), fun j => ((h2 q hq).2.1 j).trans ((h1 q hq).2.1 j), (h2 q hq).2.2.trans (h1 q hq).2.2⟩
theorem HiS_tr {μ μ1 μ2 : Mem} (h1 : HiS μ μ1) (h2 : HiS μ1 μ2) : HiS μ μ2 := fun q hq => ⟨fun j hs => ((h2 q hq).1 j hs).trans ((h1 q hq).1 j hs), fun j => ((h2 q hq).2.1 j).trans ((h1 q hq).2.1 j), (h2 q hq).2.2.trans (h1 q hq).2.2⟩
theorem Off_hi {s e : Nat} {μ μ' : Mem} (h : Off s e μ μ') (he : e ≤ 166) : HiS μ μ' := fun q hq => by
  have := h q (by omega)
  exact ⟨fun j _ => this.1 j, this.2.1, this.2.2⟩
theorem Off_lo {s e : Nat} {μ μ' : Mem} (h : Off s e μ μ') (he : 166 ≤ s) : LoS μ μ' := fun q hq => by
  have := h q (by omega)
  exact ⟨fun j _ => this.1 j, this.2.1, this.2.2⟩
theorem Of8_lo {s e : Nat} {μ μ' : Mem} (h : Of8 s e μ μ') : LoS μ μ' := fun q hq => ⟨fun j _ => h.2.2 q j (by omega), h.1 q, h.2.1 q⟩
theorem Lo_sm {μ μ' : Mem} (h : LoS μ μ') {a : Nat} (h1 : a < 166) (h2 : ¬ (68 ≤ a ∧ a ≤ 73)) (h3 : a ≠ 1) : Sm μ μ' a := ⟨fun j => (h a h1).1 j (scr_of (by omega) h2 h3 (by omega)), (h a h1).2.1, (h a h1).2.2⟩
theorem Hi_sm {μ μ' : Mem} (h : HiS μ μ') {a : Nat} (h1 : 167 ≤ a) (h2 : ¬ (180 ≤ a ∧ a ≤ 182)) : Sm μ μ' a := ⟨fun j => (h a (by omega)).1 j (by simp only [scr, Bool.or_eq_false_iff, decide_eq_false_iff_not]; omega), (h a (by omega)).2.1, (h a (by omega)).2.2⟩
theorem CfgC_sm {μ μ' : Mem} {t : Nat} {g : Cfg} (h : ∀ k, k < 4 → Sm μ μ' (t + k)) (hc : CfgC μ t g) : CfgC μ' t g := by
  have e0 : ∀ j, gI μ' t j = gI μ t j := (h 0 (by decide)).1
  unfold CfgC
  simp only [e0, (h 1 (by decide)).1, (h 2 (by decide)).1, (h 3 (by decide)).1]
  exact hc
theorem GaC_sm {μ μ' : Mem} {a : Ga} (h : ∀ k, k < 3 → Sm μ μ' (64 + k)) (hc : GaC μ a) : GaC μ' a := by
  unfold GaC
  simp only [(h 0 (by decide)).1, (h 1 (by decide)).1, (h 2 (by decide)).1]
  exact hc
theorem GaM_sm {μ μ' : Mem} {a : Ga} (h0 : gI μ' 166 26 = gI μ 166 26) (h1 : Sm μ μ' 183) (h2 : Sm μ μ' 184) (hc : GaM μ a) : GaM μ' a := by
  unfold GaM
  simp only [h0, h1.1, h2.1]
  exact hc
theorem CfgM_sm {μ μ' : Mem} {g : Cfg} (h : ∀ k, 168 ≤ k → k ≤ 177 → Sm μ μ' k) (hc : CfgM μ g) : CfgM μ' g := by
  unfold CfgM
  simp only [(h 168 (by decide) (by decide)).1, (h 169 (by decide) (by decide)).1, (h 170 (by decide) (by decide)).1, (h 171 (by decide) (by decide)).1, (h 172 (by decide) (by decide)).1, (h 173 (by decide) (by decide)).1, (h 176 (by decide) (by decide)).1, (h 177 (by decide) (by decide)).1]
  exact hc
/-- the parts outside the course -/
theorem RcC_lo {σ : St} {μ μ' : Mem} (h : LoS μ μ') (hr : RcC σ μ) : RcC σ μ' := by
  obtain ⟨⟨t, d, r1, r2, r3, r4⟩, p, c, k, x, a, l⟩ := hr
  have s : ∀ a, a < 166 → ¬ (68 ≤ a ∧ a ≤ 73) → a ≠ 1 → Sm μ μ' a := fun a h1 h2 h3 => Lo_sm h h1 h2 h3
  have s0 := s 0 (by decide) (by decide) (by decide)
  refine ⟨⟨t, d, (s0.2.1 1).trans r1, (s0.2.1 2).trans r2, r3, CfgC_sm (fun k hk => s _ (by omega) (by omega) (by omega)) r4⟩, PtC_sm (s _ (by decide) (by decide) (by decide)) p, CoC_sm (fun k hk => s _ (by omega) (by omega) (by omega)) p c, fun i hi => ?_, ?_, GaC_sm (fun k hk => s _ (by omega) (by omega) (by omega)) a, s0.2.2.trans l⟩
  · obtain ⟨k1, k2, k3, k4⟩ := k i hi
    exact ⟨((s 62 (by decide) (by decide) (by decide)).2.1 i).trans k1, PtC_sm (s _ (by omega) (by omega) (by omega)) k2, ((s 63 (by decide) (by decide) (by decide)).1 i).trans k3, fun c hc => CoC_sm (fun k hk => s _ (by omega) (by omega) (by omega)) k2 (k4 c hc)⟩
  · exact ⟨((s 2 (by decide) (by decide) (by decide)).1 1).trans x.1, fun i hi => ((s 3 (by decide) (by decide) (by decide)).1 i).trans (x.2 i hi)⟩
theorem RcM_hi {σ : St} {μ μ' : Mem} (h5 : gM σ.1 ≤ 5) (h : HiS μ μ') (hr : RcM σ μ) : RcM σ μ' := by
  obtain ⟨r, c, k, x, a, l⟩ := hr
  have s : ∀ a, 167 ≤ a → ¬ (180 ≤ a ∧ a ≤ 182) → Sm μ μ' a := fun a h1 h2 => Hi_sm h h1 h2
  have e : ∀ j, (j = 2 ∨ j = 26) → gI μ' 166 j = gI μ 166 j := fun j hj => (h 166 (by decide)).1 j (by simp only [scr, Bool.or_eq_false_iff, decide_eq_false_iff_not]; omega)
  have s178 := (s 178 (by decide) (by decide)).1
  refine ⟨CfgM_sm (fun k h1 h2 => s k (by omega) (by omega)) r, CoM_at h5 (fun k _ => s178 _) c, fun i hi => ?_, ?_, GaM_sm (e 26 (by omega)) (s _ (by decide) (by decide)) (s _ (by decide) (by decide)) a, (h 166 (by decide)).2.2.trans l⟩
  · obtain ⟨k1, k2⟩ := k i hi
    exact ⟨((s 179 (by decide) (by decide)).1 i).trans k1, fun c hc => CoM_at h5 (fun k _ => s178 _) (k2 c hc)⟩
  · exact ⟨(e 2 (by omega)).trans x.1, fun i hi => by rw [(s 167 (by decide) (by decide)).1 i]; exact x.2 i hi⟩
theorem RcC_VC {σ : St} {μ : Mem} (ho : OkS σ) (h : RcC σ μ) : VC μ σ.1 σ.2.1.1 := by
  obtain ⟨⟨t, d, r1, r2, r3, r4⟩, p, c, -⟩ := h
  exact ⟨⟨t, r1, by omega, r4⟩, c.1, ho.1, ho.2.1.1⟩
theorem RcM_VM {σ : St} {μ : Mem} (ho : OkS σ) (h : RcM σ μ) : VM μ σ.1 σ.2.1.1 := ⟨h.1, h.2.1.1, ho.1, ho.2.1.1⟩
/-- a call goes alike -/
def Stps (μ μ' : Mem) (o o' : Option (Int32 × Mem)) : Prop := ∃ v σ' μ1 μ2, o = some (v, μ1) ∧ o' = some (v, μ2) ∧ OkS σ' ∧ RcC σ' μ1 ∧ RcM σ' μ2 ∧ HiS μ μ1 ∧ LoS μ' μ2
theorem Stps_two {σ : St} {μ μ' : Mem} {o o' : Option (Int32 × Mem)} (ho : OkS σ) (hC : RcC σ μ) (hM : RcM σ μ') (h : Two μ μ' o o') : Stps μ μ' o o' := by
  obtain ⟨v, μ1, μ2, e1, e2, s1, s2⟩ := h
  exact ⟨v, σ, μ1, μ2, e1, e2, ho, RcC_lo (Sc_lo s1) hC, RcM_hi ho.1.2.2.2.1 (Sc_hi s2) hM, Sc_hi s1, Sc_lo s2⟩
theorem Stps_same {σ : St} {μ μ' : Mem} (ho : OkS σ) (hC : RcC σ μ) (hM : RcM σ μ') (v : Int32) : Stps μ μ' (some (v, μ)) (some (v, μ')) := ⟨v, σ, μ, μ', rfl, rfl, ho, hC, hM, HiS_rfl _, LoS_rfl _⟩
def Rel (μ : Mem) : Prop := ∃ σ, OkS σ ∧ RcC σ μ ∧ RcM σ μ
/-- the two calls, one after the other -/
theorem run2 {μ : Mem} {c8 c9 : Mem → Option (Int32 × Mem)} (h : Rel μ) (hs : ∀ σ μ μ', OkS σ → RcC σ μ → RcM σ μ' → Stps μ μ' (c8 μ) (c9 μ')) : ∃ v μ1 μ2, c8 μ = some (v, μ1) ∧ c9 μ1 = some (v, μ2) ∧ Rel μ2 := by
  obtain ⟨σ, ho, hC, hM⟩ := h
  obtain ⟨v, σ1, μ1, μ2, e1, e2, o1, C1, M1, f1, f2⟩ := hs σ μ μ ho hC hM
  have hM1 : RcM σ μ1 := RcM_hi ho.1.2.2.2.1 f1 hM
  obtain ⟨v', σ2, μ3, μ4, e3, e4, o2, C2, M2, f3, f4⟩ := hs σ μ μ1 ho hC hM1
  rw [e1] at e3
  cases e3
  exact ⟨v, μ1, μ4, e1, e4, σ2, o2, RcC_lo f4 C2, M2⟩
