section R32
variable {F : Nat} {μ μ' : Mem} {g : Cfg} {m : Mo} {c : Nat → Nat} {b : Nat}
theorem first_of {P : Nat → Prop} : ∀ {N : Nat}, (∃ l, l < N ∧ P l) → ∃ l, l < N ∧ P l ∧ ∀ j, j < l → ¬ P j
  | 0, h => by obtain ⟨l, h1, _⟩ := h; omega
  | N + 1, h => by
    by_cases e : ∃ l, l < N ∧ P l
    · obtain ⟨l, h1, h2, h3⟩ := first_of e
      exact ⟨l, by omega, h2, h3⟩
    · obtain ⟨l, h1, h2⟩ := h
      have : l = N := by
        rcases Nat.lt_or_ge l N with z | z
        · exact absurd ⟨l, z, h2⟩ e
        · omega
      subst this
      exact ⟨l, h1, h2, fun j hj hp => e ⟨j, hj, hp⟩⟩
theorem srch {R : Type} {f : Nat → Nat → Option R} {r : Option R} {l0 : Nat} (hno : ∀ n i, i < l0 → f (n + 1) i = f n (i + 1)) (hyes : ∀ n, f (n + 1) l0 = r) : ∀ (c n i : Nat), i + c = l0 → c < n → f n i = r
  | 0, n, i, h1, h2 => by
    obtain ⟨k, rfl⟩ : ∃ k, n = k + 1 := ⟨n - 1, by omega⟩
    have : i = l0 := by omega
    subst this
    exact hyes k
  | c + 1, n, i, h1, h2 => by
    obtain ⟨k, rfl⟩ : ∃ k, n = k + 1 := ⟨n - 1, by omega⟩
    rw [hno k i (by omega)]
    exact srch hno hyes c k (i + 1) (by omega) (by omega)
/-- a lane from v that comes one nearer -/
abbrev nxt (g : Cfg) (c : Nat → Nat) (D : Ar) (v l : Nat) : Prop := (v = gF g l ∨ v = gS g l) ∧ c l = 1 ∧ D (oth g l v) + 1 = D v
def One (g : Cfg) (c : Nat → Nat) : Prop := ∀ l, l < gN g → c l = 1 ∨ c l = 100000
theorem ds_le (hc : One g c) : ∀ (r v : Nat), Nj g c b r v < 100000 → Nj g c b r v ≤ r
  | 0, v, h => by
    have h : D0 b v < 100000 := h
    show D0 b v ≤ 0
    unfold D0 at h ⊢
    by_cases e : v = b
    · rw [if_pos e]; omega
    · rw [if_neg e] at h; omega
  | r + 1, v, h => by
    rcases jac_from (g := g) (c := c) (Nj g c b r) v with e | ⟨l, hl, ⟨e1, e2⟩ | ⟨e1, e2⟩⟩
    · have e : Nj g c b (r + 1) v = Nj g c b r v := e
      have := ds_le hc r v (by omega)
      omega
    · have e2 : Nj g c b (r + 1) v = Nj g c b r (gS g l) + c l := e2
      have h1 := hc l hl
      have := ds_le hc r (gS g l) (by omega)
      omega
    · have e2 : Nj g c b (r + 1) v = Nj g c b r (gF g l) + c l := e2
      have h1 := hc l hl
      have := ds_le hc r (gF g l) (by omega)
      omega
theorem ds_b : ds g c b b = 0 := Nj_b _
theorem ds_top (v : Nat) : ds g c b v ≤ 100000 := by
  have h := ds_D0 (g := g) (c := c) (b := b) v
  unfold D0 at h
  split at h <;> omega
theorem oth_lt (hg : OkG g) {l v : Nat} (hl : l < gN g) : oth g l v < gP g := by
  obtain ⟨g1, g2, -⟩ := hg.2.2.2.2.2.2.2 l hl
  unfold oth; split <;> assumption
theorem has_nxt (hg : OkG g) (hc : One g c) (hb : b < gP g) {v : Nat} (h1 : 1 ≤ ds g c b v) (h2 : ds g c b v < 100000) : ∃ l, l < gN g ∧ nxt g c (ds g c b) v l := by
  have hvb : ¬ v = b := fun e => by rw [e, ds_b] at h1; omega
  obtain ⟨l, hl, ⟨e1, e2⟩ | ⟨e1, e2⟩⟩ := ds_next hg hb h2 hvb
  · have h3 := hc l hl
    refine ⟨l, hl, Or.inl e1, by omega, ?_⟩
    rw [show oth g l v = gS g l from if_pos e1.symm]; omega
  · have h3 := hc l hl
    have h4 := (hg.2.2.2.2.2.2.2 l hl).2.2.1
    refine ⟨l, hl, Or.inr e1, by omega, ?_⟩
    rw [show oth g l v = gF g l from if_neg (by rw [e1]; exact h4)]; omega
theorem C_firstLane (hF : 5000 ≤ F) (hg : OkG g) {t : Nat} {μ2 : Mem} (hct : CfgC μ2 t g) {D : Ar} (h : DC μ g c D μ2) (hc : One g c) {v l0 : Nat} (hv : v < gP g) (h1 : 1 ≤ D v) (h2 : D v < 100000) (hl0 : l0 < gN g) (hy : nxt g c D v l0) (hn : ∀ j, j < l0 → ¬ nxt g c D v j) : f_X1_firstLaneNearer F μ2 67 t (nI v) = some (nI l0) := by
  have h8 := hg.2.2.1
  have hP := hg.2.1
  have jv : ix (nI v) 8 = true := nI_ix (by omega) (by decide)
  have kv : (nI v).toNatClampNeg = v := nI_clamp (by omega)
  have one : ∀ n i, i < gN g → f_X1_firstLaneNearer_L2 F μ2 67 t (nI v) (fun x3_1 => some (-9)) (n + 1) (nI i) = if nxt g c D v i then some (nI i) else f_X1_firstLaneNearer_L2 F μ2 67 t (nI v) (fun x3_1 => some (-9)) n (nI (i + 1)) := fun n i hi => by
    obtain ⟨i1, i2, i3⟩ := ix8 hg hi
    obtain ⟨c1, c2, c3⟩ := hct.2.2.2.2.2 i hi
    obtain ⟨g1, g2, g3, -⟩ := hg.2.2.2.2.2.2.2 i hi
    have j1 : ix (nI (gF g i)) 8 = true := nI_ix (by omega) (by decide)
    have j2 : ix (nI (gS g i)) 8 = true := nI_ix (by omega) (by decide)
    have k1 : (nI (gF g i)).toNatClampNeg = gF g i := nI_clamp (by omega)
    have k2 : (nI (gS g i)).toNatClampNeg = gS g i := nI_clamp (by omega)
    have q0 := eD_le (D (gF g i))
    have q1 := eD_le (D (gS g i))
    have q2 := eD_le (c i)
    have d1 : nI (D v) - 1 = nI (D v - 1) := nI_sub (b := 1) h1
    have ev : eD (D v) = D v := if_pos h2
    have ec : eD (c i) = 1 ↔ c i = 1 := by unfold eD; split <;> omega
    have eF : eD (D (gF g i)) = D v - 1 ↔ D (gF g i) + 1 = D v := by unfold eD; split <;> omega
    have eS : eD (D (gS g i)) = D v - 1 ↔ D (gS g i) + 1 = D v := by unfold eD; split <;> omega
    rw [f_X1_firstLaneNearer_L2, hct.2.1, if_pos (nI_lt hi (by omega))]
    simp only [i1, i3, c1, c2, j1, j2, k1, k2, jv, kv, if_true, show (67 + 1 = 68) from rfl, show (67 + 2 = 69) from rfl, h.2.2 _ g1, h.2.2 _ g2, h.2.2 _ hv, h.2.1 _ hi, ev, d1, nIs]
    have n1 : (nI (eD (c i)) = 1) ↔ c i = 1 := (nI_eq (b := 1) (by omega) (by decide)).trans ec
    simp (disch := omega) only [nI_eq, eF, eS, n1]
    unfold nxt oth
    by_cases a1 : v = gF g i
    · simp only [a1, if_true, true_or, true_and]
      by_cases a2 : c i = 1
      · simp only [a2, if_true, true_and]
      · simp only [a2, if_false, false_and]
    · have a1' : ¬ gF g i = v := fun z => a1 z.symm
      by_cases a3 : v = gS g i
      · simp only [a1, a1', a3, if_true, if_false, or_true, true_and]
        have a4 : ¬ gS g i = gF g i := fun z => g3 z.symm
        by_cases a2 : c i = 1
        · simp only [a2, if_true, true_and, a4, g3, if_false]
        · simp only [a2, a4, if_false, false_and]
      · simp only [a1, a3, if_false, or_self, false_and]
  unfold f_X1_firstLaneNearer
  refine srch (f := fun n i => f_X1_firstLaneNearer_L2 F μ2 67 t (nI v) (fun x3_1 => some (-9)) n (nI i)) (l0 := l0) (fun n i hi => ?_) (fun n => ?_) l0 F 0 (by omega) (by omega)
  · exact (one n i (by omega)).trans (if_neg (hn i hi))
  · exact (one n l0 hl0).trans (if_pos hy)
theorem M_firstLane (hF : 5000 ≤ F) (h : VM μ' g m) {p : Nat} (hp : p < gM g) {D : Ar} (hd : ∀ v, v < 8 → gI μ' 180 v = nI (D v)) {x v d l0 : Nat} (hv : v < gP g) (h1 : 1 ≤ D v) (h2 : D v < 100000) (hx : D v + x = d) (hd8 : d < 1000) (hD : ∀ u, D u ≤ 100000) (hl0 : l0 < gN g) (hy : nxt g (cst g m p 0) D v l0) (hn : ∀ j, j < l0 → ¬ nxt g (cst g m p 0) D v j) (x3 : Int32) (k : Int32 → Option (Int32 × Mem)) : f_X9_way_L81 F μ' 166 (nI p) x3 (nI v) (nI d) (nI x) k F 0 = k (nI l0) := by
  have hg := h.2.2.1
  have h8 := hg.2.2.1
  have hP := hg.2.1
  have hc := cst_ok (k := 0) hg h.2.2.2 hp
  have one : ∀ n i, i < gN g → f_X9_way_L81 F μ' 166 (nI p) x3 (nI v) (nI d) (nI x) k (n + 1) (nI i) = if nxt g (cst g m p 0) D v i then k (nI i) else f_X9_way_L81 F μ' 166 (nI p) x3 (nI v) (nI d) (nI x) k n (nI (i + 1)) := fun n i hi => by
    have ho := oth_lt (v := v) hg hi
    have jo : ix (nI (oth g i v)) 8 = true := nI_ix (by omega) (by decide)
    have ko : (nI (oth g i v)).toNatClampNeg = oth g i v := nI_clamp (by omega)
    have hb := (hc i hi).1
    have hD2 := hD (oth g i v)
    have d1 : nI d - nI x - 1 = nI (D v - 1) := by
      rw [nI_sub (by omega)]
      exact (nI_sub (b := 1) (by omega)).trans (congrArg nI (by omega))
    have hco : f_X9_costOf F μ' 166 (nI p) (nI i) 0 = some (nI (cst g m p 0 i)) := M_costOf (k := 0) h hp hi (by decide)
    rw [f_X9_way_L81, M_ends h hi (by omega), Option.bind_some, hco, Option.bind_some, M_other h hi (by omega), Option.bind_some, d1, nIs]
    simp only [jo, ko, if_true, show (166 + 14 = 180) from rfl, hd _ (show oth g i v < 8 by omega)]
    have n1 : (nI (cst g m p 0 i) = 1) ↔ cst g m p 0 i = 1 := nI_eq (b := 1) (by omega) (by decide)
    simp (disch := omega) only [nI_eq, n1]
    unfold nxt
    by_cases a1 : v = gF g i ∨ v = gS g i
    · simp only [a1, if_true, true_and, show ¬ (1 : Int32) = 0 by decide, if_false]
      by_cases a2 : cst g m p 0 i = 1
      · simp only [a2, if_true, true_and]
        have : (D (oth g i v) = D v - 1) ↔ D (oth g i v) + 1 = D v := by omega
        simp only [this]
      · simp only [a2, if_false, false_and]
    · simp only [a1, if_false, if_true, false_and]
  refine srch (f := fun n i => f_X9_way_L81 F μ' 166 (nI p) x3 (nI v) (nI d) (nI x) k n (nI i)) (l0 := l0) (fun n i hi => ?_) (fun n => ?_) l0 F 0 (by omega) (by omega)
  · exact (one n i (by omega)).trans (if_neg (hn i hi))
  · exact (one n l0 hl0).trans (if_pos hy)
theorem walk (hF : 5000 ≤ F) (h : VM μ' g m) {p s d t : Nat} (hp : p < gM g) {μ2 : Mem} (hct : CfgC μ2 t g) (hDC : DC μ g (cst g m p 0) (ds g (cst g m p 0) b) μ2) (hd : ∀ v, v < 8 → gI μ' 180 v = nI (ds g (cst g m p 0) b v)) (hb : b < gP g) (hc1 : One g (cst g m p 0)) (hs : s < d) (hdp : d ≤ gP g - 1) : ∀ (cc n1 n2 x v : Nat) (y1 y2 : Int32), x + cc = s + 1 → cc < n1 → cc < n2 → ds g (cst g m p 0) b v + x = d → v < gP g → (cc = 0 → y1 = y2) → ∃ w, f_X1_laneOfWay_L10 F μ2 67 t (nI s) (fun x4 x5 x6 => some x5) n1 (nI v) y1 (nI x) = some w ∧ f_X9_way_L72 F μ' 166 (nI p) (nI s) (nI d) (fun x4 x6 x7 => some (x6, μ')) n2 (nI v) y2 (nI x) = some (w, μ')
  | 0, n1, n2, x, v, y1, y2, e1, e2, e3, e4, hv, e5 => by
    have hP := h.2.2.1.2.1
    obtain ⟨k1, rfl⟩ : ∃ k, n1 = k + 1 := ⟨n1 - 1, by omega⟩
    obtain ⟨k2, rfl⟩ : ∃ k, n2 = k + 1 := ⟨n2 - 1, by omega⟩
    refine ⟨y1, ?_, ?_⟩
    · rw [f_X1_laneOfWay_L10, if_pos (nI_lt (by omega) (by omega))]
    · rw [f_X9_way_L72, if_pos (nI_lt (by omega) (by omega)), e5 rfl]
  | cc + 1, n1, n2, x, v, y1, y2, e1, e2, e3, e4, hv, e5 => by
    have hg := h.2.2.1
    have hP := hg.2.1
    have h8 := hg.2.2.1
    obtain ⟨k1, rfl⟩ : ∃ k, n1 = k + 1 := ⟨n1 - 1, by omega⟩
    obtain ⟨k2, rfl⟩ : ∃ k, n2 = k + 1 := ⟨n2 - 1, by omega⟩
    obtain ⟨l0, hl0, hy, hn⟩ := first_of (has_nxt hg hc1 hb (v := v) (by omega) (by omega))
    obtain ⟨i1, i2, i3⟩ := ix8 hg hl0
    obtain ⟨c1, c2, c3⟩ := hct.2.2.2.2.2 l0 hl0
    obtain ⟨g1, g2, g3, -⟩ := hg.2.2.2.2.2.2.2 l0 hl0
    have ho := oth_lt (v := v) hg hl0
    obtain ⟨w, w1, w2⟩ := walk hF h hp hct hDC hd hb hc1 hs hdp cc k1 k2 (x + 1) (oth g l0 v) (nI l0) (nI l0) (by omega) (by omega) (by omega) (by have := hy.2.2; omega) ho (fun _ => rfl)
    refine ⟨w, ?_, ?_⟩
    · rw [f_X1_laneOfWay_L10, if_neg (nI_nlt (by omega) (by omega)), hct.1, if_pos (nI_lt (by omega) (by omega)), C_firstLane hF hg hct hDC hc1 hv (by omega) (by omega) hl0 hy hn, Option.bind_some]
      have n9 : ¬ nI l0 = (-9 : Int32) := fun z => by
        have z2 := congrArg Int32.toInt z
        rw [nI_toInt (by omega)] at z2
        have : (-9 : Int32).toInt = -9 := by decide +kernel
        omega
      simp only [n9, i1, i3, c1, c2, if_true, if_false, lt_eq, nIs]
      simp (disch := omega) only [nI_eq]
      rw [← w1]
      unfold oth
      by_cases a1 : v = gF g l0
      · rw [if_pos a1, if_pos a1.symm]
      · rw [if_neg a1, if_neg (fun z => a1 z.symm)]
    · rw [f_X9_way_L72, if_neg (nI_nlt (by omega) (by omega)), M_firstLane hF h hp hd hv (by omega) (by omega) e4 (by omega) ds_top hl0 hy hn, M_other h hl0 (by omega), Option.bind_some, nIs, w2]
theorem cst0 {p : Nat} : (fun l => if alw g m p (mC m) l = true then 1 else 100000) = cst g m p 0 := funext fun l => by
  unfold alw cst
  by_cases h1 : (mC m).testBit l = true
  · simp [h1]
  · by_cases h2 : wd g m p ≤ gW g l
    · simp [h1, h2, Nat.not_lt.mpr h2]
    · simp [h1, h2, Nat.lt_of_not_le h2]
theorem cst1 {p : Nat} : (fun l => if (!(mC m).testBit l) = true then wd g m p - gW g l else 100000) = cst g m p 1 := funext fun l => by
  unfold cst
  by_cases h1 : (mC m).testBit l = true
  · simp [h1]
  · simp [h1]
theorem one0 (p : Nat) : One g (cst g m p 0) := fun l _ => by
  unfold cst
  split
  · omega
  · simp only [if_true]; split <;> omega
theorem C_open (h : VC μ g m) : f_X8_openLanes F μ 0 = some (nI (msk (fun l => !(mC m).testBit l) (gN g))) := by
  have eN : gI μ (gR μ 0 1) 1 = nI (gN g) := by obtain ⟨⟨t, ht, _, hc⟩, _⟩ := h; rw [ht]; exact hc.2.1
  have e : gI μ (0 + 16 + 1) 3 = nI (mC m) := h.2.1.1
  have h8 := h.2.2.1.2.2.1
  unfold f_X8_openLanes
  rw [eN, e, opn_q (gN g) (by omega) _ h.2.2.2.2]
/-- both answer alike and write none but scratch -/
def Two (μ μ' : Mem) (o o' : Option (Int32 × Mem)) : Prop := ∃ v μ1 μ2, o = some (v, μ1) ∧ o' = some (v, μ2) ∧ Sc μ μ1 ∧ Sc μ' μ2
theorem two_same {v : Int32} : Two μ μ' (some (v, μ)) (some (v, μ')) := ⟨v, μ, μ', rfl, rfl, Sc_rfl _, Sc_rfl _⟩
end R32
