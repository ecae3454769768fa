/-! ways in the class's hands and in the model's -/
def OkD (g : Cfg) (c : Nat → Nat) : Prop := ∀ l, l < gN g → c l ≤ 100000 ∧ (c l < 100000 → c l ≤ 27)
def Bd (K : Nat) (d : Ar) : Prop := ∀ v, d v ≤ 100000 ∧ (d v < 100000 → d v ≤ K)
def eD (x : Nat) : Nat := if x < 100000 then x else 1000000
theorem rlx_eq (g : Cfg) (c : Nat → Nat) (l : Nat) (d : Ar) : rlx g c l d = upn (upn d (gF g l) (min (d (gF g l)) (d (gS g l) + c l))) (gS g l) (min (d (gS g l)) (min (d (gF g l)) (d (gS g l) + c l) + c l)) := by
  unfold rlx
  rw [show upn d (gF g l) (min (d (gF g l)) (d (gS g l) + c l)) (gF g l) = min (d (gF g l)) (d (gS g l) + c l) from if_pos rfl]
theorem Bd_up {K : Nat} {d : Ar} (h : Bd K d) {a x : Nat} (h1 : x ≤ 100000) (h2 : x < 100000 → x ≤ K) : Bd K (upn d a x) := fun v => by
  unfold upn
  by_cases e : v = a
  · rw [if_pos e]; exact ⟨h1, h2⟩
  · rw [if_neg e]; exact h v
theorem Bd_mono {K K' : Nat} {d : Ar} (h : Bd K d) (hk : K ≤ K') : Bd K' d := fun v => ⟨(h v).1, fun z => Nat.le_trans ((h v).2 z) hk⟩
theorem Bd_rlx {g : Cfg} {c : Nat → Nat} (hc : OkD g c) {l : Nat} (hl : l < gN g) {K : Nat} {d : Ar} (h : Bd K d) : Bd (K + 54) (rlx g c l d) := by
  rw [rlx_eq]
  have h1 := h (gF g l)
  have h2 := h (gS g l)
  have h3 := hc l hl
  refine Bd_up (Bd_up (Bd_mono h (by omega)) ?_ ?_) ?_ ?_ <;> omega
theorem Bd_fr {g : Cfg} {c : Nat → Nat} (hc : OkD g c) {K : Nat} {d : Ar} (h : Bd K d) {l : Nat} (hl : l ≤ gN g) : Bd (K + 54 * l) (fr (rlx g c) l 0 d) := by
  have := fr_inv (step := rlx g c) (N := gN g) (fun i d => Bd (K + 54 * i) d) (fun i s hi hs => by
    have := Bd_rlx hc hi hs
    rw [show K + 54 * (i + 1) = K + 54 * i + 54 by omega]; exact this) l 0 d (by omega) (by rw [Nat.mul_zero]; exact h)
  rw [Nat.zero_add] at this; exact this
theorem Bd_it {g : Cfg} {c : Nat → Nat} (hg : OkG g) (hc : OkD g c) (b : Nat) : ∀ r, Bd (432 * r) (it (swd g c) r (D0 b))
  | 0 => fun v => by
    show D0 b v ≤ 100000 ∧ (D0 b v < 100000 → D0 b v ≤ 432 * 0)
    unfold D0; split <;> omega
  | r + 1 => by
    rw [it_succ]
    have h := Bd_fr hc (Bd_it hg hc b r) (Nat.le_refl (gN g))
    have h8 := hg.2.2.1
    exact Bd_mono h (by omega)
theorem eD_min {a b c : Nat} (ha : a ≤ 100000) (hb : b < 100000 → b ≤ 9000) (hc : c < 100000 → c ≤ 27) : min (eD a) (eD b + eD c) = eD (min a (b + c)) := by
  unfold eD
  split <;> split <;> split <;> split <;> omega
theorem eD_le (x : Nat) : eD x ≤ 1000000 := by unfold eD; split <;> omega
/-- two entries written -/
theorem up2 {μ : Mem} {q P : Nat} {D : Ar} {e : Nat → Nat} (h : ∀ v, v < P → gI μ q v = nI (e (D v))) {a b x y : Nat} : ∀ v, v < P → gI (sI (sI μ q a (nI (e x))) q b (nI (e y))) q v = nI (e (upn (upn D a x) b y v)) := fun v hv => by
  rw [gI_sI, gI_sI]
  unfold upn
  by_cases h1 : v = b
  · rw [if_pos ⟨rfl, h1⟩, if_pos h1]
  · rw [if_neg (fun z => h1 z.2), if_neg h1]
    by_cases h2 : v = a
    · rw [if_pos ⟨rfl, h2⟩, if_pos h2]
    · rw [if_neg (fun z => h2 z.2), if_neg h2]
      exact h v hv
section R30
variable {F : Nat} {μ : Mem} {g : Cfg} {m : Mo} {c : Nat → Nat} {b : Nat}
/-- where the class stands -/
def DC (μ : Mem) (g : Cfg) (c : Nat → Nat) (D : Ar) (μ' : Mem) : Prop := Sc μ μ' ∧ (∀ l, l < gN g → gI μ' 68 l = nI (eD (c l))) ∧ ∀ v, v < gP g → gI μ' 69 v = nI (eD (D v))
theorem VC_t (h : VC μ g m) : ∃ t, gR μ 0 1 = t ∧ (t = 4 ∨ t = 10) ∧ CfgC μ t g := h.1
theorem C_sweep (hF : 5000 ≤ F) (h : VC μ g m) (hc : OkD g c) {r : Nat} (hr : r ≤ 8) (x3 : Int32) (k : Int32 → Mem → Option Mem) {μ' : Mem} (hd : DC μ g c (it (swd g c) r (D0 b)) μ') : ∃ μ2, DC μ g c (it (swd g c) (r + 1) (D0 b)) μ2 ∧ f_X1_measure_L46 F 67 (gR μ 0 1) x3 k F 0 μ' = k (nI (gN g)) μ2 := by
  obtain ⟨⟨t, ht, ht2, -⟩, -, hg, -⟩ := id h
  have h8 := hg.2.2.1
  rw [it_succ, ht]
  exact for_rel (S := Mem) (f := fun n s i => f_X1_measure_L46 F 67 t x3 k n (nI i) s) (N := gN g) (k := fun s => k (nI (gN g)) s) (fun l s => DC μ g c (fr (rlx g c) l 0 (it (swd g c) r (D0 b))) s)
    (fun n l s hl hs => by
      obtain ⟨hs0, hs1, hs2⟩ := hs
      have hC := CfgC_sc hs0 ht2 (by obtain ⟨⟨t', ht', _, hc'⟩, _⟩ := h; rw [ht'] at ht; subst ht; exact hc')
      obtain ⟨i1, i2, i3⟩ := ix8 hg hl
      obtain ⟨c1, c2, c3⟩ := hC.2.2.2.2.2 l hl
      obtain ⟨g1, g2, g3, -⟩ := hg.2.2.2.2.2.2.2 l hl
      have hP := hg.2.1
      have j1 : ix (nI (gF g l)) 8 = true := nI_ix (by omega) (by decide)
      have j2 : ix (nI (gS g l)) 8 = true := nI_ix (by omega) (by decide)
      have k1 : (nI (gF g l)).toNatClampNeg = gF g l := nI_clamp (by omega)
      have k2 : (nI (gS g l)).toNatClampNeg = gS g l := nI_clamp (by omega)
      have hB := Bd_fr hc (Bd_it hg hc b r) (l := l) (by omega)
      rw [fr_succ, Nat.zero_add]
      generalize fr (rlx g c) l 0 (it (swd g c) r (D0 b)) = D at hB hs2 ⊢
      have b1 := hB (gF g l)
      have b2 := hB (gS g l)
      have b3 := hc l hl
      have q0 := eD_le (D (gF g l))
      have q1 := eD_le (D (gS g l))
      have q2 := eD_le (c l)
      have q3 := eD_le (min (D (gF g l)) (D (gS g l) + c l))
      have x1 : imin (nI (eD (D (gF g l)))) (nI (eD (D (gS g l))) + nI (eD (c l))) = nI (eD (min (D (gF g l)) (D (gS g l) + c l))) := by
        rw [nI_add, imin_nI (by omega) (by omega), eD_min (by omega) (by omega) (by omega)]
      have x2 : imin (nI (eD (D (gS g l)))) (nI (eD (min (D (gF g l)) (D (gS g l) + c l))) + nI (eD (c l))) = nI (eD (min (D (gS g l)) (min (D (gF g l)) (D (gS g l) + c l) + c l))) := by
        rw [nI_add, imin_nI (by omega) (by omega), eD_min (by omega) (by omega) (by omega)]
      refine ⟨sI (sI s 69 (gF g l) (nI (eD (min (D (gF g l)) (D (gS g l) + c l))))) 69 (gS g l) (nI (eD (min (D (gS g l)) (min (D (gF g l)) (D (gS g l) + c l) + c l)))), ⟨Sc_sI (Sc_sI hs0 (scr_q (by omega)) _) (scr_q (by omega)) _, fun l2 hl2 => ?_, ?_⟩, ?_⟩
      · rw [gI_sI, gI_sI, if_neg (by omega), if_neg (by omega)]
        exact hs1 l2 hl2
      · rw [rlx_eq]
        exact up2 hs2
      · show f_X1_measure_L46 F 67 t x3 k (n + 1) (nI l) s = _
        rw [f_X1_measure_L46, hC.2.1, if_pos (nI_lt hl (by omega))]
        simp only [i1, i3, c1, c2, j1, j2, k1, k2, if_true, lt_eq, hs2 _ g1, hs2 _ g2, hs1 _ hl, x1, gI_sI, true_and, and_true, if_pos, show ¬ (68 : Nat) = 69 by decide, show (67 + 1 = 68) from rfl, show (67 + 2 = 69) from rfl, false_and, if_false, Ne.symm g3, x2, nI_1])
    (fun n s hs => by
      obtain ⟨hs0, hs1, hs2⟩ := hs
      have hC := CfgC_sc hs0 ht2 (by obtain ⟨⟨t', ht', _, hc'⟩, _⟩ := h; rw [ht'] at ht; subst ht; exact hc')
      show f_X1_measure_L46 F 67 t x3 k (n + 1) (nI (gN g)) s = _
      rw [f_X1_measure_L46, hC.2.1, if_neg (nI_nlt (Nat.le_refl _) (by omega))])
    (gN g) F 0 μ' (by omega) (by omega) hd
theorem nIs (n : Nat) : nI n + 1 = nI (n + 1) := nI_add n 1
theorem C_measure (hF : 5000 ≤ F) (h : VC μ g m) (hc : OkD g c) (hb : b < gP g) {μ' : Mem} (hs : Sc μ μ') (h68 : ∀ l, l < gN g → gI μ' 68 l = nI (eD (c l))) : ∃ μ2, DC μ g c (ds g c b) μ2 ∧ f_X1_measure F μ' 67 (gR μ 0 1) (nI b) = some μ2 := by
  obtain ⟨⟨t, ht, ht2, hct⟩, -, hg, -⟩ := id h
  have hP := hg.2.1
  have hP2 := hg.1
  unfold f_X1_measure
  obtain ⟨μ1, h1, e1⟩ := for_rel (S := Mem) (f := fun n s i => f_X1_measure_L2 F 67 (gR μ 0 1) (nI b) (fun x3_3 μ_4 => f_X1_measure_L35 F 67 (gR μ 0 1) (fun x3_9 μ_10 => some μ_10) F 1 μ_4) n (nI i) s) (N := gP g) (k := fun s => f_X1_measure_L35 F 67 (gR μ 0 1) (fun x3_9 μ_10 => some μ_10) F 1 s) (fun i s => Sc μ s ∧ (∀ l, l < gN g → gI s 68 l = nI (eD (c l))) ∧ ∀ v, v < i → gI s 69 v = nI (eD (D0 b v)))
    (fun n i s hi hs => by
      have hC := CfgC_sc hs.1 ht2 hct
      have j1 : ix (nI i) 8 = true := nI_ix (by omega) (by decide)
      have k1 : (nI i).toNatClampNeg = i := nI_clamp (by omega)
      refine ⟨sI s 69 i (nI (eD (D0 b i))), ⟨Sc_sI hs.1 (scr_q (by omega)) _, fun l hl => by rw [gI_sI, if_neg (by omega)]; exact hs.2.1 l hl, fun v hv => ?_⟩, ?_⟩
      · rw [gI_sI]
        by_cases e : v = i
        · rw [if_pos ⟨rfl, e⟩, e]
        · rw [if_neg (fun z => e z.2)]; exact hs.2.2 v (by omega)
      · show f_X1_measure_L2 F 67 (gR μ 0 1) (nI b) _ (n + 1) (nI i) s = _
        rw [f_X1_measure_L2, ht, hC.1, if_pos (nI_lt hi (by omega))]
        simp only [j1, k1, if_true, lt_eq, nI_1]
        simp (disch := omega) only [nI_eq]
        by_cases e : i = b
        · rw [if_pos e]; unfold D0; rw [if_pos e]; rfl
        · rw [if_neg e]; unfold D0; rw [if_neg e]; rfl)
    (fun n s hs => by
      have hC := CfgC_sc hs.1 ht2 hct
      show f_X1_measure_L2 F 67 (gR μ 0 1) (nI b) _ (n + 1) (nI (gP g)) s = _
      rw [f_X1_measure_L2, ht, hC.1, if_neg (nI_nlt (Nat.le_refl _) (by omega))])
    (gP g) F 0 μ' (by omega) (by omega) ⟨hs, h68, fun v hv => by omega⟩
  have e1 : f_X1_measure_L2 F 67 (gR μ 0 1) (nI b) (fun x3_3 μ_4 => f_X1_measure_L35 F 67 (gR μ 0 1) (fun x3_9 μ_10 => some μ_10) F 1 μ_4) F 0 μ' = f_X1_measure_L35 F 67 (gR μ 0 1) (fun x3_9 μ_10 => some μ_10) F 1 μ1 := e1
  rw [e1]
  obtain ⟨μ2, h2, e2⟩ := for_rel (S := Mem) (f := fun n s i => f_X1_measure_L35 F 67 (gR μ 0 1) (fun x3_9 μ_10 => some μ_10) n (nI i) s) (N := gP g) (k := fun s => some s) (fun i s => 1 ≤ i ∧ DC μ g c (it (swd g c) (i - 1) (D0 b)) s)
    (fun n i s hi hs => by
      have hC := CfgC_sc hs.2.1 ht2 hct
      obtain ⟨s2, h3, e3⟩ := C_sweep (b := b) hF h hc (r := i - 1) (by omega) (nI i) (fun x4_7 μ_8 => f_X1_measure_L35 F 67 (gR μ 0 1) (fun x3_9 μ_10 => some μ_10) n (nI (i + 1)) μ_8) hs.2
      refine ⟨s2, ⟨by omega, by rw [show i + 1 - 1 = i - 1 + 1 by omega]; exact h3⟩, ?_⟩
      show f_X1_measure_L35 F 67 (gR μ 0 1) _ (n + 1) (nI i) s = _
      rw [f_X1_measure_L35]
      rw [← e3, ht, hC.1, if_pos (nI_lt hi (by omega)), nI_1])
    (fun n s hs => by
      have hC := CfgC_sc hs.2.1 ht2 hct
      show f_X1_measure_L35 F 67 (gR μ 0 1) _ (n + 1) (nI (gP g)) s = _
      rw [f_X1_measure_L35, ht, hC.1, if_neg (nI_nlt (Nat.le_refl _) (by omega))])
    (gP g - 1) F 1 μ1 (by omega) (by omega) ⟨by omega, h1.1, h1.2.1, h1.2.2⟩
  refine ⟨μ2, ?_, e2⟩
  obtain ⟨-, a1, a2, a3⟩ := h2
  exact ⟨a1, a2, fun v hv => by rw [a3 v hv, itd_ds hg hb (by omega)]⟩
theorem C_countLanes (hF : 5000 ≤ F) (h : VC μ g m) (hb : b < gP g) (f : Nat → Bool) : ∃ μ2, DC μ g (fun l => if f l = true then 1 else 100000) (ds g (fun l => if f l = true then 1 else 100000) b) μ2 ∧ f_X1_countLanes F μ 67 (gR μ 0 1) (nI b) (nI (msk f (gN g))) = some μ2 := by
  obtain ⟨⟨t, ht, ht2, hct⟩, -, hg, -⟩ := id h
  have h8 := hg.2.2.1
  unfold f_X1_countLanes
  obtain ⟨μ1, h1, e1⟩ := for_rel (S := Mem) (f := fun n s i => f_X1_countLanes_L3 F 67 (gR μ 0 1) (nI b) (nI (msk f (gN g))) (fun x4_3 μ_4 => (f_X1_measure F μ_4 67 (gR μ 0 1) (nI b)).bind (fun μ_6 => some μ_6)) n (nI i) s) (N := gN g) (k := fun s => (f_X1_measure F s 67 (gR μ 0 1) (nI b)).bind (fun μ_6 => some μ_6)) (fun i s => Sc μ s ∧ (∀ l, l < i → gI s 68 l = nI (eD (if f l = true then 1 else 100000))))
    (fun n i s hi hs => by
      have hC := CfgC_sc hs.1 ht2 hct
      obtain ⟨i1, i2, i3⟩ := ix8 hg hi
      refine ⟨sI s 68 i (nI (eD (if f i = true then 1 else 100000))), ⟨Sc_sI hs.1 (scr_q (by omega)) _, fun v hv => ?_⟩, ?_⟩
      · rw [gI_sI]
        by_cases e : v = i
        · rw [if_pos ⟨rfl, e⟩, e]
        · rw [if_neg (fun z => e z.2)]; exact hs.2 v (by omega)
      · show f_X1_countLanes_L3 F 67 (gR μ 0 1) (nI b) (nI (msk f (gN g))) _ (n + 1) (nI i) s = _
        rw [f_X1_countLanes_L3, ht, hC.2.1, if_pos (nI_lt hi (by omega)), bit_q _ (msk8 hg f) i (by omega), msk_bit]
        simp only [i1, i3, if_true, lt_eq, nI_1, hi, decide_true, Bool.true_and]
        by_cases e : f i = true
        · simp only [e, if_true, show ¬ (1 : Int32) = 0 by decide, if_false]; rfl
        · simp only [e, if_true, if_false, Bool.false_eq_true]; rfl)
    (fun n s hs => by
      have hC := CfgC_sc hs.1 ht2 hct
      show f_X1_countLanes_L3 F 67 (gR μ 0 1) (nI b) (nI (msk f (gN g))) _ (n + 1) (nI (gN g)) s = _
      rw [f_X1_countLanes_L3, ht, hC.2.1, if_neg (nI_nlt (Nat.le_refl _) (by omega))])
    (gN g) F 0 μ (by omega) (by omega) ⟨Sc_rfl μ, fun v hv => by omega⟩
  obtain ⟨μ2, h2, e2⟩ := C_measure (c := fun l => if f l = true then 1 else 100000) (b := b) hF h (fun l _ => by show (if f l = true then 1 else 100000) ≤ 100000 ∧ ((if f l = true then 1 else 100000) < 100000 → (if f l = true then 1 else 100000) ≤ 27); split <;> omega) hb h1.1 h1.2
  refine ⟨μ2, h2, e1.trans ?_⟩
  show (f_X1_measure F μ1 67 (gR μ 0 1) (nI b)).bind (fun μ_6 => some μ_6) = some μ2
  rw [e2]; rfl
theorem C_addLacks (hF : 5000 ≤ F) (h : VC μ g m) (hb : b < gP g) {w : Nat} (hw : w ≤ 27) (f : Nat → Bool) : ∃ μ2, DC μ g (fun l => if f l = true then w - gW g l else 100000) (ds g (fun l => if f l = true then w - gW g l else 100000) b) μ2 ∧ f_X1_addLacks F μ 67 (gR μ 0 1) (nI b) (nI (msk f (gN g))) (nI w) = some μ2 := by
  obtain ⟨⟨t, ht, ht2, hct⟩, -, hg, -⟩ := id h
  have h8 := hg.2.2.1
  unfold f_X1_addLacks
  obtain ⟨μ1, h1, e1⟩ := for_rel (S := Mem) (f := fun n s i => f_X1_addLacks_L3 F 67 (gR μ 0 1) (nI b) (nI (msk f (gN g))) (nI w) (fun x4_3 μ_4 => (f_X1_measure F μ_4 67 (gR μ 0 1) (nI b)).bind (fun μ_6 => some μ_6)) n (nI i) s) (N := gN g) (k := fun s => (f_X1_measure F s 67 (gR μ 0 1) (nI b)).bind (fun μ_6 => some μ_6)) (fun i s => Sc μ s ∧ (∀ l, l < i → gI s 68 l = nI (eD (if f l = true then w - gW g l else 100000))))
    (fun n i s hi hs => by
      have hC := CfgC_sc hs.1 ht2 hct
      obtain ⟨i1, i2, i3⟩ := ix8 hg hi
      have hw2 := (hg.2.2.2.2.2.2.2 i hi).2.2.2
      refine ⟨sI s 68 i (nI (eD (if f i = true then w - gW g i else 100000))), ⟨Sc_sI hs.1 (scr_q (by omega)) _, fun v hv => ?_⟩, ?_⟩
      · rw [gI_sI]
        by_cases e : v = i
        · rw [if_pos ⟨rfl, e⟩, e]
        · rw [if_neg (fun z => e z.2)]; exact hs.2 v (by omega)
      · show f_X1_addLacks_L3 F 67 (gR μ 0 1) (nI b) (nI (msk f (gN g))) (nI w) _ (n + 1) (nI i) s = _
        rw [f_X1_addLacks_L3, ht, hC.2.1, if_pos (nI_lt hi (by omega)), bit_q _ (msk8 hg f) i (by omega), msk_bit]
        simp only [i1, i3, if_true, lt_eq, nI_1, hi, decide_true, Bool.true_and, (hC.2.2.2.2.2 i hi).2.2]
        rw [imax_sub (by omega) (by omega)]
        by_cases e : f i = true
        · simp only [e, if_true, show ¬ (1 : Int32) = 0 by decide, if_false]
          rw [show eD (w - gW g i) = w - gW g i from if_pos (by omega)]
        · simp only [e, if_true, if_false, Bool.false_eq_true]; rfl)
    (fun n s hs => by
      have hC := CfgC_sc hs.1 ht2 hct
      show f_X1_addLacks_L3 F 67 (gR μ 0 1) (nI b) (nI (msk f (gN g))) (nI w) _ (n + 1) (nI (gN g)) s = _
      rw [f_X1_addLacks_L3, ht, hC.2.1, if_neg (nI_nlt (Nat.le_refl _) (by omega))])
    (gN g) F 0 μ (by omega) (by omega) ⟨Sc_rfl μ, fun v hv => by omega⟩
  obtain ⟨μ2, h2, e2⟩ := C_measure (c := fun l => if f l = true then w - gW g l else 100000) (b := b) hF h (fun l _ => by show (if f l = true then w - gW g l else 100000) ≤ 100000 ∧ ((if f l = true then w - gW g l else 100000) < 100000 → (if f l = true then w - gW g l else 100000) ≤ 27); split <;> omega) hb h1.1 h1.2
  refine ⟨μ2, h2, e1.trans ?_⟩
  show (f_X1_measure F μ1 67 (gR μ 0 1) (nI b)).bind (fun μ_6 => some μ_6) = some μ2
  rw [e2]; rfl
theorem C_from {D : Ar} {μ2 : Mem} (hg : OkG g) (h : DC μ g c D μ2) (hD : D b ≤ 100000) (hb : b < gP g) : f_X1_from F μ2 67 (nI b) = some (if D b < 100000 then nI (D b) else -9) := by
  have hP := hg.2.1
  have j1 : ix (nI b) 8 = true := nI_ix (by omega) (by decide)
  have k1 : (nI b).toNatClampNeg = b := nI_clamp (by omega)
  unfold f_X1_from
  simp only [j1, k1, if_true, show (67 + 2 = 69) from rfl, h.2.2 b hb]
  unfold eD
  by_cases e : D b < 100000
  · rw [if_pos e, if_pos e, if_pos (show nI (D b) < (1000000 : Int32) from (nI_lt (show D b < 1000000 by omega) (by decide) : nI (D b) < nI 1000000))]
  · rw [if_neg e, if_neg e, if_neg (show ¬ nI 1000000 < (1000000 : Int32) from nI_nlt (Nat.le_refl _) (by decide))]
end R30
