/-! what was measured; now -/
abbrev Ga : Type := List (Nat × Nat)
def OkGa (g : Cfg) (a : Ga) : Prop := a.length ≤ 6 ∧ ∀ x ∈ a, x.1 < 5 ∧ x.2 ≤ 40
def GaC (μ : Mem) (a : Ga) : Prop := gI μ 64 2 = nI a.length ∧ ∀ (i : Nat) (h : i < a.length), gI μ 65 i = nI (a[i]).1 ∧ gI μ 66 i = nI (a[i]).2
def GaM (μ : Mem) (a : Ga) : Prop := gI μ 166 26 = nI a.length ∧ ∀ (i : Nat) (h : i < a.length), gI μ 183 i = nI (a[i]).1 ∧ gI μ 184 i = nI (a[i]).2
/-- one measure fits an elbow -/
def fit1 (w er p : Nat) (x : Nat × Nat) : Bool := !decide (x.1 = p) || (decide (x.2 ≤ w + er) && decide (w ≤ x.2 + er))
theorem sub_int {a b : Nat} (ha : a < 1000) (hb : b < 1000) : (nI a - nI b).toInt = (a : Int) - b := by
  rw [Int32.toInt_sub, nI_toInt (by omega), nI_toInt (by omega)]
  rw [Int.bmod_eq_of_le] <;> omega
theorem neg_int {a : Nat} (ha : a < 1000) : (-(nI a)).toInt = -(a : Int) := by
  rw [Int32.toInt_neg, nI_toInt (by omega)]
  rw [Int.bmod_eq_of_le] <;> omega
theorem iabs_ok {a b e : Nat} (ha : a < 1000) (hb : b < 1000) (he : e < 1000) : (nI e < iabs (nI a - nI b)) ↔ ¬ (a ≤ b + e ∧ b ≤ a + e) := by
  have h1 := sub_int ha hb
  have h2 : (0 - (nI a - nI b)).toInt = -((a : Int) - b) := by
    rw [Int32.toInt_sub, h1, Int32.toInt_zero]
    rw [Int.bmod_eq_of_le] <;> omega
  have he' := nI_toInt (n := e) (by omega)
  unfold iabs
  by_cases c : (0 : Int32) ≤ nI a - nI b
  · rw [if_pos c, Int32.lt_iff_toInt_lt, h1, he']
    rw [Int32.le_iff_toInt_le, h1, Int32.toInt_zero] at c
    omega
  · rw [if_neg c, Int32.lt_iff_toInt_lt, h2, he']
    rw [Int32.le_iff_toInt_le, h1, Int32.toInt_zero] at c
    omega
theorem in_err (F : Nat) (μ : Mem) {a w e : Nat} (ha : a < 1000) (hw : w < 1000) (he : e < 1000) : f_X9_in F μ (nI w - nI a) (-(nI e)) (nI e) = some (if a ≤ w + e ∧ w ≤ a + e then 1 else 0) := by
  have h1 := sub_int hw ha
  have h2 := neg_int he
  have h3 := nI_toInt (n := e) (by omega)
  unfold f_X9_in
  by_cases c1 : nI w - nI a < -(nI e)
  · rw [if_pos c1]
    rw [Int32.lt_iff_toInt_lt, h1, h2] at c1
    rw [if_neg (by omega)]
  · rw [if_neg c1]
    rw [Int32.lt_iff_toInt_lt, h1, h2] at c1
    by_cases c2 : nI e < nI w - nI a
    · rw [if_pos c2]
      rw [Int32.lt_iff_toInt_lt, h1, h3] at c2
      rw [if_neg (by omega)]
    · rw [if_neg c2]
      rw [Int32.lt_iff_toInt_lt, h1, h3] at c2
      rw [if_pos (by omega)]
theorem one_shl16 : ∀ l, l < 16 → (1 : Int32) <<< (nI l &&& 31) = nI (2 ^ l) := by decide +kernel
section R27
variable {F : Nat} {μ : Mem} {g : Cfg} {m : Mo} {a : Ga}
def fitB (g : Cfg) (a : Ga) (p e : Nat) : Bool := a.all (fit1 (gB g + 2 * e) (gE g) p)
theorem C_allow (hg : OkG g) (hga : GaC μ a) (ha : OkGa g a) {p e : Nat} (hp : p < 5) (he : e ≤ 9) : ∀ (c n i : Nat), i + c = a.length → c < n → f_X2_allow_L3 F μ 64 (nI p) (nI (gB g + 2 * e)) (nI (gE g)) (fun _ => some 1) n (nI i) = some (if (a.drop i).all (fit1 (gB g + 2 * e) (gE g) p) = true then 1 else 0)
  | 0, n, i, hi, hn => by
    obtain ⟨j, rfl⟩ : ∃ j, n = j + 1 := ⟨n - 1, by omega⟩
    have h6 := ha.1
    rw [f_X2_allow_L3, hga.1, if_neg (nI_nlt (by omega) (by omega)), List.drop_eq_nil_of_le (by omega)]; rfl
  | c + 1, n, i, hi, hn => by
    obtain ⟨j, rfl⟩ : ∃ j, n = j + 1 := ⟨n - 1, by omega⟩
    have h6 := ha.1
    have hil : i < a.length := by omega
    obtain ⟨e1, e2⟩ := hga.2 i hil
    have hx := ha.2 _ (List.getElem_mem hil)
    have h9 := hg.2.2.2.2.2.1
    have h3 := hg.2.2.2.2.2.2.1
    rw [f_X2_allow_L3, hga.1, if_pos (nI_lt hil (by omega)), nI_ix (by omega) (by decide), nI_clamp (by omega), e1, e2, nI_1, List.drop_eq_getElem_cons hil, List.all_cons]
    simp only [if_true]
    have ih := C_allow hg hga ha hp he c j (i + 1) (by omega) (by omega)
    by_cases c1 : (a[i]).1 = p
    · rw [if_pos (by rw [c1])]
      by_cases c2 : (a[i]).2 ≤ gB g + 2 * e + gE g ∧ gB g + 2 * e ≤ (a[i]).2 + gE g
      · rw [if_neg (fun z => (iabs_ok (by omega) (by omega) (by omega)).mp z c2), ih]
        have : fit1 (gB g + 2 * e) (gE g) p a[i] = true := by simp [fit1, c2]
        rw [this, Bool.true_and]
      · rw [if_pos ((iabs_ok (by omega) (by omega) (by omega)).mpr c2)]
        have : fit1 (gB g + 2 * e) (gE g) p a[i] = false := by
          simp only [fit1, c1, decide_true, Bool.not_true, Bool.false_or]
          simpa using c2
        rw [this]; rfl
    · rw [if_neg (fun z => c1 (nI_inj (by omega) (by omega) z)), ih]
      have : fit1 (gB g + 2 * e) (gE g) p a[i] = true := by simp [fit1, c1]
      rw [this, Bool.true_and]
theorem M_allow (hg : OkG g) (hga : GaM μ a) (ha : OkGa g a) (hB : gI μ 176 0 = nI (gB g)) (hE : gI μ 177 0 = nI (gE g)) {p e : Nat} (hp : p < 5) (he : e ≤ 9) (x2 : Int32) (k : Int32 → Int32 → Option Int32) : ∀ (c n i : Nat) (b : Bool), i + c = a.length → c < n → f_X9_fitsOf_L16 F μ 166 (nI p) x2 (nI e) k n (if b = true then 1 else 0) (nI i) = k (if (b && (a.drop i).all (fit1 (gB g + 2 * e) (gE g) p)) = true then 1 else 0) (nI a.length)
  | 0, n, i, b, hi, hn => by
    obtain ⟨j, rfl⟩ : ∃ j, n = j + 1 := ⟨n - 1, by omega⟩
    have h6 := ha.1
    have hii : i = a.length := by omega
    subst hii
    rw [f_X9_fitsOf_L16, hga.1, if_neg (nI_nlt (Nat.le_refl _) (by omega)), List.drop_eq_nil_of_le (Nat.le_refl _)]
    simp
  | c + 1, n, i, b, hi, hn => by
    obtain ⟨j, rfl⟩ : ∃ j, n = j + 1 := ⟨n - 1, by omega⟩
    have h6 := ha.1
    have hil : i < a.length := by omega
    obtain ⟨e1, e2⟩ := hga.2 i hil
    have e1 : gI μ (166 + 17) i = _ := e1
    have e2 : gI μ (166 + 18) i = _ := e2
    have hB : gI μ (166 + 10) 0 = _ := hB
    have hE : gI μ (166 + 11) 0 = _ := hE
    have hx := ha.2 _ (List.getElem_mem hil)
    have h9 := hg.2.2.2.2.2.1
    have h3 := hg.2.2.2.2.2.2.1
    rw [f_X9_fitsOf_L16, hga.1, if_pos (nI_lt hil (by omega)), nI_ix (by omega) (by decide), nI_clamp (by omega), e1, e2, hB, hE, lt_eq, show (2 : Int32) * nI e = nI (2 * e) from nI_mul 2 e, nI_add, nI_1, in_err F μ (by omega) (by omega) (by omega), List.drop_eq_getElem_cons hil, List.all_cons]
    simp only [if_true, Option.bind_some]
    have ih := fun b => M_allow hg hga ha hB hE hp he x2 k c j (i + 1) b (by omega) (by omega)
    have ih0 := ih false
    have ih1 := ih true
    simp only [if_true, if_false, Bool.false_eq_true] at ih0 ih1
    cases b with
    | false =>
      simp only [Bool.false_eq_true, if_false, if_true]
      rw [ih0]
      simp
    | true =>
      simp only [if_true, show ¬ (1 : Int32) = 0 by decide, if_false, Bool.true_and]
      by_cases c1 : (a[i]).1 = p
      · rw [if_pos (by rw [c1])]
        by_cases c2 : (a[i]).2 ≤ gB g + 2 * e + gE g ∧ gB g + 2 * e ≤ (a[i]).2 + gE g
        · have : fit1 (gB g + 2 * e) (gE g) p a[i] = true := by simp [fit1, c2]
          rw [if_pos c2, if_neg (show ¬ (1 : Int32) = 0 by decide), ih1, this]
        · have : fit1 (gB g + 2 * e) (gE g) p a[i] = false := by
            simp only [fit1, c1, decide_true, Bool.not_true, Bool.false_or]
            simpa using c2
          rw [if_neg c2, if_pos rfl, ih0, this]
      · have : fit1 (gB g + 2 * e) (gE g) p a[i] = true := by simp [fit1, c1]
        rw [if_neg (fun z => c1 (nI_inj (by omega) (by omega) z)), ih1, this]
def fst (g : Cfg) (a : Ga) (p e s : Nat) : Nat := if fitB g a p e = true then s ||| 2 ^ e else s
def ftm (g : Cfg) (a : Ga) (p : Nat) : Nat := fr (fst g a p) 10 0 0
theorem C_fitting (hF : 5000 ≤ F) (h : VC μ g m) (hga : GaC μ a) (ha : OkGa g a) {p : Nat} (hp : p < gM g) : f_X8_fitting F μ 0 (nI p) = some (nI (ftm g a p)) := by
  have hg := h.2.2.1
  have h5 := hg.2.2.2.1
  have h6 := ha.1
  have eB : gI μ (gR μ 0 1) 8 = nI (gB g) := by obtain ⟨⟨t, ht, _, hc⟩, _⟩ := h; rw [ht]; exact hc.2.2.2.1
  have eE : gI μ (gR μ 0 1) 9 = nI (gE g) := by obtain ⟨⟨t, ht, _, hc⟩, _⟩ := h; rw [ht]; exact hc.2.2.2.2.1
  exact for_run (S := Nat) (f := fun n s i => f_X8_fitting_L4 F μ 0 (nI p) (fun x _ => some x) n (nI s) (nI i)) (N := 10) (step := fst g a p) (k := fun s => some (nI s)) (fun _ _ => True)
    (fun n s i hi _ => by
      show f_X8_fitting_L4 F μ 0 (nI p) (fun x _ => some x) (n + 1) (nI s) (nI i) = f_X8_fitting_L4 F μ 0 (nI p) (fun x _ => some x) n (nI (fst g a p i s)) (nI (i + 1))
      have e0 : f_X2_allow F μ (0 + 64) (nI p) (nI (gB g + 2 * i)) (nI (gE g)) = some (if fitB g a p i = true then 1 else 0) := C_allow (F := F) hg hga ha (show p < 5 by omega) (show i ≤ 9 by omega) a.length F 0 (by omega) (by omega)
      rw [f_X8_fitting_L4, if_neg (show ¬ (9 : Int32) < nI i from nI_nlt (a := 9) (by omega) (by decide)), eB, eE, show (2 : Int32) * nI i = nI (2 * i) from nI_mul 2 i, nI_add, e0, Option.bind_some, one_shl16 i (by omega), fa_or, nI_1]
      unfold fst
      by_cases c : fitB g a p i = true
      · simp only [c, if_true, show ¬ (1 : Int32) = 0 by decide, if_false]
      · simp only [c, if_true, if_false, Bool.false_eq_true])
    (fun _ _ _ _ => trivial)
    (fun n s _ => by
      show f_X8_fitting_L4 F μ 0 (nI p) (fun x _ => some x) (n + 1) (nI s) (nI 10) = _
      rw [f_X8_fitting_L4, if_pos (show (9 : Int32) < nI 10 from nI_lt (a := 9) (b := 10) (by decide) (by decide))])
    10 F 0 0 (by omega) (by omega) trivial
theorem M_fitsOf (hF : 5000 ≤ F) (h : VM μ g m) (hga : GaM μ a) (ha : OkGa g a) {p : Nat} (hp : p < gM g) : f_X9_fitsOf F μ 166 (nI p) = some (nI (ftm g a p)) := by
  have hg := h.2.2.1
  have h5 := hg.2.2.2.1
  have h6 := ha.1
  exact for_run (S := Nat) (f := fun n s i => f_X9_fitsOf_L4 F μ 166 (nI p) (fun x _ => some x) n (nI s) (nI i)) (N := 10) (step := fst g a p) (k := fun s => some (nI s)) (fun _ _ => True)
    (fun n s i hi _ => by
      show f_X9_fitsOf_L4 F μ 166 (nI p) (fun x _ => some x) (n + 1) (nI s) (nI i) = f_X9_fitsOf_L4 F μ 166 (nI p) (fun x _ => some x) n (nI (fst g a p i s)) (nI (i + 1))
      rw [f_X9_fitsOf_L4, if_neg (show ¬ (9 : Int32) < nI i from nI_nlt (a := 9) (by omega) (by decide))]
      have e0 := M_allow (F := F) hg hga ha h.1.2.2.2.1 h.1.2.2.2.2.1 (show p < 5 by omega) (show i ≤ 9 by omega) (nI s) (fun x4_5 x5_6 => (if x4_5 = 0 then f_X9_fitsOf_L4 F μ 166 (nI p) (fun x _ => some x) n (nI s ||| 0) (nI i + 1) else f_X9_fitsOf_L4 F μ 166 (nI p) (fun x _ => some x) n (nI s ||| (1 <<< (nI i &&& 31))) (nI i + 1))) a.length F 0 true (by omega) (by omega)
      simp only [if_true, Bool.true_and, List.drop_zero] at e0
      refine e0.trans ?_
      rw [one_shl16 i (by omega), fa_or, nI_1, show nI s ||| 0 = nI s from by rw [show (0 : Int32) = nI 0 from rfl, fa_or, Nat.or_zero]]
      unfold fst
      show (if (if fitB g a p i = true then (1 : Int32) else 0) = 0 then _ else _) = _
      by_cases c : fitB g a p i = true
      · simp only [c, if_true, show ¬ (1 : Int32) = 0 by decide, if_false]
      · simp only [c, if_true, if_false, Bool.false_eq_true])
    (fun _ _ _ _ => trivial)
    (fun n s _ => by
      show f_X9_fitsOf_L4 F μ 166 (nI p) (fun x _ => some x) (n + 1) (nI s) (nI 10) = _
      rw [f_X9_fitsOf_L4, if_pos (show (9 : Int32) < nI 10 from nI_lt (a := 9) (b := 10) (by decide) (by decide))])
    10 F 0 0 (by omega) (by omega) trivial
theorem S_fits (hF : 5000 ≤ F) (hC : VC μ g m) (hM : VM μ g m) (hga : GaC μ a) (hgb : GaM μ a) (ha : OkGa g a) (x : Int32) : ∃ v, f_X8_fits F μ 0 x = some v ∧ f_X9_fits F μ 166 x = some v := by
  have hg := hC.2.2.1
  have h5 := hg.2.2.2.1
  unfold f_X8_fits f_X9_fits
  simp only [C_noPerson hC, M_isPerson hM, Option.bind_some]
  by_cases hx : okN x (gM g) = true
  · obtain ⟨p, hp, rfl⟩ := okN_of (by omega) hx
    rw [C_fitting hF hC hga ha hp, M_fitsOf hF hM hgb ha hp]
    simp only [hx, if_true, if_false, show ¬ (1 : Int32) = 0 by decide]
    exact ⟨_, rfl, rfl⟩
  · simp only [hx, if_true, if_false, show ¬ (1 : Int32) = 0 by decide]
    exact ⟨_, rfl, rfl⟩
def pst (g : Cfg) (m : Mo) (a : Ga) (p s : Nat) : Nat := if ((nI (ftm g a p) >>> (nI (mE m p) &&& 31)) &&& 1) = 0 then s ||| 2 ^ p else s
theorem C_padded (hF : 5000 ≤ F) (h : VC μ g m) (hga : GaC μ a) (ha : OkGa g a) : f_X8_padded F μ 0 = some (nI (fr (pst g m a) (gM g) 0 0)) := by
  have hg := h.2.2.1
  have h5 := hg.2.2.2.1
  have eM : gI μ (gR μ 0 1) 5 = nI (gM g) := by obtain ⟨⟨t, ht, _, hc⟩, _⟩ := h; rw [ht]; exact hc.2.2.1
  exact for_run (S := Nat) (f := fun n s i => f_X8_padded_L4 F μ 0 (fun x _ => some x) n (nI s) (nI i)) (N := gM g) (step := pst g m a) (k := fun s => some (nI s)) (fun _ _ => True)
    (fun n s i hi _ => by
      show f_X8_padded_L4 F μ 0 (fun x _ => some x) (n + 1) (nI s) (nI i) = f_X8_padded_L4 F μ 0 (fun x _ => some x) n (nI (pst g m a i s)) (nI (i + 1))
      have e1 : gI μ (0 + 16 + 1 + 1) i = nI (mE m i) := C_el h hi
      rw [f_X8_padded_L4, eM, if_pos (nI_lt hi (by omega)), C_fitting hF h hga ha hi, Option.bind_some, if_pos (ix5 hg hi), cl5 hg hi, e1, one_shl i (by omega), fa_or, nI_1]
      unfold pst
      split <;> rfl)
    (fun _ _ _ _ => trivial)
    (fun n s _ => by
      show f_X8_padded_L4 F μ 0 (fun x _ => some x) (n + 1) (nI s) (nI (gM g)) = _
      rw [f_X8_padded_L4, eM, if_neg (nI_nlt (Nat.le_refl _) (by omega))])
    (gM g) F 0 0 (by omega) (by omega) trivial
theorem M_padded (hF : 5000 ≤ F) (h : VM μ g m) (hga : GaM μ a) (ha : OkGa g a) : f_X9_now_L105 F μ 166 (fun x _ => some x) F 0 0 = some (nI (fr (pst g m a) (gM g) 0 0)) := by
  have hg := h.2.2.1
  have h5 := hg.2.2.2.1
  have eM : gI μ (166 + 7) 0 = nI (gM g) := h.1.2.2.1
  exact for_run (S := Nat) (f := fun n s i => f_X9_now_L105 F μ 166 (fun x _ => some x) n (nI s) (nI i)) (N := gM g) (step := pst g m a) (k := fun s => some (nI s)) (fun _ _ => True)
    (fun n s i hi _ => by
      show f_X9_now_L105 F μ 166 (fun x _ => some x) (n + 1) (nI s) (nI i) = f_X9_now_L105 F μ 166 (fun x _ => some x) n (nI (pst g m a i s)) (nI (i + 1))
      obtain ⟨k1, k2⟩ := M_ixp (p := i) (b := 5) (by omega) (by decide)
      have k1 : ix (5 + nI i) 531 = true := k1
      have k2 : (5 + nI i).toNatClampNeg = 5 + i := k2
      rw [f_X9_now_L105, eM, if_pos (nI_lt hi (by omega)), M_fitsOf hF h hga ha hi, Option.bind_some, if_pos k1, k2, M_el h hi, one_shl i (by omega), fa_or, nI_1, show nI s ||| 0 = nI s from by rw [show (0 : Int32) = nI 0 from rfl, fa_or, Nat.or_zero]]
      unfold pst
      split <;> rfl)
    (fun _ _ _ _ => trivial)
    (fun n s _ => by
      show f_X9_now_L105 F μ 166 (fun x _ => some x) (n + 1) (nI s) (nI (gM g)) = _
      rw [f_X9_now_L105, eM, if_neg (nI_nlt (Nat.le_refl _) (by omega))])
    (gM g) F 0 0 (by omega) (by omega) trivial
theorem C_sum (hF : 5000 ≤ F) (h : VC μ g m) (q : Nat) (f : Nat → Nat) (hq : ∀ p, p < gM g → gI μ q p = nI (f p)) : f_X8_sum F μ 0 q = some (nI (fr (fun p s => s + f p) (gM g) 0 0)) := by
  have hg := h.2.2.1
  have h5 := hg.2.2.2.1
  have eM : gI μ (gR μ 0 1) 5 = nI (gM g) := by obtain ⟨⟨t, ht, _, hc⟩, _⟩ := h; rw [ht]; exact hc.2.2.1
  exact for_run (S := Nat) (f := fun n s i => f_X8_sum_L4 F μ 0 q (fun x _ => some x) n (nI s) (nI i)) (N := gM g) (step := fun p s => s + f p) (k := fun s => some (nI s)) (fun _ _ => True)
    (fun n s i hi _ => by
      show f_X8_sum_L4 F μ 0 q (fun x _ => some x) (n + 1) (nI s) (nI i) = f_X8_sum_L4 F μ 0 q (fun x _ => some x) n (nI (s + f i)) (nI (i + 1))
      rw [f_X8_sum_L4, eM, if_pos (nI_lt hi (by omega)), if_pos (ix5 hg hi), cl5 hg hi, hq i hi, nI_add, nI_1, lt_eq])
    (fun _ _ _ _ => trivial)
    (fun n s _ => by
      show f_X8_sum_L4 F μ 0 q (fun x _ => some x) (n + 1) (nI s) (nI (gM g)) = _
      rw [f_X8_sum_L4, eM, if_neg (nI_nlt (Nat.le_refl _) (by omega))])
    (gM g) F 0 0 (by omega) (by omega) trivial
theorem M_sumG (hF : 5000 ≤ F) (h : VM μ g m) : f_X9_now_L42 F μ 166 (fun x _ => some x) F 0 0 = some (nI (fr (fun p s => s + mG m p) (gM g) 0 0)) := by
  have hg := h.2.2.1
  have h5 := hg.2.2.2.1
  have eM : gI μ (166 + 7) 0 = nI (gM g) := h.1.2.2.1
  exact for_run (S := Nat) (f := fun n s i => f_X9_now_L42 F μ 166 (fun x _ => some x) n (nI s) (nI i)) (N := gM g) (step := fun p s => s + mG m p) (k := fun s => some (nI s)) (fun _ _ => True)
    (fun n s i hi _ => by
      show f_X9_now_L42 F μ 166 (fun x _ => some x) (n + 1) (nI s) (nI i) = f_X9_now_L42 F μ 166 (fun x _ => some x) n (nI (s + mG m i)) (nI (i + 1))
      obtain ⟨k1, k2⟩ := M_ixp (p := i) (b := 10) (by omega) (by decide)
      have k1 : ix (10 + nI i) 531 = true := k1
      have k2 : (10 + nI i).toNatClampNeg = 10 + i := k2
      rw [f_X9_now_L42, eM, if_pos (nI_lt hi (by omega)), if_pos k1, k2, M_gv h hi, nI_add, nI_1, lt_eq])
    (fun _ _ _ _ => trivial)
    (fun n s _ => by
      show f_X9_now_L42 F μ 166 (fun x _ => some x) (n + 1) (nI s) (nI (gM g)) = _
      rw [f_X9_now_L42, eM, if_neg (nI_nlt (Nat.le_refl _) (by omega))])
    (gM g) F 0 0 (by omega) (by omega) trivial
theorem M_sumE (hF : 5000 ≤ F) (h : VM μ g m) : f_X9_now_L74 F μ 166 (fun x _ => some x) F 0 0 = some (nI (fr (fun p s => s + mE m p) (gM g) 0 0)) := by
  have hg := h.2.2.1
  have h5 := hg.2.2.2.1
  have eM : gI μ (166 + 7) 0 = nI (gM g) := h.1.2.2.1
  exact for_run (S := Nat) (f := fun n s i => f_X9_now_L74 F μ 166 (fun x _ => some x) n (nI s) (nI i)) (N := gM g) (step := fun p s => s + mE m p) (k := fun s => some (nI s)) (fun _ _ => True)
    (fun n s i hi _ => by
      show f_X9_now_L74 F μ 166 (fun x _ => some x) (n + 1) (nI s) (nI i) = f_X9_now_L74 F μ 166 (fun x _ => some x) n (nI (s + mE m i)) (nI (i + 1))
      obtain ⟨k1, k2⟩ := M_ixp (p := i) (b := 5) (by omega) (by decide)
      have k1 : ix (5 + nI i) 531 = true := k1
      have k2 : (5 + nI i).toNatClampNeg = 5 + i := k2
      rw [f_X9_now_L74, eM, if_pos (nI_lt hi (by omega)), if_pos k1, k2, M_el h hi, nI_add, nI_1, lt_eq])
    (fun _ _ _ _ => trivial)
    (fun n s _ => by
      show f_X9_now_L74 F μ 166 (fun x _ => some x) (n + 1) (nI s) (nI (gM g)) = _
      rw [f_X9_now_L74, eM, if_neg (nI_nlt (Nat.le_refl _) (by omega))])
    (gM g) F 0 0 (by omega) (by omega) trivial
theorem S_now (hF : 5000 ≤ F) (hC : VC μ g m) (hM : VM μ g m) (hga : GaC μ a) (hgb : GaM μ a) (ha : OkGa g a) (x : Int32) : ∃ v, f_X8_now F μ 0 x = some v ∧ f_X9_now F μ 166 x = some v := by
  have e1 : gI μ (0 + 16 + 1) 3 = nI (mC m) := hC.2.1.1
  have e2 : gI μ (166 + 12) 15 = nI (mC m) := hM.2.1.1
  have s1 := C_sum hF hC (0 + 16 + 1 + 3) (mG m) (fun p hp => C_gv hC hp)
  have s2 := C_sum hF hC (0 + 16 + 1 + 1) (mE m) (fun p hp => C_el hC hp)
  unfold f_X8_now f_X9_now
  rw [e1, e2, s1, s2, C_padded hF hC hga ha, M_padded hF hM hgb ha, M_sumG hF hM, M_sumE hF hM]
  simp only [Option.bind_some]
  by_cases h0 : x = 0
  · simp only [if_pos h0]; exact ⟨_, rfl, rfl⟩
  · simp only [if_neg h0]
    by_cases h1 : x = 1
    · simp only [if_pos h1]; exact ⟨_, rfl, rfl⟩
    · simp only [if_neg h1]
      by_cases h2 : x = 2
      · simp only [if_pos h2]; exact ⟨_, rfl, rfl⟩
      · simp only [if_neg h2]
        by_cases h3 : x = 3
        · simp only [if_pos h3]; exact ⟨_, rfl, rfl⟩
        · simp only [if_neg h3]; exact ⟨_, rfl, rfl⟩
end R27
