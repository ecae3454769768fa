/-! order; gates; now -/
section R26
variable {F : Nat} {μ : Mem} {g : Cfg} {m : Mo}
def bef (m : Mo) (p q : Nat) : Bool := decide (mE m p < mE m q) || (decide (mE m q = mE m p) && decide (q < p))
def rk (g : Cfg) (m : Mo) (p : Nat) : Nat := fr (fun q s => if bef m p q = true then s + 1 else s) (gM g) 0 0
theorem rk_ct (p : Nat) : rk g m p = fb_ct (bef m p) (gM g) := by
  unfold rk
  generalize gM g = n
  induction n with
  | zero => rfl
  | succ n ih => rw [fr_succ, ih, fb_ct_succ, Nat.zero_add]; split <;> omega
theorem ct_lt {a b : Nat → Bool} : ∀ {n : Nat}, (∀ k, k < n → a k = true → b k = true) → (∃ j, j < n ∧ a j = false ∧ b j = true) → fb_ct a n < fb_ct b n
  | 0, _, h => by obtain ⟨j, h1, _⟩ := h; omega
  | n + 1, h1, h => by
    obtain ⟨j, h2, h3, h4⟩ := h
    rw [fb_ct_succ, fb_ct_succ]
    by_cases hj : j = n
    · subst hj
      have := fb_ct_sub (p := a) (q := b) (n := j) (fun k hk => h1 k (by omega))
      simp [h3, h4]
      omega
    · have := ct_lt (a := a) (b := b) (n := n) (fun k hk => h1 k (by omega)) ⟨j, by omega, h3, h4⟩
      have h5 : (if a n = true then 1 else 0) ≤ (if b n = true then 1 else 0) := by
        by_cases ha : a n = true
        · simp [ha, h1 n (by omega) ha]
        · simp [ha]
      omega
theorem rk_lt {p : Nat} (hp : p < gM g) : rk g m p < gM g := by
  rw [rk_ct]
  have h := ct_lt (a := bef m p) (b := fun _ => true) (n := gM g) (fun _ _ _ => rfl) ⟨p, hp, by simp [bef], rfl⟩
  have h2 : fb_ct (fun _ => true) (gM g) = gM g := fb_ct_all.mpr (fun _ _ => rfl)
  omega
theorem rk_ne {p q : Nat} (hp : p < gM g) (hq : q < gM g) (h : bef m q p = true) : rk g m p < rk g m q := by
  rw [rk_ct, rk_ct]
  refine ct_lt (fun k _ hk => ?_) ⟨p, hp, by simp [bef], h⟩
  simp only [bef, Bool.or_eq_true, Bool.and_eq_true, decide_eq_true_eq] at hk h ⊢
  omega
theorem rk_onto {i : Nat} (hi : i < gM g) : ∃ p, p < gM g ∧ rk g m p = i := by
  refine fb_onto (n := gM g) (f := rk g m) (fun p hp => rk_lt hp) (fun p q hpq hq => ?_) hi
  by_cases h : bef m q p = true
  · have := rk_ne (g := g) (show p < gM g by omega) hq h
    omega
  · have h2 : bef m p q = true := by
      simp only [bef, Bool.or_eq_true, Bool.and_eq_true, decide_eq_true_eq] at h ⊢
      omega
    have := rk_ne (g := g) hq (show p < gM g by omega) h2
    omega
theorem C_ahead (hF : 5000 ≤ F) (h : VC μ g m) {p : Nat} (hp : p < gM g) : f_X8_peopleAhead F μ 0 (nI p) = some (nI (rk g m p)) := by
  have hg := h.2.2.1
  have h5 := hg.2.2.2.1
  have eM : gI μ (gR μ 0 1) 5 = nI (gM g) := by obtain ⟨⟨t, ht, _, hc⟩, _⟩ := h; rw [ht]; exact hc.2.2.1
  have ep := C_el h hp
  have ap := (h.2.2.2.1 p hp).1
  exact for_run (S := Nat) (f := fun n s i => f_X8_peopleAhead_L16 F μ 0 (nI p) 18 (fun x _ => some x) n (nI s) (nI i)) (N := gM g) (step := fun q s => if bef m p q = true then s + 1 else s) (k := fun s => some (nI s)) (fun _ _ => True)
    (fun n s i hi _ => by
      show f_X8_peopleAhead_L16 F μ 0 (nI p) 18 (fun x _ => some x) (n + 1) (nI s) (nI i) = f_X8_peopleAhead_L16 F μ 0 (nI p) 18 (fun x _ => some x) n (nI (if bef m p i = true then s + 1 else s)) (nI (i + 1))
      have ai := (h.2.2.2.1 i hi).1
      rw [f_X8_peopleAhead_L16, eM, if_pos (nI_lt hi (by omega))]
      simp only [ix5 hg hi, ix5 hg hp, cl5 hg hi, cl5 hg hp, if_true, C_el h hi, ep, nI_1]
      simp (disch := omega) only [nI_ltI, nI_eq]
      by_cases c1 : mE m p < mE m i
      · simp [c1, bef]
      · by_cases c2 : mE m i = mE m p
        · by_cases c3 : i < p
          · simp [c2, c3, bef]
          · simp [c2, c3, bef]
        · simp [c1, c2, bef])
    (fun _ _ _ _ => trivial)
    (fun n s _ => by
      show f_X8_peopleAhead_L16 F μ 0 (nI p) 18 (fun x _ => some x) (n + 1) (nI s) (nI (gM g)) = _
      rw [f_X8_peopleAhead_L16, eM, if_neg (nI_nlt (Nat.le_refl _) (by omega))])
    (gM g) F 0 0 (by omega) (by omega) trivial
theorem M_ahead (hF : 5000 ≤ F) (h : VM μ g m) {p : Nat} (hp : p < gM g) (x1 x2 : Int32) (k : Int32 → Int32 → Option Int32) : f_X9_order_L31 F μ 166 x1 x2 (nI p) k F 0 0 = k (nI (rk g m p)) (nI (gM g)) := by
  have hg := h.2.2.1
  have h5 := hg.2.2.2.1
  have eM : gI μ (166 + 7) 0 = nI (gM g) := h.1.2.2.1
  have ep := M_el h hp
  have ap := (h.2.2.2.1 p hp).1
  obtain ⟨j1, j2⟩ := M_ixp (p := p) (b := 5) (by omega) (by decide)
  have j1 : ix (5 + nI p) 531 = true := j1
  have j2 : (5 + nI p).toNatClampNeg = 5 + p := j2
  exact for_run (S := Nat) (f := fun n s i => f_X9_order_L31 F μ 166 x1 x2 (nI p) k n (nI s) (nI i)) (N := gM g) (step := fun q s => if bef m p q = true then s + 1 else s) (k := fun s => k (nI s) (nI (gM g))) (fun _ _ => True)
    (fun n s i hi _ => by
      show f_X9_order_L31 F μ 166 x1 x2 (nI p) k (n + 1) (nI s) (nI i) = f_X9_order_L31 F μ 166 x1 x2 (nI p) k n (nI (if bef m p i = true then s + 1 else s)) (nI (i + 1))
      have ai := (h.2.2.2.1 i hi).1
      obtain ⟨k1, k2⟩ := M_ixp (p := i) (b := 5) (by omega) (by decide)
      have k1 : ix (5 + nI i) 531 = true := k1
      have k2 : (5 + nI i).toNatClampNeg = 5 + i := k2
      rw [f_X9_order_L31, eM, if_pos (nI_lt hi (by omega))]
      simp only [j1, j2, k1, k2, if_true, M_el h hi, ep, nI_1, show ∀ s : Nat, nI s + 0 = nI s from fun s => nI_add s 0]
      simp (disch := omega) only [nI_ltI, nI_eq]
      by_cases c1 : mE m p < mE m i
      · simp [c1, bef]
      · by_cases c2 : mE m i = mE m p
        · by_cases c3 : i < p
          · simp [c2, c3, bef]
          · simp [c2, c3, bef]
        · simp [c1, c2, bef])
    (fun _ _ _ _ => trivial)
    (fun n s _ => by
      show f_X9_order_L31 F μ 166 x1 x2 (nI p) k (n + 1) (nI s) (nI (gM g)) = _
      rw [f_X9_order_L31, eM, if_neg (nI_nlt (Nat.le_refl _) (by omega))])
    (gM g) F 0 0 (by omega) (by omega) trivial
def ost (g : Cfg) (m : Mo) (i p : Nat) (s : Option Nat) : Option Nat := if rk g m p = i then some p else s
def encO (z : Int32) (s : Option Nat) : Int32 := match s with
  | none => z
  | some b => nI b
theorem ost_some {i : Nat} (hi : i < gM g) : ∃ p, fr (ost g m i) (gM g) 0 none = some p := by
  obtain ⟨p, hp, hr⟩ := rk_onto (m := m) hi
  have h := fr_inv (step := ost g m i) (N := gM g) (fun j s => p < j → ∃ q, s = some q) (fun j s hj h hp2 => by
    unfold ost
    by_cases c : rk g m j = i
    · rw [if_pos c]; exact ⟨_, rfl⟩
    · rw [if_neg c]
      refine h ?_
      by_cases hpj : p = j
      · subst hpj; exact absurd hr c
      · omega) (gM g) 0 none (by omega) (fun h => by omega)
  exact h (by omega)
theorem S_order (hF : 5000 ≤ F) (hC : VC μ g m) (hM : VM μ g m) (a : Int32) : ∃ v, f_X8_order F μ 0 a = some v ∧ f_X9_order F μ 166 a = some v := by
  have hg := hC.2.2.1
  have h5 := hg.2.2.2.1
  by_cases ha : okN a (gM g) = true
  · obtain ⟨i, hi, rfl⟩ := okN_of (by omega) ha
    obtain ⟨p, hp⟩ := ost_some (g := g) (m := m) hi
    have eM : gI μ (gR μ 0 1) 5 = nI (gM g) := by obtain ⟨⟨t, ht, _, hc⟩, _⟩ := hC; rw [ht]; exact hc.2.2.1
    have eM2 : gI μ (166 + 7) 0 = nI (gM g) := hM.1.2.2.1
    have e1 := for_run (S := Option Nat) (f := fun n s j => f_X8_order_L14 F μ 0 (nI i) (fun x _ => some x) n (encO (-1) s) (nI j)) (N := gM g) (step := ost g m i) (k := fun s => some (encO (-1) s)) (fun _ _ => True)
      (fun n s j hj _ => by
        show f_X8_order_L14 F μ 0 (nI i) (fun x _ => some x) (n + 1) (encO (-1) s) (nI j) = f_X8_order_L14 F μ 0 (nI i) (fun x _ => some x) n (encO (-1) (ost g m i j s)) (nI (j + 1))
        have hr := rk_lt (m := m) hj
        rw [f_X8_order_L14, eM, if_pos (nI_lt hj (by omega)), C_ahead hF hC hj, Option.bind_some, nI_1]
        unfold ost
        by_cases c : rk g m j = i
        · rw [if_pos (by rw [c]), if_pos c]; rfl
        · rw [if_neg (fun z => c (nI_inj (by omega) (by omega) z)), if_neg c])
      (fun _ _ _ _ => trivial)
      (fun n s _ => by
        show f_X8_order_L14 F μ 0 (nI i) (fun x _ => some x) (n + 1) (encO (-1) s) (nI (gM g)) = _
        rw [f_X8_order_L14, eM, if_neg (nI_nlt (Nat.le_refl _) (by omega))])
      (gM g) F 0 none (by omega) (by omega) trivial
    have e2 := for_run (S := Option Nat) (f := fun n s j => f_X9_order_L15 F μ 166 (nI i) (fun x _ => some x) n (encO (-9) s) (nI j)) (N := gM g) (step := ost g m i) (k := fun s => some (encO (-9) s)) (fun _ _ => True)
      (fun n s j hj _ => by
        show f_X9_order_L15 F μ 166 (nI i) (fun x _ => some x) (n + 1) (encO (-9) s) (nI j) = f_X9_order_L15 F μ 166 (nI i) (fun x _ => some x) n (encO (-9) (ost g m i j s)) (nI (j + 1))
        have hr := rk_lt (m := m) hj
        rw [f_X9_order_L15, eM2, if_pos (nI_lt hj (by omega)), M_ahead hF hM hj, nI_1]
        unfold ost
        by_cases c : rk g m j = i
        · rw [if_pos (by rw [c]), if_pos c]; rfl
        · rw [if_neg (fun z => c (nI_inj (by omega) (by omega) z)), if_neg c])
      (fun _ _ _ _ => trivial)
      (fun n s _ => by
        show f_X9_order_L15 F μ 166 (nI i) (fun x _ => some x) (n + 1) (encO (-9) s) (nI (gM g)) = _
        rw [f_X9_order_L15, eM2, if_neg (nI_nlt (Nat.le_refl _) (by omega))])
      (gM g) F 0 none (by omega) (by omega) trivial
    rw [hp] at e1 e2
    refine ⟨nI p, ?_, ?_⟩
    · unfold f_X8_order
      rw [C_noPerson hC, ha, if_pos rfl, Option.bind_some, if_pos rfl]
      exact e1
    · unfold f_X9_order
      rw [M_isPerson hM, ha, if_pos rfl, Option.bind_some, if_neg (show ¬ (1 : Int32) = 0 by decide)]
      exact e2
  · unfold f_X8_order f_X9_order
    simp only [C_noPerson hC, M_isPerson hM, Option.bind_some, ha, if_true, if_false, show ¬ (1 : Int32) = 0 by decide]
    exact ⟨_, rfl, rfl⟩
end R26
