/-! scratch cells: written before they are read, by class and model alike -/
def scr (q j : Nat) : Bool := decide (68 ≤ q ∧ q ≤ 73) || decide (180 ≤ q ∧ q ≤ 182) || decide (q = 1) || decide (q = 166 ∧ 14 ≤ j ∧ j ≤ 18)
def Sc (μ μ' : Mem) : Prop := (∀ q j, gR μ' q j = gR μ q j) ∧ (∀ q, gL μ' q = gL μ q) ∧ ∀ q j, scr q j = false → gI μ' q j = gI μ q j
theorem Sc_rfl (μ : Mem) : Sc μ μ := ⟨fun _ _ => rfl, fun _ => rfl, fun _ _ _ => rfl⟩
theorem Sc_tr {μ μ1 μ2 : Mem} (h1 : Sc μ μ1) (h2 : Sc μ1 μ2) : Sc μ μ2 := ⟨fun q j => (h2.1 q j).trans (h1.1 q j), fun q => (h2.2.1 q).trans (h1.2.1 q), fun q j h => (h2.2.2 q j h).trans (h1.2.2 q j h)⟩
theorem Sc_sI {μ μ1 : Mem} (h : Sc μ μ1) {q j : Nat} (hq : scr q j = true) (x : Int32) : Sc μ (sI μ1 q j x) := ⟨fun a i => (gR_sI _ _ _ _ _ _).trans (h.1 a i), fun a => (gL_sI _ _ _ _ _).trans (h.2.1 a), fun a i hs => by
  rw [gI_sI, if_neg (fun e => by rw [e.1, e.2, hq] at hs; cases hs)]
  exact h.2.2 a i hs⟩
theorem scr_of {q j : Nat} (h1 : q < 180) (h2 : ¬ (68 ≤ q ∧ q ≤ 73)) (h3 : ¬ q = 1) (h4 : ¬ q = 166) : scr q j = false := by
  simp only [scr, Bool.or_eq_false_iff, decide_eq_false_iff_not]; omega
theorem scr_q {q j : Nat} (h : 68 ≤ q ∧ q ≤ 73 ∨ 180 ≤ q ∧ q ≤ 182) : scr q j = true := by
  simp only [scr, Bool.or_eq_true, decide_eq_true_eq]; omega
theorem CfgC_sc {μ μ' : Mem} {t : Nat} {g : Cfg} (h : Sc μ μ') (ht : t = 4 ∨ t = 10) (hc : CfgC μ t g) : CfgC μ' t g := by
  have e : ∀ k j, k < 10 → gI μ' (t + k) j = gI μ (t + k) j := fun k j hk => h.2.2 _ _ (scr_of (by omega) (by omega) (by omega) (by omega))
  have e0 : ∀ j, gI μ' t j = gI μ t j := fun j => e 0 j (by decide)
  unfold CfgC
  simp only [e0, e 1 _ (by decide), e 2 _ (by decide), e 3 _ (by decide)]
  exact hc
theorem MoC_sc {μ μ' : Mem} {q n : Nat} {m : Mo} (h : Sc μ μ') (hq : ∀ k, k < 4 → scr (q + k) = fun _ => false) (hc : MoC μ q n m) : MoC μ' q n m := by
  have e : ∀ k j, k < 4 → gI μ' (q + k) j = gI μ (q + k) j := fun k j hk => h.2.2 _ _ (by rw [hq k hk])
  have e0 : ∀ j, gI μ' q j = gI μ q j := fun j => e 0 j (by decide)
  unfold MoC
  simp only [e0, e 1 _ (by decide), e 2 _ (by decide), e 3 _ (by decide)]
  exact hc
theorem CfgM_sc {μ μ' : Mem} {g : Cfg} (h : Sc μ μ') (hc : CfgM μ g) : CfgM μ' g := by
  have e : ∀ q j, 167 ≤ q → q ≤ 179 → gI μ' q j = gI μ q j := fun q j h1 h2 => h.2.2 _ _ (scr_of (by omega) (by omega) (by omega) (by omega))
  unfold CfgM
  simp only [e 168 _ (by decide) (by decide), e 169 _ (by decide) (by decide), e 170 _ (by decide) (by decide), e 171 _ (by decide) (by decide), e 172 _ (by decide) (by decide), e 173 _ (by decide) (by decide), e 176 _ (by decide) (by decide), e 177 _ (by decide) (by decide)]
  exact hc
theorem MoM_sc {μ μ' : Mem} {b n : Nat} {m : Mo} (h : Sc μ μ') (hc : MoM μ b n m) : MoM μ' b n m := by
  have e : ∀ j, gI μ' 178 j = gI μ 178 j := fun j => h.2.2 _ _ (scr_of (by omega) (by omega) (by omega) (by omega))
  unfold MoM
  simp only [e]
  exact hc
theorem VC_sc {μ μ' : Mem} {g : Cfg} {m : Mo} (h : Sc μ μ') (hc : VC μ g m) : VC μ' g m := by
  obtain ⟨⟨t, h1, h2, h3⟩, h4, h5⟩ := hc
  refine ⟨⟨t, (h.1 0 1).trans h1, h2, CfgC_sc h h2 h3⟩, MoC_sc h (fun k hk => funext fun j => scr_of (by omega) (by omega) (by omega) (by omega)) h4, h5⟩
theorem VM_sc {μ μ' : Mem} {g : Cfg} {m : Mo} (h : Sc μ μ') (hc : VM μ g m) : VM μ' g m := ⟨CfgM_sc h hc.1, MoM_sc h hc.2.1, hc.2.2⟩
/-- a decompiled loop that writes: a step to some memory that keeps Inv -/
theorem for_rel {S R : Type} {f : Nat → S → Nat → Option R} {N : Nat} {k : S → Option R} (Inv : Nat → S → Prop)
    (hstep : ∀ n i s, i < N → Inv i s → ∃ s', Inv (i + 1) s' ∧ f (n + 1) s i = f n s' (i + 1)) (hend : ∀ n s, Inv N s → f (n + 1) s N = k s) :
    ∀ (c n i : Nat) (s : S), i + c = N → c < n → Inv i s → ∃ s', Inv N s' ∧ f n s i = k s'
  | 0, n, i, s, hi, hn, h => by
    obtain ⟨m, rfl⟩ : ∃ m, n = m + 1 := ⟨n - 1, by omega⟩
    have : i = N := by omega
    subst this
    exact ⟨s, h, hend m s h⟩
  | c + 1, n, i, s, hi, hn, h => by
    obtain ⟨m, rfl⟩ : ∃ m, n = m + 1 := ⟨n - 1, by omega⟩
    obtain ⟨s1, h1, e1⟩ := hstep m i s (by omega) h
    obtain ⟨s2, h2, e2⟩ := for_rel Inv hstep hend c m (i + 1) s1 (by omega) (by omega) h1
    exact ⟨s2, h2, e1.trans e2⟩
theorem imin_nI {a b : Nat} (ha : a < 2 ^ 31) (hb : b < 2 ^ 31) : imin (nI a) (nI b) = nI (min a b) := by
  unfold imin
  by_cases h : b < a
  · rw [if_pos (nI_lt h ha), Nat.min_eq_right (by omega)]
  · rw [if_neg (nI_nlt (by omega) hb), Nat.min_eq_left (by omega)]
theorem imax_sub {a b : Nat} (ha : a < 1000) (hb : b < 1000) : imax 0 (nI a - nI b) = nI (a - b) := by
  unfold imax
  have h := (sub_cmp ha hb).2
  by_cases c : b < a
  · rw [if_pos (h.mpr c), nI_sub (by omega)]
  · rw [if_neg (fun z => c (h.mp z)), show a - b = 0 by omega]; rfl
