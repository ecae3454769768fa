/-! PURE from here on: numbers, bits, loops -/
theorem lit_nI (n : Nat) : (OfNat.ofNat n : Int32) = nI n := rfl
theorem nI_sub {a b : Nat} (h : b ≤ a) : nI a - nI b = nI (a - b) := by
  have e : nI a = nI (a - b) + nI b := by rw [nI_add, Nat.sub_add_cancel h]
  rw [e, Int32.add_sub_cancel]
theorem nI_mul (a b : Nat) : nI a * nI b = nI (a * b) := (Int32.ofNat_mul a b).symm
theorem nI_ix {a n : Nat} (h : a < n) (hn : n < 2 ^ 31) : ix (nI a) n = true := by
  have h1 : ¬ nI a < 0 := nI_pos (by omega)
  have h2 : (nI a).toNatClampNeg = a := nI_clamp (by omega)
  simp [ix, h1, h2, h]
theorem nI_inj {a b : Nat} (ha : a < 2 ^ 31) (hb : b < 2 ^ 31) (h : nI a = nI b) : a = b := (nI_eq ha hb).mp h
theorem bW_some {α β : Type} (v : β) (m : Mem) (k : β → Mem → Option α) : bW (some (v, m)) k = k v m := rfl
theorem lt_eq {α β : Type} (x : α) (k : α → β) : lt x k = k x := rfl
/-- a number that names one of n things -/
def okN (x : Int32) (n : Nat) : Bool := !decide (x < 0) && decide (x < nI n)
theorem okN_nI {a n : Nat} (h : a < n) (hn : n < 2 ^ 31) : okN (nI a) n = true := by
  have h1 : ¬ nI a < 0 := nI_pos (by omega)
  have h2 : nI a < nI n := nI_lt h hn
  simp [okN, h1, h2]
theorem okN_of {x : Int32} {n : Nat} (hn : n < 2 ^ 31) (h : okN x n = true) : ∃ a, a < n ∧ x = nI a := by
  simp [okN] at h
  have h1 : ¬ x < 0 := by rw [Int32.not_lt]; exact h.1
  obtain ⟨j, hj, rfl⟩ := nI_of h1
  exact ⟨j, (nI_ltI hj hn).mp h.2, rfl⟩
theorem okN_no {x : Int32} {n : Nat} (h : ¬ okN x n = true) : x < 0 ∨ ¬ x < nI n := by
  by_cases h1 : x < 0
  · exact Or.inl h1
  · refine Or.inr fun h2 => h ?_
    simp [okN, h1, h2]
/-- a range lo .. hi, as the model asks -/
theorem in_ok (F : Nat) (μ : Mem) (x : Int32) (n : Nat) (hn : n < 2 ^ 31) : f_X9_in F μ x 0 (nI n - 1) = some (if okN x n = true then 1 else 0) := by
  unfold f_X9_in
  by_cases h1 : x < 0
  · have h2 : ¬ okN x n = true := by simp [okN, h1]
    rw [if_pos h1, if_neg h2]
  · rw [if_neg h1]
    obtain ⟨j, hj, rfl⟩ := nI_of h1
    by_cases h2 : j < n
    · have h3 : nI n - 1 = nI (n - 1) := nI_sub (b := 1) (by omega)
      rw [h3, if_neg (nI_nlt (by omega) (by omega)), if_pos (okN_nI h2 hn)]
    · have h3 : ¬ okN (nI j) n = true := by
        intro h4
        simp [okN] at h4
        exact h2 ((nI_ltI hj hn).mp h4.2)
      rw [if_neg h3]
      by_cases h0 : n = 0
      · subst h0
        have : nI 0 - 1 < nI j := by
          have e : nI 0 - 1 = (-1 : Int32) := by decide +kernel
          rw [e, Int32.lt_iff_toInt_lt, nI_toInt hj]
          have : (-1 : Int32).toInt = -1 := by decide +kernel
          omega
        rw [if_pos this]
      · have h4 : nI n - 1 = nI (n - 1) := nI_sub (b := 1) (by omega)
        rw [h4, if_pos (nI_lt (by omega) hj)]
/-- a loop over i = lo .. hi, by its steps -/
def fr {S : Type} (step : Nat → S → S) : Nat → Nat → S → S
  | 0, _, s => s
  | c + 1, i, s => fr step c (i + 1) (step i s)
theorem fr_succ {S : Type} (step : Nat → S → S) (c i : Nat) (s : S) : fr step (c + 1) i s = step (i + c) (fr step c i s) := by
  induction c generalizing i s with
  | zero => rfl
  | succ c ih => rw [fr, ih, show i + 1 + c = i + (c + 1) by omega]; rfl
theorem fr_inv {S : Type} {step : Nat → S → S} {N : Nat} (P : Nat → S → Prop) (hs : ∀ i s, i < N → P i s → P (i + 1) (step i s)) : ∀ (c i : Nat) (s : S), i + c ≤ N → P i s → P (i + c) (fr step c i s)
  | 0, i, s, _, h => h
  | c + 1, i, s, hc, h => by
    have h1 := fr_inv P hs c (i + 1) (step i s) (by omega) (hs i s (by omega) h)
    rw [show i + (c + 1) = i + 1 + c by omega]
    exact h1
theorem fr_cong {S : Type} {s1 s2 : Nat → S → S} {N : Nat} (h : ∀ i s, i < N → s1 i s = s2 i s) : ∀ (c i : Nat) (s : S), i + c ≤ N → fr s1 c i s = fr s2 c i s
  | 0, _, _, _ => rfl
  | c + 1, i, s, hc => by rw [fr, fr, h i s (by omega)]; exact fr_cong h c (i + 1) _ (by omega)
/-- a decompiled loop runs its steps, then goes on -/
theorem for_run {S R : Type} {f : Nat → S → Nat → Option R} {N : Nat} {step : Nat → S → S} {k : S → Option R} (P : Nat → S → Prop)
    (hstep : ∀ n s i, i < N → P i s → f (n + 1) s i = f n (step i s) (i + 1)) (hP : ∀ i s, i < N → P i s → P (i + 1) (step i s)) (hend : ∀ n s, P N s → f (n + 1) s N = k s) :
    ∀ (c n i : Nat) (s : S), i + c = N → c < n → P i s → f n s i = k (fr step c i s)
  | 0, n, i, s, hi, hn, h => by
    obtain ⟨m, rfl⟩ : ∃ m, n = m + 1 := ⟨n - 1, by omega⟩
    have : i = N := by omega
    subst this
    exact hend m s h
  | c + 1, n, i, s, hi, hn, h => by
    obtain ⟨m, rfl⟩ : ∃ m, n = m + 1 := ⟨n - 1, by omega⟩
    rw [hstep m s i (by omega) h, for_run P hstep hP hend c m (i + 1) (step i s) (by omega) (by omega) (hP i s (by omega) h)]
    rfl
/-- a set of numbers below n as a mask -/
def msk (f : Nat → Bool) : Nat → Nat
  | 0 => 0
  | n + 1 => msk f n + (if f n = true then 2 ^ n else 0)
theorem msk_lt (f : Nat → Bool) : ∀ n, msk f n < 2 ^ n
  | 0 => by simp [msk]
  | n + 1 => by
    have h := msk_lt f n
    rw [msk, Nat.pow_succ]
    split <;> omega
theorem msk_bit (f : Nat → Bool) : ∀ n l, (msk f n).testBit l = (decide (l < n) && f l)
  | 0, l => by simp [msk]
  | n + 1, l => by
    have h := msk_lt f n
    rw [msk]
    by_cases hf : f n = true
    · have e : msk f n + 2 ^ n = 2 ^ n * 1 ||| msk f n := by rw [← Nat.two_pow_add_eq_or_of_lt h]; omega
      rw [if_pos hf, e, Nat.testBit_or, Nat.mul_one, Nat.testBit_two_pow, msk_bit f n l]
      by_cases hl : l = n
      · subst hl; simp [hf]
      · have : (decide (l < n + 1)) = decide (l < n) := by simp; omega
        simp [this, Ne.symm hl]
    · rw [if_neg hf, Nat.add_zero, msk_bit f n l]
      by_cases hl : l = n
      · subst hl; simp [hf]
      · have : (decide (l < n + 1)) = decide (l < n) := by simp; omega
        simp [this]
theorem msk_cong {f g : Nat → Bool} : ∀ {n : Nat}, (∀ l, l < n → f l = g l) → msk f n = msk g n
  | 0, _ => rfl
  | n + 1, h => by rw [msk, msk, msk_cong (fun l hl => h l (by omega)), h n (by omega)]
theorem msk_self {n x : Nat} (h : x < 2 ^ n) : msk (fun l => x.testBit l) n = x := by
  apply Nat.eq_of_testBit_eq
  intro i
  rw [msk_bit]
  by_cases hi : i < n
  · simp [hi]
  · simp [hi]
    have : x < 2 ^ i := Nat.lt_of_lt_of_le h (Nat.pow_le_pow_right (by decide) (by omega))
    rw [Nat.testBit_lt_two_pow this]
theorem fa_and (a b : Nat) : nI a &&& nI b = nI (a &&& b) := by
  apply Int32.toBitVec_inj.1
  show BitVec.ofNat 32 a &&& BitVec.ofNat 32 b = BitVec.ofNat 32 (a &&& b)
  apply BitVec.eq_of_getLsbD_eq
  intro i hi
  simp [hi]
theorem fa_or (a b : Nat) : nI a ||| nI b = nI (a ||| b) := by
  apply Int32.toBitVec_inj.1
  show BitVec.ofNat 32 a ||| BitVec.ofNat 32 b = BitVec.ofNat 32 (a ||| b)
  apply BitVec.eq_of_getLsbD_eq
  intro i hi
  simp [hi]
