/-! odds: sums over cases of lanes -/
theorem nI_div {a b : Nat} (ha : a < 2 ^ 31) (hb : b < 2 ^ 31) : nI a / nI b = nI (a / b) := by
  have h1 : a / b ≤ a := Nat.div_le_self a b
  apply Int32.toInt_inj.mp
  rw [Int32.toInt_div, nI_toInt ha, nI_toInt hb, nI_toInt (by omega)]
  have e : (a : Int).tdiv (b : Int) = ((a / b : Nat) : Int) := by
    rw [Int.tdiv_eq_ediv_of_nonneg (by omega)]; rfl
  rw [e]
  generalize a / b = q at h1 ⊢
  exact Int.bmod_eq_of_le (by omega) (by omega)
theorem nI_mod {a b : Nat} (ha : a < 2 ^ 31) (hb : b < 2 ^ 31) : nI a - nI a / nI b * nI b = nI (a % b) := by
  have h1 := Nat.div_mul_le_self a b
  rw [nI_div ha hb, nI_mul, nI_sub h1]
  congr 1
  have := Nat.div_add_mod a b
  have h2 : a / b * b = b * (a / b) := Nat.mul_comm _ _
  omega
def sumTo (f : Nat → Nat) : Nat → Nat
  | 0 => 0
  | n + 1 => sumTo f n + f n
theorem sumTo_split (f : Nat → Nat) (a : Nat) : ∀ b, sumTo f (a + b) = sumTo f a + sumTo (fun i => f (a + i)) b
  | 0 => rfl
  | b + 1 => by
    show sumTo f (a + b) + f (a + b) = sumTo f a + (sumTo (fun i => f (a + i)) b + f (a + b))
    rw [sumTo_split f a b]; omega
theorem sumTo_cong {f h : Nat → Nat} : ∀ {n : Nat}, (∀ i, i < n → f i = h i) → sumTo f n = sumTo h n
  | 0, _ => rfl
  | n + 1, e => by
    show sumTo f n + f n = sumTo h n + h n
    rw [sumTo_cong (fun i hi => e i (by omega)), e n (by omega)]
theorem sumTo_mul (f : Nat → Nat) (a : Nat) : ∀ n, sumTo (fun i => a * f i) n = a * sumTo f n
  | 0 => (Nat.mul_zero a).symm
  | n + 1 => by
    show sumTo (fun i => a * f i) n + a * f n = a * (sumTo f n + f n)
    rw [sumTo_mul f a n, Nat.mul_add]
theorem sumTo_fr (f : Nat → Nat) : ∀ n, fr (fun i s => s + f i) n 0 0 = sumTo f n
  | 0 => rfl
  | n + 1 => by rw [fr_succ, Nat.zero_add, sumTo_fr f n]; rfl
section ODDS
variable {pa cl : Nat → Bool} {x : Nat}
def SV (pa cl : Nat → Bool) (x : Nat) : Nat → (Nat → Nat) → Nat
  | 0, φ => φ 0
  | n + 1, φ => if cl n = true then SV pa cl x n φ else x * SV pa cl x n φ + (10 - x) * SV pa cl x n (fun o => φ (o + (if pa n = true then 2 ^ n else 0)))
def SU (pa : Nat → Bool) (x : Nat) : Nat → (Nat → Nat) → Nat
  | 0, φ => φ 0
  | n + 1, φ => if pa n = true then x * SU pa x n φ + (10 - x) * SU pa x n (fun o => φ (o + 2 ^ n)) else SU pa x n φ
/-- how many of the first n -/
def cnt (f : Nat → Bool) : Nat → Nat
  | 0 => 0
  | n + 1 => cnt f n + (if f n = true then 1 else 0)
theorem cnt_cong {f h : Nat → Bool} : ∀ {n : Nat}, (∀ i, i < n → f i = h i) → cnt f n = cnt h n
  | 0, _ => rfl
  | n + 1, e => by rw [cnt, cnt, cnt_cong (fun i hi => e i (by omega)), e n (by omega)]
theorem cnt_le (f : Nat → Bool) : ∀ n, cnt f n ≤ n
  | 0 => Nat.le_refl _
  | n + 1 => by
    have := cnt_le f n
    rw [cnt]; split <;> omega
theorem SV_SU (hp : ∀ l, pa l = true → cl l = false) (hx : x ≤ 10) : ∀ (n : Nat) (φ : Nat → Nat), SV pa cl x n φ = 10 ^ cnt (fun l => !cl l && !pa l) n * SU pa x n φ
  | 0, φ => (Nat.one_mul _).symm
  | n + 1, φ => by
    rw [SV, SU, cnt]
    by_cases h1 : pa n = true
    · have h2 := hp n h1
      simp only [h1, h2, if_true, if_false, Bool.false_eq_true, Bool.not_true, Bool.and_false, Nat.add_zero]
      rw [SV_SU hp hx n, SV_SU hp hx n, Nat.mul_add, Nat.mul_left_comm, Nat.mul_left_comm (10 - x)]
    · by_cases h2 : cl n = true
      · simp only [h1, h2, if_true, if_false, Bool.false_eq_true, Bool.not_true, Bool.false_and, Nat.add_zero]
        exact SV_SU hp hx n φ
      · have h1' : pa n = false := by simpa using h1
        have h2' : cl n = false := by simpa using h2
        simp only [h1', h2', if_true, if_false, Bool.false_eq_true, Bool.not_false, Bool.and_true, Nat.add_zero]
        rw [SV_SU hp hx n, ← Nat.add_mul, show x + (10 - x) = 10 by omega, Nat.pow_succ, ← Nat.mul_assoc]
        rw [Nat.mul_comm 10]
theorem SV_le (hx : x ≤ 10) : ∀ (n : Nat) (φ : Nat → Nat), (∀ o, φ o ≤ 1) → SV pa cl x n φ ≤ 10 ^ cnt (fun l => !cl l) n
  | 0, φ, h => h 0
  | n + 1, φ, h => by
    rw [SV, cnt]
    by_cases h2 : cl n = true
    · simp only [h2, if_true, if_false, Bool.false_eq_true, Bool.not_true, Nat.add_zero]
      exact SV_le hx n φ h
    · have h2' : cl n = false := by simpa using h2
      have a1 := SV_le hx n φ h
      have a2 := SV_le hx n (fun o => φ (o + (if pa n = true then 2 ^ n else 0))) (fun o => h _)
      simp only [h2', if_true, if_false, Bool.false_eq_true, Bool.not_false]
      have b1 := Nat.mul_le_mul_left x a1
      have b2 := Nat.mul_le_mul_left (10 - x) a2
      have b3 : x * 10 ^ cnt (fun l => !cl l) n + (10 - x) * 10 ^ cnt (fun l => !cl l) n = 10 ^ (cnt (fun l => !cl l) n + 1) := by
        rw [← Nat.add_mul, show x + (10 - x) = 10 by omega, Nat.pow_succ, Nat.mul_comm]
      omega
/-- the lower numbers -/
theorem cnt_open (hp : ∀ l, pa l = true → cl l = false) : ∀ n, cnt (fun l => !cl l) n = cnt pa n + cnt (fun l => !cl l && !pa l) n
  | 0 => rfl
  | n + 1 => by
    rw [cnt, cnt, cnt, cnt_open hp n]
    by_cases h1 : pa n = true
    · have h2 := hp n h1
      simp [h1, h2]; omega
    · have h1' : pa n = false := by simpa using h1
      by_cases h2 : cl n = true
      · simp [h1', h2]
      · have h2' : cl n = false := by simpa using h2
        simp [h1', h2']; omega
/-! as the model sums -/
def okV (cl : Nat → Bool) (s : Nat) : Nat → Bool
  | 0 => true
  | n + 1 => okV cl s n && !(s.testBit n && cl n)
def prd (cl : Nat → Bool) (x s : Nat) : Nat → Nat
  | 0 => 1
  | n + 1 => prd cl x s n * (if cl n = true then 1 else if s.testBit n = true then x else 10 - x)
def alm (pa : Nat → Bool) (s n : Nat) : Nat := msk (fun l => pa l && !s.testBit l) n
theorem okV_cong {s t : Nat} : ∀ {n : Nat}, (∀ i, i < n → s.testBit i = t.testBit i) → okV cl s n = okV cl t n
  | 0, _ => rfl
  | n + 1, e => by rw [okV, okV, okV_cong (fun i hi => e i (by omega)), e n (by omega)]
theorem prd_cong {s t : Nat} : ∀ {n : Nat}, (∀ i, i < n → s.testBit i = t.testBit i) → prd cl x s n = prd cl x t n
  | 0, _ => rfl
  | n + 1, e => by rw [prd, prd, prd_cong (fun i hi => e i (by omega)), e n (by omega)]
theorem alm_cong {s t n : Nat} (e : ∀ i, i < n → s.testBit i = t.testBit i) : alm pa s n = alm pa t n := msk_cong (fun l hl => by rw [e l hl])
theorem hi_bit {n s : Nat} (h : s < 2 ^ n) : s.testBit n = false := Nat.testBit_lt_two_pow h
theorem up_bit {n s : Nat} (h : s < 2 ^ n) : (2 ^ n + s).testBit n = true := by rw [Nat.testBit_two_pow_add_eq, hi_bit h]; rfl
theorem lo_bit {n s i : Nat} (hi : i < n) : (2 ^ n + s).testBit i = s.testBit i := Nat.testBit_two_pow_add_gt hi s
def wV (pa cl : Nat → Bool) (x n : Nat) (φ : Nat → Nat) (s : Nat) : Nat := (if okV cl s n = true then prd cl x s n else 0) * φ (alm pa s n)
theorem sumV (hp : ∀ l, pa l = true → cl l = false) : ∀ (n : Nat) (φ : Nat → Nat), sumTo (wV pa cl x n φ) (2 ^ n) = SV pa cl x n φ
  | 0, φ => by
    show 0 + (if true = true then 1 else 0) * φ 0 = φ 0
    simp
  | n + 1, φ => by
    rw [show 2 ^ (n + 1) = 2 ^ n + 2 ^ n by rw [Nat.pow_succ]; omega, sumTo_split, SV]
    by_cases h2 : cl n = true
    · have h1 : pa n = false := by
        by_cases h : pa n = true
        · rw [hp n h] at h2; cases h2
        · simpa using h
      rw [if_pos h2, ← sumV hp n φ]
      rw [sumTo_cong (f := wV pa cl x (n + 1) φ) (h := wV pa cl x n φ) (fun s hs => ?_), sumTo_cong (f := fun i => wV pa cl x (n + 1) φ (2 ^ n + i)) (h := fun i => 0 * 0) (fun s hs => ?_), sumTo_mul]
      · omega
      · show wV pa cl x (n + 1) φ (2 ^ n + s) = 0 * 0
        unfold wV
        rw [okV, up_bit hs]
        simp [h2]
      · unfold wV
        rw [okV, prd, hi_bit hs]
        simp [h2, alm, msk, h1]
    · have h2' : cl n = false := by simpa using h2
      rw [if_neg h2, ← sumV hp n φ, ← sumV hp n (fun o => φ (o + (if pa n = true then 2 ^ n else 0))), ← sumTo_mul, ← sumTo_mul]
      rw [Nat.add_comm]
      congr 1
      · refine sumTo_cong (fun s hs => ?_)
        show wV pa cl x (n + 1) φ (2 ^ n + s) = x * wV pa cl x n φ s
        unfold wV
        have e : ∀ i, i < n → (2 ^ n + s).testBit i = s.testBit i := fun i hi => lo_bit hi
        rw [okV, prd, up_bit hs, okV_cong e, prd_cong e]
        have e3 : alm pa (2 ^ n + s) (n + 1) = alm pa s n := by
          rw [← alm_cong (pa := pa) e]
          unfold alm
          rw [msk, up_bit hs]
          simp
        rw [e3]
        simp only [h2', Bool.and_false, Bool.not_false, Bool.and_true, Bool.false_eq_true, if_false, if_true]
        by_cases h3 : okV cl s n = true
        · simp only [h3, if_true]
          rw [Nat.mul_comm (prd cl x s n), Nat.mul_assoc]
        · simp [h3]
      · refine sumTo_cong (fun s hs => ?_)
        show wV pa cl x (n + 1) φ s = (10 - x) * wV pa cl x n _ s
        unfold wV
        rw [okV, prd, hi_bit hs]
        have e3 : alm pa s (n + 1) = alm pa s n + (if pa n = true then 2 ^ n else 0) := by
          unfold alm
          rw [msk, hi_bit hs]
          simp
        rw [e3]
        simp only [h2', Bool.and_false, Bool.not_false, Bool.and_true, Bool.false_eq_true, if_false, if_true]
        by_cases h3 : okV cl s n = true
        · simp only [h3, if_true]
          rw [Nat.mul_comm (prd cl x s n), Nat.mul_assoc]
        · simp [h3]
/-! as the class sums -/
def okU (pa : Nat → Bool) (o : Nat) : Nat → Bool
  | 0 => true
  | n + 1 => okU pa o n && !(o.testBit n && !pa n)
theorem okU_cong {s t : Nat} : ∀ {n : Nat}, (∀ i, i < n → s.testBit i = t.testBit i) → okU pa s n = okU pa t n
  | 0, _ => rfl
  | n + 1, e => by rw [okU, okU, okU_cong (fun i hi => e i (by omega)), e n (by omega)]
theorem okU_cnt {o : Nat} : ∀ {n : Nat}, okU pa o n = true → cnt (fun l => o.testBit l) n ≤ cnt pa n
  | 0, _ => Nat.le_refl _
  | n + 1, h => by
    rw [okU, Bool.and_eq_true] at h
    have h1 := okU_cnt h.1
    rw [cnt, cnt]
    by_cases h2 : o.testBit n = true
    · have h3 : pa n = true := by have := h.2; rw [h2] at this; simpa using this
      rw [if_pos h2, if_pos h3]; omega
    · rw [if_neg h2]; omega
def wU (pa : Nat → Bool) (x n : Nat) (φ : Nat → Nat) (o : Nat) : Nat := (if okU pa o n = true then (10 - x) ^ cnt (fun l => o.testBit l) n * x ^ (cnt pa n - cnt (fun l => o.testBit l) n) else 0) * φ o
theorem sumU : ∀ (n : Nat) (φ : Nat → Nat), sumTo (wU pa x n φ) (2 ^ n) = SU pa x n φ
  | 0, φ => by
    show 0 + (if true = true then 1 * 1 else 0) * φ 0 = φ 0
    simp
  | n + 1, φ => by
    rw [show 2 ^ (n + 1) = 2 ^ n + 2 ^ n by rw [Nat.pow_succ]; omega, sumTo_split, SU]
    by_cases h1 : pa n = true
    · rw [if_pos h1, ← sumU n φ, ← sumU n (fun o => φ (o + 2 ^ n)), ← sumTo_mul, ← sumTo_mul]
      congr 1
      · refine sumTo_cong (fun s hs => ?_)
        show wU pa x (n + 1) φ s = x * wU pa x n φ s
        unfold wU
        rw [okU, cnt, cnt, hi_bit hs, h1]
        simp only [Bool.false_and, Bool.not_false, Bool.and_true, Bool.false_eq_true, if_false, if_true, Nat.add_zero]
        by_cases h3 : okU pa s n = true
        · have h4 := okU_cnt h3
          simp only [h3, if_true]
          rw [show cnt pa n + 1 - cnt (fun l => s.testBit l) n = cnt pa n - cnt (fun l => s.testBit l) n + 1 by omega, Nat.pow_succ, ← Nat.mul_assoc, Nat.mul_comm _ x, Nat.mul_assoc]
        · simp [h3]
      · refine sumTo_cong (fun s hs => ?_)
        show wU pa x (n + 1) φ (2 ^ n + s) = (10 - x) * wU pa x n (fun o => φ (o + 2 ^ n)) s
        unfold wU
        have e : ∀ i, i < n → (2 ^ n + s).testBit i = s.testBit i := fun i hi => lo_bit hi
        rw [okU, cnt, cnt, up_bit hs, h1, okU_cong e, cnt_cong e, Nat.add_comm (2 ^ n) s]
        simp only [Bool.true_and, Bool.not_true, Bool.not_false, Bool.and_true, Bool.false_eq_true, if_false, if_true]
        by_cases h3 : okU pa s n = true
        · simp only [h3, if_true]
          rw [Nat.add_sub_add_right, Nat.pow_succ, Nat.mul_comm _ (10 - x), Nat.mul_assoc, Nat.mul_assoc, Nat.mul_assoc]
        · simp [h3]
    · have h1' : pa n = false := by simpa using h1
      rw [if_neg h1, ← sumU n φ]
      rw [sumTo_cong (f := wU pa x (n + 1) φ) (h := wU pa x n φ) (fun s hs => ?_), sumTo_cong (f := fun i => wU pa x (n + 1) φ (2 ^ n + i)) (h := fun i => 0 * 0) (fun s hs => ?_), sumTo_mul]
      · omega
      · show wU pa x (n + 1) φ (2 ^ n + s) = 0 * 0
        unfold wU
        rw [okU, up_bit hs]
        simp [h1']
      · unfold wU
        rw [okU, cnt, cnt, hi_bit hs]
        simp [h1']
end ODDS
