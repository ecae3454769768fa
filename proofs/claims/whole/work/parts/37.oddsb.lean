/-! odds: shortened by 2 and 5, or by Euclid -/
theorem cop2 {u : Nat} (h : ¬ 2 ∣ u) : Nat.gcd u 2 = 1 := by
  have h1 : Nat.gcd u 2 ∣ 2 := Nat.gcd_dvd_right u 2
  have h2 := Nat.le_of_dvd (by decide) h1
  have h3 : Nat.gcd u 2 ≠ 2 := fun e => h (by rw [← e]; exact Nat.gcd_dvd_left u 2)
  have h4 : Nat.gcd u 2 ≠ 0 := fun e => by rw [e] at h1; exact absurd h1 (by decide)
  omega
theorem cop5 {u : Nat} (h : ¬ 5 ∣ u) : Nat.gcd u 5 = 1 := by
  have h1 : Nat.gcd u 5 ∣ 5 := Nat.gcd_dvd_right u 5
  have h2 := Nat.le_of_dvd (by decide) h1
  have h3 : Nat.gcd u 5 ≠ 5 := fun e => h (by rw [← e]; exact Nat.gcd_dvd_left u 5)
  have h4 : ∀ k, k = Nat.gcd u 5 → k = 1 := fun k e => by
    rw [← e] at h1 h2 h3
    have : k = 0 ∨ k = 1 ∨ k = 2 ∨ k = 3 ∨ k = 4 := by omega
    rcases this with rfl | rfl | rfl | rfl | rfl
    · exact absurd h1 (by decide)
    · rfl
    · exact absurd h1 (by decide)
    · exact absurd h1 (by decide)
    · exact absurd h1 (by decide)
  exact h4 _ rfl
/-- where the class's shortening stands after i of k rounds -/
def Sho (U T k i u v : Nat) : Prop := ∃ p q d, v = 2 ^ p * 5 ^ q ∧ u * d = U ∧ v * d = T ∧ (p ≤ k - i ∨ ¬ (2 ∣ u ∧ 2 ∣ v)) ∧ (q ≤ k - i ∨ ¬ (5 ∣ u ∧ 5 ∣ v))
theorem pow5_odd : ∀ q, ¬ 2 ∣ 5 ^ q
  | 0 => by decide
  | q + 1 => fun h => by
    have := pow5_odd q
    rw [Nat.pow_succ] at h
    omega
theorem pow2_no5 : ∀ p, ¬ 5 ∣ 2 ^ p
  | 0 => by decide
  | p + 1 => fun h => by
    have := pow2_no5 p
    rw [Nat.pow_succ] at h
    omega
theorem Sho_end {U T k u v : Nat} (hT : 0 < T) (h : Sho U T k k u v) : u = U / Nat.gcd U T ∧ v = T / Nat.gcd U T := by
  obtain ⟨p, q, d, h1, h2, h3, h4, h5⟩ := h
  have hv : 0 < v := by rw [h1]; exact Nat.mul_pos (Nat.pow_pos (by decide)) (Nat.pow_pos (by decide))
  have c2 : ¬ (2 ∣ u ∧ 2 ∣ v) := by
    rcases h4 with e | e
    · have : p = 0 := by omega
      subst this
      rw [Nat.pow_zero, Nat.one_mul] at h1
      exact fun z => pow5_odd q (h1 ▸ z.2)
    · exact e
  have c5 : ¬ (5 ∣ u ∧ 5 ∣ v) := by
    rcases h5 with e | e
    · have : q = 0 := by omega
      subst this
      rw [Nat.pow_zero, Nat.mul_one] at h1
      exact fun z => pow2_no5 p (h1 ▸ z.2)
    · exact e
  have a2 : Nat.Coprime u (2 ^ p) := by
    by_cases e : 2 ∣ u
    · have : p = 0 := by
        rcases Nat.eq_zero_or_pos p with z | z
        · exact z
        · exfalso
          refine c2 ⟨e, ?_⟩
          rw [h1, show p = p - 1 + 1 by omega, Nat.pow_succ]
          exact ⟨2 ^ (p - 1) * 5 ^ q, by rw [Nat.mul_comm (2 ^ (p - 1)) 2, Nat.mul_assoc]⟩
      subst this
      exact Nat.coprime_one_right u
    · exact Nat.Coprime.pow_right p (cop2 e)
  have a5 : Nat.Coprime u (5 ^ q) := by
    by_cases e : 5 ∣ u
    · have : q = 0 := by
        rcases Nat.eq_zero_or_pos q with z | z
        · exact z
        · exfalso
          refine c5 ⟨e, ?_⟩
          rw [h1, show q = q - 1 + 1 by omega, Nat.pow_succ]
          exact ⟨2 ^ p * 5 ^ (q - 1), by rw [Nat.mul_comm (5 ^ (q - 1)) 5, Nat.mul_left_comm]⟩
      subst this
      exact Nat.coprime_one_right u
    · exact Nat.Coprime.pow_right q (cop5 e)
  have hc : Nat.gcd u v = 1 := by rw [h1]; exact Nat.Coprime.mul_right a2 a5
  rcases Nat.eq_zero_or_pos d with hd | hd
  · subst hd
    have hT0 : T = 0 := by rw [← h3]; rfl
    omega
  · have hg : Nat.gcd U T = d := by rw [← h2, ← h3, Nat.gcd_mul_right, hc, Nat.one_mul]
    rw [hg, ← h2, ← h3, Nat.mul_div_cancel _ hd, Nat.mul_div_cancel _ hd]
    exact ⟨rfl, rfl⟩
/-- what the class does to both numbers in a round -/
def half (s : Nat × Nat) : Nat × Nat := if s.1 % 2 = 0 ∧ s.2 % 2 = 0 then (s.1 / 2, s.2 / 2) else s
def fifth (s : Nat × Nat) : Nat × Nat := if s.1 % 5 = 0 ∧ s.2 % 5 = 0 then (s.1 / 5, s.2 / 5) else s
theorem p2_pos {p q : Nat} (h : 2 ∣ 2 ^ p * 5 ^ q) : 1 ≤ p := by
  rcases Nat.eq_zero_or_pos p with z | z
  · subst z
    rw [Nat.pow_zero, Nat.one_mul] at h
    exact absurd h (pow5_odd q)
  · exact z
theorem p5_pos {p q : Nat} (h : 5 ∣ 2 ^ p * 5 ^ q) : 1 ≤ q := by
  rcases Nat.eq_zero_or_pos q with z | z
  · subst z
    rw [Nat.pow_zero, Nat.mul_one] at h
    exact absurd h (pow2_no5 p)
  · exact z
theorem Sho_half {U T k i u v : Nat} (h : Sho U T k i u v) : ∃ p q d, (half (u, v)).2 = 2 ^ p * 5 ^ q ∧ (half (u, v)).1 * d = U ∧ (half (u, v)).2 * d = T ∧ (p ≤ k - (i + 1) ∨ ¬ (2 ∣ (half (u, v)).1 ∧ 2 ∣ (half (u, v)).2)) ∧ (q ≤ k - i ∨ ¬ (5 ∣ (half (u, v)).1 ∧ 5 ∣ (half (u, v)).2)) := by
  obtain ⟨p, q, d, h1, h2, h3, h4, h5⟩ := h
  unfold half
  by_cases e : u % 2 = 0 ∧ v % 2 = 0
  · rw [if_pos e]
    obtain ⟨u', hu⟩ := Nat.dvd_of_mod_eq_zero e.1
    obtain ⟨v', hv⟩ := Nat.dvd_of_mod_eq_zero e.2
    have hp : 1 ≤ p := p2_pos (by rw [← h1]; exact Nat.dvd_of_mod_eq_zero e.2)
    have e1 : u / 2 = u' := by omega
    have e2 : v / 2 = v' := by omega
    refine ⟨p - 1, q, 2 * d, ?_, ?_, ?_, ?_, ?_⟩
    · show v / 2 = _
      rw [show p = p - 1 + 1 by omega, Nat.pow_succ, Nat.mul_comm (2 ^ (p - 1)) 2, Nat.mul_assoc] at h1
      rw [h1]; exact Nat.mul_div_cancel_left _ (by decide)
    · show u / 2 * (2 * d) = U
      rw [e1, ← h2, hu, ← Nat.mul_assoc, Nat.mul_comm u' 2]
    · show v / 2 * (2 * d) = T
      rw [e2, ← h3, hv, ← Nat.mul_assoc, Nat.mul_comm v' 2]
    · rcases h4 with z | z
      · exact Or.inl (by omega)
      · exact absurd ⟨Nat.dvd_of_mod_eq_zero e.1, Nat.dvd_of_mod_eq_zero e.2⟩ z
    · rcases h5 with z | z
      · exact Or.inl z
      · refine Or.inr fun y => z ⟨?_, ?_⟩
        · have := y.1; show 5 ∣ u
          have y1 : 5 ∣ u / 2 := y.1
          omega
        · have y1 : 5 ∣ v / 2 := y.2
          omega
  · rw [if_neg e]
    refine ⟨p, q, d, h1, h2, h3, Or.inr fun z => e ⟨?_, ?_⟩, h5⟩
    · have z1 : 2 ∣ u := z.1
      omega
    · have z1 : 2 ∣ v := z.2
      omega
theorem Sho_step {U T k i u v : Nat} (h : Sho U T k i u v) : Sho U T k (i + 1) (fifth (half (u, v))).1 (fifth (half (u, v))).2 := by
  obtain ⟨p, q, d, h1, h2, h3, h4, h5⟩ := Sho_half h
  generalize half (u, v) = s at h1 h2 h3 h4 h5 ⊢
  obtain ⟨u, v⟩ := s
  have h1 : v = _ := h1
  have h2 : u * d = U := h2
  have h3 : v * d = T := h3
  unfold fifth
  by_cases e : u % 5 = 0 ∧ v % 5 = 0
  · rw [if_pos e]
    obtain ⟨u', hu⟩ := Nat.dvd_of_mod_eq_zero e.1
    obtain ⟨v', hv⟩ := Nat.dvd_of_mod_eq_zero e.2
    have hq : 1 ≤ q := p5_pos (p := p) (by rw [← h1]; exact Nat.dvd_of_mod_eq_zero e.2)
    have e1 : u / 5 = u' := by omega
    have e2 : v / 5 = v' := by omega
    refine ⟨p, q - 1, 5 * d, ?_, ?_, ?_, ?_, ?_⟩
    · show v / 5 = _
      rw [show q = q - 1 + 1 by omega, Nat.pow_succ, ← Nat.mul_assoc] at h1
      rw [h1]; exact Nat.mul_div_cancel _ (by decide)
    · show u / 5 * (5 * d) = U
      rw [e1, ← h2, hu, ← Nat.mul_assoc, Nat.mul_comm u' 5]
    · show v / 5 * (5 * d) = T
      rw [e2, ← h3, hv, ← Nat.mul_assoc, Nat.mul_comm v' 5]
    · rcases h4 with z | z
      · exact Or.inl z
      · refine Or.inr fun y => z ⟨?_, ?_⟩
        · have y1 : 2 ∣ u / 5 := y.1
          show 2 ∣ u
          omega
        · have y1 : 2 ∣ v / 5 := y.2
          show 2 ∣ v
          omega
    · rcases h5 with z | z
      · exact Or.inl (by omega)
      · exact absurd ⟨Nat.dvd_of_mod_eq_zero e.1, Nat.dvd_of_mod_eq_zero e.2⟩ z
  · rw [if_neg e]
    refine ⟨p, q, d, h1, h2, h3, h4, Or.inr fun z => e ⟨?_, ?_⟩⟩
    · have z1 : 5 ∣ u := z.1
      omega
    · have z1 : 5 ∣ v := z.2
      omega
theorem sho_le (s : Nat × Nat) : (fifth (half s)).1 ≤ s.1 ∧ (fifth (half s)).2 ≤ s.2 := by
  unfold fifth half
  split <;> split <;> constructor <;> omega
/-- Euclid's, with fuel -/
def euc (f : Nat → Int32 → Int32 → Option Int32) (k : Int32 → Option Int32) : Prop := (∀ n a, f (n + 1) (nI a) 0 = k (nI a)) ∧ ∀ n a b, 0 < b → a < 2 ^ 31 → b < 2 ^ 31 → f (n + 1) (nI a) (nI b) = f n (nI b) (nI (a % b))
theorem euc_run {f : Nat → Int32 → Int32 → Option Int32} {k : Int32 → Option Int32} (h : euc f k) : ∀ (c n a b : Nat), a < 2 ^ 31 → b < 2 ^ 31 → b < 2 ^ c → 2 * c < n → f n (nI a) (nI b) = k (nI (Nat.gcd a b))
  | 0, n, a, b, ha, hb, hc, hn => by
    obtain ⟨j, rfl⟩ : ∃ j, n = j + 1 := ⟨n - 1, by omega⟩
    have : b = 0 := by omega
    subst this
    rw [Nat.gcd_zero_right]
    exact h.1 j a
  | c + 1, n, a, b, ha, hb, hc, hn => by
    obtain ⟨j, rfl⟩ : ∃ j, n = j + 1 + 1 := ⟨n - 2, by omega⟩
    rcases Nat.eq_zero_or_pos b with z | z
    · subst z
      rw [Nat.gcd_zero_right]
      exact h.1 _ a
    · rw [h.2 (j + 1) a b z ha hb]
      have h1 := Nat.mod_lt a z
      rw [show Nat.gcd a b = Nat.gcd b (a % b) by rw [Nat.gcd_comm a b, Nat.gcd_rec b a, Nat.gcd_comm]]
      rcases Nat.eq_zero_or_pos (a % b) with y | y
      · rw [y, Nat.gcd_zero_right]
        exact h.1 _ b
      · rw [h.2 j b (a % b) y hb (by omega)]
        have h2 := Nat.mod_lt b y
        have h3 : b % (a % b) + (a % b) ≤ b := by
          have e := Nat.div_add_mod b (a % b)
          have e2 : 1 ≤ b / (a % b) := (Nat.le_div_iff_mul_le y).mpr (by omega)
          have e3 := Nat.mul_le_mul_left (a % b) e2
          omega
        have h4 : b % (a % b) < 2 ^ c := by rw [Nat.pow_succ] at hc; omega
        rw [euc_run h c j (a % b) (b % (a % b)) (by omega) (by omega) h4 (by omega)]
        rw [show Nat.gcd b (a % b) = Nat.gcd (a % b) (b % (a % b)) by rw [Nat.gcd_comm b, Nat.gcd_rec (a % b) b, Nat.gcd_comm]]
