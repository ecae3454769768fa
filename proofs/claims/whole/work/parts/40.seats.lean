/-! the theatre: seatings as codes, a digit of five a person -/
section SEAT
variable {W P : Nat} {wd' : Nat → Nat}
def val (W : Nat) (wd' : Nat → Nat) (P : Nat) : Nat → Nat → (Nat → Nat) → Nat → Option Nat
  | 0, used, _, _ => some used
  | k + 1, used, sat, c => if c / 5 ^ k ≤ used ∧ sat (c / 5 ^ k) + wd' (P - (k + 1)) ≤ W then val W wd' P k (max used (c / 5 ^ k + 1)) (upn sat (c / 5 ^ k) (sat (c / 5 ^ k) + wd' (P - (k + 1)))) (c % 5 ^ k) else none
theorem val_ge : ∀ (k used : Nat) (sat : Nat → Nat) (c n : Nat), val W wd' P k used sat c = some n → used ≤ n ∧ n ≤ used + k
  | 0, used, sat, c, n, h => by
    have : used = n := Option.some.inj h
    omega
  | k + 1, used, sat, c, n, h => by
    rw [val] at h
    by_cases e : c / 5 ^ k ≤ used ∧ sat (c / 5 ^ k) + wd' (P - (k + 1)) ≤ W
    · rw [if_pos e] at h
      have := val_ge k _ _ _ n h
      omega
    · rw [if_neg e] at h; cases h
def gd (W : Nat) (wd' : Nat → Nat) (P rows k used : Nat) (sat : Nat → Nat) (c : Nat) : Prop := ∃ n, val W wd' P k used sat c = some n ∧ n ≤ rows
theorem top_div {k t c : Nat} (hc : c < 5 ^ k) : (t * 5 ^ k + c) / 5 ^ k = t ∧ (t * 5 ^ k + c) % 5 ^ k = c := by
  have h0 : 0 < 5 ^ k := by omega
  constructor
  · rw [Nat.add_comm, Nat.add_mul_div_right _ _ h0, Nat.div_eq_of_lt hc, Nat.zero_add]
  · rw [Nat.add_comm, Nat.add_mul_mod_self_right, Nat.mod_eq_of_lt hc]
theorem gd_top {rows k used t c : Nat} {sat : Nat → Nat} (hc : c < 5 ^ k) : gd W wd' P rows (k + 1) used sat (t * 5 ^ k + c) ↔ t ≤ used ∧ sat t + wd' (P - (k + 1)) ≤ W ∧ gd W wd' P rows k (max used (t + 1)) (upn sat t (sat t + wd' (P - (k + 1)))) c := by
  obtain ⟨h1, h2⟩ := top_div (t := t) hc
  unfold gd
  rw [val, h1, h2]
  by_cases e : t ≤ used ∧ sat t + wd' (P - (k + 1)) ≤ W
  · rw [if_pos e]
    exact ⟨fun h => ⟨e.1, e.2, h⟩, fun h => h.2.2⟩
  · rw [if_neg e]
    exact ⟨fun h => (by obtain ⟨n, h, _⟩ := h; cases h), fun h => absurd ⟨h.1, h.2.1⟩ e⟩
def dg : Nat → Nat → Nat → Nat
  | 0, _, _ => 0
  | k + 1, c, 0 => c / 5 ^ k
  | k + 1, c, j + 1 => dg k (c % 5 ^ k) j
theorem dg_eq : ∀ (k c j : Nat), j < k → c < 5 ^ k → dg k c j = c / 5 ^ (k - 1 - j) % 5
  | 0, c, j, h, _ => by omega
  | k + 1, c, 0, _, hc => by
    show c / 5 ^ k = c / 5 ^ k % 5
    rw [Nat.mod_eq_of_lt]
    rw [Nat.div_lt_iff_lt_mul (Nat.pow_pos (by decide))]
    rw [Nat.pow_succ] at hc; omega
  | k + 1, c, j + 1, hj, hc => by
    show dg k (c % 5 ^ k) j = _
    rw [dg_eq k _ j (by omega) (Nat.mod_lt _ (Nat.pow_pos (by decide)))]
    have e : k + 1 - 1 - (j + 1) = k - 1 - j := by omega
    rw [e]
    obtain ⟨d, hd⟩ : ∃ d, k = (k - 1 - j) + (d + 1) := ⟨j, by omega⟩
    have h2 : 5 ^ k = 5 ^ (k - 1 - j) * 5 ^ (d + 1) := by rw [← Nat.pow_add, ← hd]
    rw [h2, Nat.mod_mul_right_div_self]
    exact Nat.mod_mod_of_dvd _ ⟨5 ^ d, by rw [Nat.pow_succ, Nat.mul_comm]⟩
end SEAT
theorem imax_nI {a b : Nat} (ha : a < 2 ^ 31) (hb : b < 2 ^ 31) : imax (nI a) (nI b) = nI (max a b) := by
  unfold imax
  by_cases h : a < b
  · rw [if_pos (nI_lt h hb), Nat.max_eq_right (by omega)]
  · rw [if_neg (nI_nlt (by omega) ha), Nat.max_eq_left (by omega)]
/-- rows and rooms alone differ -/
def Fq (μ μ' : Mem) : Prop := (∀ q j, gR μ' q j = gR μ q j) ∧ (∀ q, gL μ' q = gL μ q) ∧ ∀ q j, q ≠ 72 → q ≠ 73 → gI μ' q j = gI μ q j
theorem Fq_rfl (μ : Mem) : Fq μ μ := ⟨fun _ _ => rfl, fun _ => rfl, fun _ _ _ _ => rfl⟩
theorem Fq_tr {μ μ1 μ2 : Mem} (h1 : Fq μ μ1) (h2 : Fq μ1 μ2) : Fq μ μ2 := ⟨fun q j => (h2.1 q j).trans (h1.1 q j), fun q => (h2.2.1 q).trans (h1.2.1 q), fun q j a b => (h2.2.2 q j a b).trans (h1.2.2 q j a b)⟩
theorem Fq_sI {μ μ1 : Mem} (h : Fq μ μ1) {q : Nat} (hq : q = 72 ∨ q = 73) (j : Nat) (x : Int32) : Fq μ (sI μ1 q j x) := ⟨fun a i => (gR_sI _ _ _ _ _ _).trans (h.1 a i), fun a => (gL_sI _ _ _ _ _).trans (h.2.1 a), fun a i h1 h2 => by
  rw [gI_sI, if_neg (by omega)]
  exact h.2.2 a i h1 h2⟩
theorem Fq_sc {μ μ' : Mem} (h : Fq μ μ') : Sc μ μ' := ⟨h.1, h.2.1, fun q j hs => h.2.2 q j (fun e => by rw [e, scr_q (by omega)] at hs; cases hs) (fun e => by rw [e, scr_q (by omega)] at hs; cases hs)⟩
section R40
variable {F W P rows : Nat} {wd' : Nat → Nat}
/-- what a try for seats comes to -/
def Tri (W : Nat) (wd' : Nat → Nat) (P rows : Nat) (μ : Mem) (k p used : Nat) (sat : Nat → Nat) (o : Option (Int32 × Mem)) : Prop := ∃ v μ', o = some (v, μ') ∧ Fq μ μ' ∧ (∀ j, j < p → gI μ' 72 j = gI μ 72 j) ∧
  ((v = 0 ∧ (∀ r, r < rows → gI μ' 73 r = gI μ 73 r) ∧ ∀ c, c < 5 ^ k → ¬ gd W wd' P rows k used sat c) ∨
   (v = 1 ∧ ∃ c, c < 5 ^ k ∧ gd W wd' P rows k used sat c ∧ (∀ c', c' < c → ¬ gd W wd' P rows k used sat c') ∧ ∀ j, j < k → gI μ' 72 (p + j) = nI (dg k c j)))
def Rms (W rows : Nat) (sat : Nat → Nat) (μ : Mem) : Prop := ∀ r, r < rows → sat r ≤ W ∧ gI μ 73 r = nI (W - sat r)
theorem seat_loop (hF : 5000 ≤ F) (hP : P ≤ 5) (hR : rows ≤ P) (hW : W ≤ 99) (hwd : ∀ p, p < P → wd' p ≤ 27) {k p used : Nat} {sat : Nat → Nat} (hp : p + (k + 1) = P) (hu : used ≤ p) (hur : used ≤ rows) {rec : Mem → Nat → Int32 → Int32 → Int32 → Option (Int32 × Mem)}
    (hrec : ∀ (μ : Mem) (used' : Nat) (sat' : Nat → Nat), used' ≤ p + 1 → used' ≤ rows → gI μ 70 3 = nI P → (∀ q, q < P → gI μ 71 q = nI (wd' q)) → Rms W rows sat' μ → Tri W wd' P rows μ k (p + 1) used' sat' (rec μ 70 (nI (p + 1)) (nI used') (nI rows)))
    {μ : Mem} (h3 : gI μ 70 3 = nI P) (hwid : ∀ q, q < P → gI μ 71 q = nI (wd' q)) (hrm : Rms W rows sat μ) :
    ∀ (d n t : Nat) (μ' : Mem), t + d = used + 1 → d < n → Fq μ μ' → (∀ j, j < p → gI μ' 72 j = gI μ 72 j) → (∀ r, r < rows → gI μ' 73 r = gI μ 73 r) → (∀ c, c < t * 5 ^ k → ¬ gd W wd' P rows (k + 1) used sat c) → Tri W wd' P rows μ (k + 1) p used sat (f_X6_seat_L21 F rec 70 (nI p) (nI used) (nI rows) (nI (wd' p)) (fun x5_7 μ_8 => some (0, μ_8)) n (nI t) μ') := by
  have hk0 : 0 < 5 ^ k := Nat.pow_pos (by decide)
  have fin : ∀ (t : Nat) (μ' : Mem), (used < t ∨ rows ≤ t) → Fq μ μ' → (∀ j, j < p → gI μ' 72 j = gI μ 72 j) → (∀ r, r < rows → gI μ' 73 r = gI μ 73 r) → (∀ c, c < t * 5 ^ k → ¬ gd W wd' P rows (k + 1) used sat c) → Tri W wd' P rows μ (k + 1) p used sat (some (0, μ')) := fun t μ' ht hf hr hm hn => by
    refine ⟨0, μ', rfl, hf, hr, Or.inl ⟨rfl, hm, fun c hc => ?_⟩⟩
    by_cases e : c < t * 5 ^ k
    · exact hn c e
    · intro hg
      have hdm := Nat.div_add_mod c (5 ^ k)
      have hge : t ≤ c / 5 ^ k := (Nat.le_div_iff_mul_le hk0).mpr (by omega)
      rw [show c = c / 5 ^ k * 5 ^ k + c % 5 ^ k by rw [Nat.mul_comm]; exact hdm.symm] at hg
      rw [gd_top (Nat.mod_lt _ hk0)] at hg
      obtain ⟨a1, a2, nn, a3, a4⟩ := hg
      have := val_ge k _ _ _ _ a3
      omega
  intro d
  induction d with
  | zero =>
    intro n t μ' hd hn hf hr hm hno
    obtain ⟨n, rfl⟩ : ∃ j, n = j + 1 := ⟨n - 1, by omega⟩
    rw [f_X6_seat_L21, if_pos (nI_lt (by omega) (by omega))]
    exact fin t μ' (by omega) hf hr hm hno
  | succ d ih =>
    intro n t μ' hd hn hf hr hm hno
    obtain ⟨n, rfl⟩ : ∃ j, n = j + 1 := ⟨n - 1, by omega⟩
    rw [f_X6_seat_L21, if_neg (nI_nlt (by omega) (by omega))]
    by_cases htr : t < rows
    · have j1 : ix (nI t) 5 = true := nI_ix (by omega) (by decide)
      have j2 : (nI t).toNatClampNeg = t := nI_clamp (by omega)
      have k1 : ix (nI p) 5 = true := nI_ix (by omega) (by decide)
      have k2 : (nI p).toNatClampNeg = p := nI_clamp (by omega)
      have hsat := hrm t htr
      have e73 : gI μ' 73 t = nI (W - sat t) := (hm t htr).trans hsat.2
      have hwp := hwd p (by omega)
      have hPk : P - (k + 1) = p := by omega
      have hsplit : ∀ c, c < (t + 1) * 5 ^ k → ¬ c < t * 5 ^ k → ∃ c', c' < 5 ^ k ∧ c = t * 5 ^ k + c' := fun c h1 h2 => by
        have : (t + 1) * 5 ^ k = t * 5 ^ k + 5 ^ k := Nat.succ_mul _ _
        exact ⟨c - t * 5 ^ k, by omega, by omega⟩
      rw [if_pos (nI_lt htr (by omega))]
      simp only [j1, j2, k1, k2, if_true, lt_eq, show (70 + 3 : Nat) = 73 from rfl, show (70 + 2 : Nat) = 72 from rfl, e73, nI_1]
      by_cases hfit : W - sat t < wd' p
      · rw [if_pos (nI_lt hfit (by omega))]
        refine ih n (t + 1) μ' (by omega) (by omega) hf hr hm (fun c hc => ?_)
        by_cases e : c < t * 5 ^ k
        · exact hno c e
        · obtain ⟨c', h1, rfl⟩ := hsplit c hc e
          rw [gd_top h1, hPk]
          intro z; omega
      · rw [if_neg (nI_nlt (by omega) (by omega))]
        have e73b : gI (sI μ' 72 p (nI t)) 73 t = nI (W - sat t) := by rw [gI_sI, if_neg (by omega)]; exact e73
        rw [e73b, nI_sub (by omega), imax_nI (by omega) (by omega)]
        have hf2 : Fq μ (sI (sI μ' 72 p (nI t)) 73 t (nI (W - sat t - wd' p))) := Fq_sI (Fq_sI hf (Or.inl rfl) _ _) (Or.inr rfl) _ _
        obtain ⟨v, μ4, e4, f4, r4, hcase⟩ := hrec (sI (sI μ' 72 p (nI t)) 73 t (nI (W - sat t - wd' p))) (max used (t + 1)) (upn sat t (sat t + wd' p)) (by omega) (by omega) ((hf2.2.2 70 3 (by omega) (by omega)).trans h3) (fun q hq => (hf2.2.2 71 q (by omega) (by omega)).trans (hwid q hq)) (fun r hr2 => by
          rw [gI_sI, gI_sI]
          unfold upn
          by_cases e : r = t
          · subst e
            rw [if_pos rfl, if_pos ⟨rfl, rfl⟩]
            exact ⟨by omega, congrArg nI (by omega)⟩
          · rw [if_neg e, if_neg (by omega), if_neg (by omega)]
            exact ⟨(hrm r hr2).1, (hm r hr2).trans (hrm r hr2).2⟩)
        have f5 := Fq_tr hf2 f4
        have r5 : ∀ j, j < p → gI μ4 72 j = gI μ 72 j := fun j hj => by
          rw [r4 j (by omega), gI_sI, gI_sI, if_neg (by omega), if_neg (by omega)]
          exact hr j hj
        rw [e4, bW_some]
        rcases hcase with ⟨hv, m4, n4⟩ | ⟨hv, c', c1, c2, c3, c4⟩
        · subst hv
          rw [if_pos rfl]
          have e4t : gI μ4 73 t = nI (W - sat t - wd' p) := by rw [m4 t htr, gI_sI, if_pos ⟨rfl, rfl⟩]
          rw [e4t, nI_add, show W - sat t - wd' p + wd' p = W - sat t by omega]
          refine ih n (t + 1) _ (by omega) (by omega) (Fq_sI f5 (Or.inr rfl) _ _) (fun j hj => by rw [gI_sI, if_neg (by omega)]; exact r5 j hj) (fun r hr2 => ?_) (fun c hc => ?_)
          · rw [gI_sI]
            by_cases e : r = t
            · subst e
              rw [if_pos ⟨rfl, rfl⟩]; exact hsat.2.symm
            · rw [if_neg (by omega), m4 r hr2, gI_sI, gI_sI, if_neg (by omega), if_neg (by omega)]
              exact hm r hr2
          · by_cases e : c < t * 5 ^ k
            · exact hno c e
            · obtain ⟨c', h1, rfl⟩ := hsplit c hc e
              rw [gd_top h1, hPk]
              exact fun z => n4 c' h1 z.2.2
        · subst hv
          rw [if_neg (by decide)]
          refine ⟨1, μ4, rfl, f5, r5, Or.inr ⟨rfl, t * 5 ^ k + c', ?_, ?_, ?_, ?_⟩⟩
          · have h1 : (t + 1) * 5 ^ k = t * 5 ^ k + 5 ^ k := Nat.succ_mul _ _
            have h2 : (t + 1) * 5 ^ k ≤ 5 * 5 ^ k := Nat.mul_le_mul_right _ (by omega)
            rw [Nat.pow_succ]; omega
          · rw [gd_top c1, hPk]
            exact ⟨by omega, by omega, c2⟩
          · intro c hc
            by_cases e : c < t * 5 ^ k
            · exact hno c e
            · have h1 : (t + 1) * 5 ^ k = t * 5 ^ k + 5 ^ k := Nat.succ_mul _ _
              obtain ⟨c2', h2, rfl⟩ := hsplit c (by omega) e
              rw [gd_top h2, hPk]
              exact fun z => c3 c2' (by omega) z.2.2
          · intro j hj
            obtain ⟨d1, d2⟩ := top_div (t := t) c1
            cases j with
            | zero =>
              show gI μ4 72 p = nI ((t * 5 ^ k + c') / 5 ^ k)
              rw [d1, r4 p (by omega), gI_sI, gI_sI, if_neg (by omega), if_pos ⟨rfl, rfl⟩]
            | succ j =>
              show gI μ4 72 (p + (j + 1)) = nI (dg k ((t * 5 ^ k + c') % 5 ^ k) j)
              rw [d2, ← c4 j (by omega), show p + (j + 1) = p + 1 + j by omega]
    · rw [if_neg (nI_nlt (by omega) (by omega))]
      exact fin t μ' (by omega) hf hr hm hno
theorem seat_ok (hF : 5000 ≤ F) (hP : P ≤ 5) (hR : rows ≤ P) (hW : W ≤ 99) (hwd : ∀ p, p < P → wd' p ≤ 27) : ∀ (k n p used : Nat) (sat : Nat → Nat) (μ : Mem), p + k = P → k < n → used ≤ p → gI μ 70 3 = nI P → (∀ q, q < P → gI μ 71 q = nI (wd' q)) → Rms W rows sat μ → used ≤ rows → Tri W wd' P rows μ k p used sat (f_X6_seatR F n μ 70 (nI p) (nI used) (nI rows))
  | 0, n, p, used, sat, μ, hp, hn, hu, h3, hwid, hrm, hur => by
    obtain ⟨n, rfl⟩ : ∃ j, n = j + 1 := ⟨n - 1, by omega⟩
    rw [f_X6_seatR, lt_eq, h3, if_neg (nI_nlt (by omega) (by omega))]
    exact ⟨1, μ, rfl, Fq_rfl μ, fun _ _ => rfl, Or.inr ⟨rfl, 0, by decide, ⟨used, rfl, hur⟩, fun c hc => by omega, fun j hj => by omega⟩⟩
  | k + 1, n, p, used, sat, μ, hp, hn, hu, h3, hwid, hrm, hur => by
    obtain ⟨n, rfl⟩ : ∃ j, n = j + 1 := ⟨n - 1, by omega⟩
    have k1 : ix (nI p) 5 = true := nI_ix (by omega) (by decide)
    have k2 : (nI p).toNatClampNeg = p := nI_clamp (by omega)
    rw [f_X6_seatR, lt_eq, h3, if_pos (nI_lt (by omega) (by omega)), if_pos k1, k2, show (70 + 1 : Nat) = 71 from rfl, hwid p (by omega)]
    exact seat_loop hF hP hR hW hwd hp hu hur (fun μ' used' sat' a1 a2 a3 a4 a5 => seat_ok hF hP hR hW hwd k n (p + 1) used' sat' μ' (by omega) (by omega) a1 a3 a4 a5 a2) h3 hwid hrm (used + 1) F 0 μ (by omega) (by omega) (Fq_rfl μ) (fun _ _ => rfl) (fun _ _ => rfl) (fun c hc => by omega)
end R40
