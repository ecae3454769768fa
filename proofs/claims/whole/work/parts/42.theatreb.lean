section R42
variable {F : Nat} {μ μ' : Mem} {g : Cfg} {m : Mo}
/-- both arrays of the class are laid out -/
theorem C_admits (hF : 5000 ≤ F) (h : VC μ g m) {W : Nat} (p2 : Int32) (k : Int32 → Mem → Option (Int32 × Mem)) : ∃ μ1, Sc μ μ1 ∧ gI μ1 70 3 = nI (gM g) ∧ gI μ1 70 4 = nI W ∧ (∀ q, q < gM g → gI μ1 71 q = nI (wd g m q)) ∧ (f_X6_begin F μ 70 (nI W) (gI μ (gR μ 0 1) 5)).bind (fun μ_3 => f_X8_theatre_L43 F 0 p2 k F 0 μ_3) = k (nI (gM g)) μ1 := by
  obtain ⟨⟨t, ht, ht2, hct⟩, -, hg, -⟩ := id h
  have h5 := hg.2.2.2.1
  have e5 : imin (gI μ (gR μ 0 1) 5) 5 = nI (gM g) := by
    rw [ht, hct.2.2.1]
    exact (imin_nI (b := 5) (by omega) (by decide)).trans (congrArg nI (by omega))
  unfold f_X6_begin
  rw [lt_eq, lt_eq, e5, Option.bind_some]
  obtain ⟨μ1, h1, e1⟩ := for_rel (S := Mem) (f := fun n i s => f_X8_theatre_L43 F 0 p2 k n (nI s) i) (N := gM g) (k := fun s => k (nI (gM g)) s) (fun i s => Sc μ s ∧ gI s 70 3 = nI (gM g) ∧ gI s 70 4 = nI W ∧ ∀ q, q < i → gI s 71 q = nI (wd g m q))
    (fun n i s hi hs => by
      obtain ⟨s1, s2, s3, s4⟩ := hs
      have hC := VC_sc s1 h
      have eM : gI s (gR s 0 1) 5 = nI (gM g) := by obtain ⟨⟨t, ht, _, hc⟩, _⟩ := hC; rw [ht]; exact hc.2.2.1
      refine ⟨sI s 71 i (nI (wd g m i)), ⟨Sc_sI s1 (scr_q (by omega)) _, by rw [gI_sI, if_neg (by omega)]; exact s2, by rw [gI_sI, if_neg (by omega)]; exact s3, fun q hq => ?_⟩, ?_⟩
      · rw [gI_sI]
        by_cases e : q = i
        · rw [if_pos ⟨rfl, e⟩, e]
        · rw [if_neg (by omega)]; exact s4 q (by omega)
      · show f_X8_theatre_L43 F 0 p2 k (n + 1) (nI i) s = _
        rw [f_X8_theatre_L43, eM, if_pos (nI_lt hi (by omega)), C_wide hC hi, Option.bind_some]
        unfold f_X6_admit
        rw [if_neg (nI_pos (by omega)), show gI s (0 + 70) 3 = nI (gM g) from s2, if_pos (nI_lt hi (by omega)), if_pos (ix5 hg hi), lt_eq, cl5 hg hi, Option.bind_some, nI_1])
    (fun n s hs => by
      obtain ⟨s1, s2, s3, s4⟩ := hs
      have hC := VC_sc s1 h
      have eM : gI s (gR s 0 1) 5 = nI (gM g) := by obtain ⟨⟨t, ht, _, hc⟩, _⟩ := hC; rw [ht]; exact hc.2.2.1
      show f_X8_theatre_L43 F 0 p2 k (n + 1) (nI (gM g)) s = _
      rw [f_X8_theatre_L43, eM, if_neg (nI_nlt (Nat.le_refl _) (by omega))])
    (gM g) F 0 (sI (sI μ 70 4 (nI W)) 70 3 (nI (gM g))) (by omega) (by omega)
    ⟨Sc_sI (Sc_sI (Sc_rfl μ) (scr_q (by omega)) _) (scr_q (by omega)) _, by rw [gI_sI, if_pos ⟨rfl, rfl⟩], by rw [gI_sI, if_neg (by omega), gI_sI, if_pos ⟨rfl, rfl⟩], fun q hq => by omega⟩
  exact ⟨μ1, h1.1, h1.2.1, h1.2.2.1, h1.2.2.2, e1⟩
/-! the model's rows of a code -/
theorem nI_dn (k : Nat) : nI k + (-1) = nI k - 1 := (Int32.sub_eq_add_neg _ _).symm
theorem M_decode (x2 : Int32) (kont : Int32 → Int32 → Mem → Option (Int32 × Mem)) : ∀ (k n v : Nat) (μ : Mem), k ≤ 5 → v < 2 ^ 31 → k < n → ∃ a b μ1, f_X9_rowsOf_L12 F 166 x2 kont n (nI v) (nI k - 1) μ = kont a b μ1 ∧ Sc μ μ1 ∧ (∀ p, p < k → gI μ1 181 p = nI (v / 5 ^ (k - 1 - p) % 5) ∧ gI μ1 182 p = 0) ∧ ∀ p, k ≤ p → gI μ1 181 p = gI μ 181 p ∧ gI μ1 182 p = gI μ 182 p
  | 0, n, v, μ, hk, hv, hn => by
    obtain ⟨n, rfl⟩ : ∃ j, n = j + 1 := ⟨n - 1, by omega⟩
    rw [f_X9_rowsOf_L12, if_pos (show nI 0 - 1 < 0 by decide)]
    exact ⟨_, _, μ, rfl, Sc_rfl μ, fun p hp => by omega, fun p _ => ⟨rfl, rfl⟩⟩
  | k + 1, n, v, μ, hk, hv, hn => by
    obtain ⟨n, rfl⟩ : ∃ j, n = j + 1 := ⟨n - 1, by omega⟩
    have j1 : ix (nI k) 5 = true := nI_ix (by omega) (by decide)
    have j2 : (nI k).toNatClampNeg = k := nI_clamp (by omega)
    have hm : nI v - nI v / 5 * 5 = nI (v % 5) := nI_mod (b := 5) hv (by decide)
    rw [f_X9_rowsOf_L12, nI_pred, if_neg (nI_pos (by omega)), if_pos j1, lt_eq, if_pos j1, lt_eq, j2, hm, d5_ok hv, nI_dn]
    obtain ⟨a, b, μ1, e1, s1, r1, r2⟩ := M_decode x2 kont k n (v / 5) (sI (sI μ 181 k (nI (v % 5))) 182 k 0) (by omega) (by omega) (by omega)
    refine ⟨a, b, μ1, e1, Sc_tr (Sc_sI (Sc_sI (Sc_rfl μ) (scr_q (by omega)) _) (scr_q (by omega)) _) s1, fun p hp => ?_, fun p hp => ?_⟩
    · by_cases e : p = k
      · subst e
        have := r2 p (Nat.le_refl _)
        rw [this.1, this.2, gI_sI, gI_sI, gI_sI, if_neg (by omega), if_pos ⟨rfl, rfl⟩, if_pos ⟨rfl, rfl⟩]
        rw [show p + 1 - 1 - p = 0 by omega, Nat.pow_zero, Nat.div_one]
        exact ⟨rfl, rfl⟩
      · have := r1 p (by omega)
        rw [this.1, this.2]
        refine ⟨?_, rfl⟩
        rw [Nat.div_div_eq_div_mul, show k + 1 - 1 - p = k - 1 - p + 1 by omega, Nat.pow_succ, Nat.mul_comm]
    · have := r2 p (by omega)
      rw [this.1, this.2, gI_sI, gI_sI, gI_sI, gI_sI, if_neg (by omega), if_neg (by omega), if_neg (by omega), if_neg (by omega)]
      exact ⟨rfl, rfl⟩
def encZ : Option Nat → Int32
  | none => -9
  | some n => nI n
theorem M_seats (hF : 5000 ≤ F) (h : VM μ g m) {W : Nat} (hW : W ≤ 99) : ∀ (k n p used c : Nat) (sat : Nat → Nat) (μ1 : Mem), p + k = gM g → k < n → used ≤ p → c < 5 ^ k → Sc μ μ1 → (∀ j, j < k → gI μ1 181 (p + j) = nI (dg k c j)) → (∀ r, r < p + k → sat r ≤ 1000 * p ∧ gI μ1 182 r = nI (sat r)) → ∃ μ2, f_X9_rowsOf_L51 F 166 (nI W) (fun x4_14 x5_15 μ_16 => some (x4_14, μ_16)) n (nI used) (nI p) μ1 = some (encZ (val W (wd g m) (gM g) k used sat c), μ2) ∧ Sc μ μ2 ∧ ∀ j, gI μ2 181 j = gI μ1 181 j
  | 0, n, p, used, c, sat, μ1, hp, hn, hu, hc, hs, hrow, hsat => by
    obtain ⟨n, rfl⟩ : ∃ j, n = j + 1 := ⟨n - 1, by omega⟩
    have hg := h.2.2.1
    have h5 := hg.2.2.2.1
    have eM : gI μ1 (166 + 7) 0 = nI (gM g) := (VM_sc hs h).1.2.2.1
    rw [f_X9_rowsOf_L51, eM, if_neg (nI_nlt (by omega) (by omega))]
    exact ⟨μ1, rfl, hs, fun _ => rfl⟩
  | k + 1, n, p, used, c, sat, μ1, hp, hn, hu, hc, hs, hrow, hsat => by
    obtain ⟨n, rfl⟩ : ∃ j, n = j + 1 := ⟨n - 1, by omega⟩
    have hg := h.2.2.1
    have h5 := hg.2.2.2.1
    have hM1 := VM_sc hs h
    have eM : gI μ1 (166 + 7) 0 = nI (gM g) := hM1.1.2.2.1
    have hk0 : 0 < 5 ^ k := Nat.pow_pos (by decide)
    have e0 : gI μ1 (166 + 15) p = nI (c / 5 ^ k) := by have := hrow 0 (by omega); exact this
    have ht5 : c / 5 ^ k < 5 := by
      rw [Nat.div_lt_iff_lt_mul hk0]
      rw [Nat.pow_succ] at hc; omega
    have hwp := wd_le hg h.2.2.2 (show p < gM g by omega)
    have hPk : gM g - (k + 1) = p := by omega
    have k1 : ix (nI p) 5 = true := nI_ix (by omega) (by decide)
    have k2 : (nI p).toNatClampNeg = p := nI_clamp (by omega)
    rw [f_X9_rowsOf_L51, eM, if_pos (nI_lt (by omega) (by omega)), if_pos k1, k2, e0, val]
    rw [hPk]
    generalize htt : c / 5 ^ k = t at ht5 ⊢
    have j1 : ix (nI t) 5 = true := nI_ix (by omega) (by decide)
    have j2 : (nI t).toNatClampNeg = t := nI_clamp (by omega)
    by_cases hut : used < t
    · rw [if_pos (nI_lt hut (by omega)), if_neg (by omega)]
      exact ⟨μ1, rfl, hs, fun _ => rfl⟩
    · rw [if_neg (nI_nlt (by omega) (by omega))]
      have hst := hsat t (by omega)
      have e182 : gI μ1 (166 + 16) t = nI (sat t) := hst.2
      have e0b : gI (sI μ1 (166 + 16) t (nI (sat t + wd g m p))) (166 + 15) p = nI t := by rw [gI_sI, if_neg (by omega), e0, htt]
      have e182b : gI (sI μ1 (166 + 16) t (nI (sat t + wd g m p))) (166 + 16) t = nI (sat t + wd g m p) := by rw [gI_sI, if_pos ⟨rfl, rfl⟩]
      simp only [k1, j1, j2, if_true, M_wide hM1 (show p < gM g by omega), Option.bind_some, e182, nI_add, lt_eq, e0b, e182b, nI_1]
      have hs2 : Sc μ (sI μ1 (166 + 16) t (nI (sat t + wd g m p))) := Sc_sI hs (scr_q (by omega)) _
      have hrec := fun used' (hu' : used' ≤ p + 1) => M_seats hF h hW k n (p + 1) used' (c % 5 ^ k) (upn sat t (sat t + wd g m p)) (sI μ1 (166 + 16) t (nI (sat t + wd g m p))) (by omega) (by omega) hu' (Nat.mod_lt _ hk0) hs2 (fun j hj => by
          rw [gI_sI, if_neg (by omega)]
          have := hrow (j + 1) (by omega)
          rw [show p + 1 + j = p + (j + 1) by omega]
          exact this) (fun r hr => by
          rw [gI_sI]
          unfold upn
          by_cases e : r = t
          · subst e
            rw [if_pos rfl, if_pos ⟨rfl, rfl⟩]
            exact ⟨by omega, rfl⟩
          · rw [if_neg e, if_neg (by omega)]
            have := hsat r (by omega)
            exact ⟨by omega, this.2⟩)
      simp (disch := omega) only [nI_eq, nI_ltI]
      by_cases hov : W < sat t + wd g m p
      · simp only [hov, if_true, ite_self]
        rw [if_neg (by omega)]
        exact ⟨_, rfl, hs2, fun j => by rw [gI_sI, if_neg (by omega)]⟩
      · rw [if_pos (show t ≤ used ∧ sat t + wd g m p ≤ W by omega)]
        simp only [hov, if_false]
        by_cases etu : t = used
        · rw [if_pos etu]
          obtain ⟨μ2, r1, r2, r3⟩ := hrec (used + 1) (by omega)
          refine ⟨μ2, ?_, r2, fun j => by rw [r3 j, gI_sI, if_neg (by omega)]⟩
          rw [r1, show max used (t + 1) = used + 1 by omega]
        · rw [if_neg etu]
          obtain ⟨μ2, r1, r2, r3⟩ := hrec used (by omega)
          refine ⟨μ2, ?_, r2, fun j => by rw [r3 j, gI_sI, if_neg (by omega)]⟩
          rw [r1, show max used (t + 1) = used by omega]
theorem M_rowsOf (hF : 5000 ≤ F) (h : VM μ g m) {W c : Nat} (hW : W ≤ 99) (hc : c < 5 ^ gM g) : ∃ μ2, f_X9_rowsOf F μ 166 (nI c) (nI W) = some (encZ (Zv W (wd g m) (gM g) c), μ2) ∧ Sc μ μ2 ∧ ∀ j, j < gM g → gI μ2 181 j = nI (dg (gM g) c j) := by
  have hg := h.2.2.1
  have h5 := hg.2.2.2.1
  have eM : gI μ (166 + 7) 0 = nI (gM g) := h.1.2.2.1
  have h55 : 5 ^ gM g ≤ 5 ^ 5 := Nat.pow_le_pow_right (by decide) h5
  have hc2 : c < 3126 := by omega
  unfold f_X9_rowsOf
  rw [eM]
  obtain ⟨a, b, μ1, e1, s1, r1, -⟩ := M_decode (F := F) (nI W) (fun x3_3 x4_4 μ_5 => f_X9_rowsOf_L51 F 166 (nI W) (fun x4_14 x5_15 μ_16 => some (x4_14, μ_16)) F 0 0 μ_5) (gM g) F c μ h5 (by omega) (by omega)
  rw [e1]
  have hrow : ∀ j, j < gM g → gI μ1 181 (0 + j) = nI (dg (gM g) c j) := fun j hj => by
    rw [Nat.zero_add, (r1 j hj).1, dg_eq (gM g) c j hj hc]
  obtain ⟨μ2, e2, s2, r2⟩ := M_seats hF h hW (gM g) F 0 0 c (fun _ => 0) μ1 (by omega) (by omega) (by omega) hc s1 hrow (fun r hr => ⟨Nat.zero_le _, (r1 r (by omega)).2⟩)
  refine ⟨μ2, e2, s2, fun j hj => ?_⟩
  rw [r2 j, ← hrow j hj, Nat.zero_add]
end R42
