section R38
variable {F : Nat} {μ : Mem} {g : Cfg} {m : Mo}
theorem power_ok (hF : 5000 ≤ F) (b : Nat) {e : Nat} (he : e ≤ 8) : f_X8_power F μ (nI b) (nI e) = some (nI (b ^ e)) := by
  have h := for_run (S := Nat) (f := fun n s i => f_X8_power_L4 F μ (nI b) (nI e) (fun x2_1 x3_2 => some x2_1) n (nI s) (nI i)) (N := e) (step := fun i s => s * b) (k := fun s => some (nI s)) (fun i s => s = b ^ i)
    (fun n s i hi hs => by
      show f_X8_power_L4 F μ (nI b) (nI e) _ (n + 1) (nI s) (nI i) = _
      rw [f_X8_power_L4, if_pos (nI_lt hi (by omega)), nI_mul, nI_1])
    (fun i s hi hs => by show s * b = b ^ (i + 1); rw [hs, Nat.pow_succ])
    (fun n s hs => by
      show f_X8_power_L4 F μ (nI b) (nI e) _ (n + 1) (nI s) (nI e) = _
      rw [f_X8_power_L4, if_neg (nI_nlt (Nat.le_refl _) (by omega))])
    e F 0 1 (by omega) (by omega) rfl
  have h2 := fr_inv (step := fun _ s => s * b) (N := e) (fun i s => s = b ^ i) (fun i s hi hs => by show s * b = b ^ (i + 1); rw [hs, Nat.pow_succ]) e 0 1 (by omega) rfl
  rw [Nat.zero_add] at h2
  rw [h2] at h
  exact h
theorem out_mask {o : Nat} (ho : o < 256) (L : Nat) : nI o &&& (nI L ^^^ (-1)) = nI (msk (fun i => o.testBit i && !L.testBit i) 8) := by
  apply Int32.toBitVec_inj.1
  show BitVec.ofNat 32 o &&& (BitVec.ofNat 32 L ^^^ (-1 : Int32).toBitVec) = BitVec.ofNat 32 (msk (fun i => o.testBit i && !L.testBit i) 8)
  rw [show (-1 : Int32).toBitVec = BitVec.allOnes 32 by decide +kernel]
  apply BitVec.eq_of_getLsbD_eq
  intro i hi
  rw [BitVec.getLsbD_and, BitVec.getLsbD_xor, BitVec.getLsbD_ofNat, BitVec.getLsbD_ofNat, BitVec.getLsbD_ofNat, BitVec.getLsbD_allOnes, msk_bit]
  by_cases h8 : i < 8
  · simp [hi, h8]
  · have : o.testBit i = false := Nat.testBit_lt_two_pow (Nat.lt_of_lt_of_le ho (Nat.pow_le_pow_right (n := 2) (i := 8) (by decide) (by omega)))
    simp [this]
theorem msk_zero {f : Nat → Bool} : ∀ {n : Nat}, msk f n = 0 ↔ ∀ l, l < n → f l = false
  | 0 => by simp [msk]
  | n + 1 => by
    have h := msk_zero (f := f) (n := n)
    rw [msk]
    have hp : 0 < 2 ^ n := Nat.pow_pos (by decide)
    constructor
    · intro e l hl
      by_cases hn : f n = true
      · rw [if_pos hn] at e; omega
      · rw [if_neg hn, Nat.add_zero] at e
        by_cases hln : l = n
        · subst hln; simpa using hn
        · exact h.mp e l (by omega)
    · intro e
      rw [if_neg (by rw [e n (by omega)]; decide), h.mpr (fun l hl => e l (by omega))]
theorem okU_iff {pa : Nat → Bool} {o : Nat} : ∀ {n : Nat}, okU pa o n = true ↔ ∀ l, l < n → (o.testBit l && !pa l) = false
  | 0 => by simp [okU]
  | n + 1 => by
    rw [okU, Bool.and_eq_true, okU_iff]
    constructor
    · intro ⟨h1, h2⟩ l hl
      by_cases e : l = n
      · subst e
        cases hh : (o.testBit l && !pa l)
        · rfl
        · rw [hh] at h2; cases h2
      · exact h1 l (by omega)
    · intro h
      exact ⟨fun l hl => h l (by omega), by rw [h n (by omega)]; rfl⟩
theorem okV_iff {cl : Nat → Bool} {s : Nat} : ∀ {n : Nat}, okV cl s n = true ↔ ∀ l, l < n → (s.testBit l && cl l) = false
  | 0 => by simp [okV]
  | n + 1 => by
    rw [okV, Bool.and_eq_true, okV_iff]
    constructor
    · intro ⟨h1, h2⟩ l hl
      by_cases e : l = n
      · subst e
        cases hh : (s.testBit l && cl l)
        · rfl
        · rw [hh] at h2; cases h2
      · exact h1 l (by omega)
    · intro h
      exact ⟨fun l hl => h l (by omega), by rw [h n (by omega)]; rfl⟩
theorem pc_cnt : ∀ n, n < 9 → ∀ o, o < 2 ^ n → pc8 o = cnt (fun l => o.testBit l) n := by decide +kernel
def fe (g : Cfg) (a b o : Nat) : Nat := if rs g (fun l => o.testBit l) a b = true then 1 else 0
theorem fe_le (a b o : Nat) : fe g a b o ≤ 1 := by unfold fe; split <;> omega
theorem lt256 (hg : OkG g) {s : Nat} (h : s < 2 ^ gN g) : s < 256 := Nat.lt_of_lt_of_le h (Nat.pow_le_pow_right (n := 2) (j := 8) (by decide) hg.2.2.1)
theorem C_fav (hF : 5000 ≤ F) (h : VC μ g m) (pa : Nat → Bool) {a b x : Nat} (ha : a < gP g) (hb : b < gP g) (hx : x ≤ 10) : f_X8_favourable F μ 0 (nI (msk pa (gN g))) (nI a) (nI b) (nI x) = some (nI (SU pa x (gN g) (fe g a b))) := by
  have hg := h.2.2.1
  have h8 := hg.2.2.1
  have eN : gI μ (gR μ 0 1) 1 = nI (gN g) := by obtain ⟨⟨t, ht, _, hc⟩, _⟩ := h; rw [ht]; exact hc.2.1
  have hpw : 2 ^ gN g ≤ 256 := Nat.pow_le_pow_right (n := 2) (j := 8) (by decide) h8
  have hL := msk8 hg pa
  have hLn := msk_lt pa (gN g)
  rw [← sumU, ← sumTo_fr]
  exact for_run (S := Nat) (f := fun n s i => f_X8_favourable_L6 F μ 0 (nI (msk pa (gN g))) (nI a) (nI b) (nI x) (fun x5_18 x6_19 => some x5_18) n (nI s) (nI i)) (N := 2 ^ gN g) (step := fun i s => s + wU pa x (gN g) (fe g a b) i) (k := fun s => some (nI s)) (fun _ _ => True)
    (fun n s i hi _ => by
      have hi8 : i < 256 := by omega
      show f_X8_favourable_L6 F μ 0 (nI (msk pa (gN g))) (nI a) (nI b) (nI x) _ (n + 1) (nI s) (nI i) = f_X8_favourable_L6 F μ 0 (nI (msk pa (gN g))) (nI a) (nI b) (nI x) _ n (nI (s + wU pa x (gN g) (fe g a b) i)) (nI (i + 1))
      rw [f_X8_favourable_L6, eN, one_shl _ (by omega), if_pos (nI_lt hi (by omega)), out_mask hi8]
      rw [nI_1]
      have hz : (nI (msk (fun l => i.testBit l && !(msk pa (gN g)).testBit l) 8) = 0) ↔ okU pa i (gN g) = true := by
        refine (nI_eq (b := 0) (by have := msk_lt (fun l => i.testBit l && !(msk pa (gN g)).testBit l) 8; omega) (by decide)).trans ?_
        rw [msk_zero, okU_iff]
        constructor
        · intro e l hl
          have := e l (by omega)
          rw [msk_bit] at this
          simpa [hl] using this
        · intro e l hl
          rw [msk_bit]
          by_cases hln : l < gN g
          · simpa [hln] using e l hln
          · have : i.testBit l = false := Nat.testBit_lt_two_pow (Nat.lt_of_lt_of_le hi (Nat.pow_le_pow_right (by decide) (by omega)))
            simp [this]
      unfold wU fe
      by_cases h1 : okU pa i (gN g) = true
      · have hcn := okU_cnt h1
        have cL := cnt_le pa (gN g)
        have eL : pc8 (msk pa (gN g)) = cnt pa (gN g) := by
          rw [pc_cnt (gN g) (by omega) _ hLn]
          exact cnt_cong (fun l hl => by rw [msk_bit]; simp [hl])
        have eo := pc_cnt (gN g) (by omega) i hi
        rw [if_pos (hz.mpr h1), C_joins hF h (fun l => i.testBit l) hi8 (fun _ _ => rfl) ha hb, Option.bind_some]
        by_cases h2 : rs g (fun l => i.testBit l) a b = true
        · simp only [h1, h2, if_true, show ¬ (1 : Int32) = 0 by decide, if_false]
          have e10 : (10 : Int32) - nI x = nI (10 - x) := nI_sub (a := 10) (by omega)
          rw [bitCount_ok F μ hi8, bitCount_ok F μ hL, Option.bind_some, Option.bind_some, e10, eo, eL, power_ok hF _ (by omega), Option.bind_some, nI_sub hcn, power_ok hF _ (by omega), Option.bind_some, nI_mul, nI_add, Nat.mul_one]
        · simp only [h1, h2, if_true, if_false, Bool.false_eq_true, Nat.mul_zero, Nat.add_zero]
      · rw [if_neg (fun z => h1 (hz.mp z))]
        simp only [h1, if_false, Nat.zero_mul, Nat.add_zero, Bool.false_eq_true])
    (fun _ _ _ _ => trivial)
    (fun n s _ => by
      show f_X8_favourable_L6 F μ 0 (nI (msk pa (gN g))) (nI a) (nI b) (nI x) _ (n + 1) (nI s) (nI (2 ^ gN g)) = _
      rw [f_X8_favourable_L6, eN, one_shl _ (by omega), if_neg (nI_nlt (Nat.le_refl _) (by omega))])
    (2 ^ gN g) F 0 0 (by omega) (by omega) trivial
/-- the model's lower number -/
theorem M_down (hF : 5000 ≤ F) (h : VM μ g m) (x1 x2 x3 x4 x5 : Int32) (k : Int32 → Int32 → Option Int32) : f_X9_odds_L47 F μ 166 x1 x2 x3 x4 x5 k F 1 0 = k (nI (10 ^ cnt (fun l => !(mC m).testBit l) (gN g))) (nI (gN g)) := by
  have hg := h.2.2.1
  have h8 := hg.2.2.1
  have eN : gI μ (166 + 3) 0 = nI (gN g) := h.1.2.1
  have hst : ∀ i s, i < gN g → s = 10 ^ cnt (fun l => !(mC m).testBit l) i → s * (if (mC m).testBit i = true then 1 else 10) = 10 ^ cnt (fun l => !(mC m).testBit l) (i + 1) := fun i s _ hs => by
    rw [cnt, hs]
    by_cases c : (mC m).testBit i = true
    · simp [c]
    · simp [c, Nat.pow_succ]
  have hr := for_run (S := Nat) (f := fun n s i => f_X9_odds_L47 F μ 166 x1 x2 x3 x4 x5 k n (nI s) (nI i)) (N := gN g) (step := fun i s => s * (if (mC m).testBit i = true then 1 else 10)) (k := fun s => k (nI s) (nI (gN g))) (fun i s => s = 10 ^ cnt (fun l => !(mC m).testBit l) i)
    (fun n s i hi hs => by
      show f_X9_odds_L47 F μ 166 x1 x2 x3 x4 x5 k (n + 1) (nI s) (nI i) = f_X9_odds_L47 F μ 166 x1 x2 x3 x4 x5 k n (nI (s * (if (mC m).testBit i = true then 1 else 10))) (nI (i + 1))
      rw [f_X9_odds_L47, eN, if_pos (nI_lt hi (by omega)), M_closed h hi, Option.bind_some, nI_1, show nI s * 10 = nI (s * 10) from nI_mul s 10, show nI s * 1 = nI (s * 1) from nI_mul s 1]
      by_cases c : (mC m).testBit i = true
      · simp only [c, if_true, show ¬ (1 : Int32) = 0 by decide, if_false]
      · simp only [c, if_true, if_false, Bool.false_eq_true])
    hst
    (fun n s hs => by
      show f_X9_odds_L47 F μ 166 x1 x2 x3 x4 x5 k (n + 1) (nI s) (nI (gN g)) = _
      rw [f_X9_odds_L47, eN, if_neg (nI_nlt (Nat.le_refl _) (by omega))])
    (gN g) F 0 1 (by omega) (by omega) rfl
  have h2 := fr_inv (step := fun i s => s * (if (mC m).testBit i = true then 1 else 10)) (N := gN g) (fun i s => s = 10 ^ cnt (fun l => !(mC m).testBit l) i) hst (gN g) 0 1 (by omega) rfl
  rw [Nat.zero_add] at h2
  rw [h2] at hr
  exact hr
/-- the model's weight of a case -/
theorem M_ways (hF : 5000 ≤ F) (h : VM μ g m) {x c w : Nat} (hx : x ≤ 10) (hc : c < 256) (x1 x2 x4 x5 x6 : Int32) (k : Int32 → Int32 → Option Int32) : f_X9_odds_L123 F μ 166 x1 x2 (nI x) x4 x5 x6 (nI c) k F (nI w) 0 = k (nI (w * prd (fun l => (mC m).testBit l) x c (gN g))) (nI (gN g)) := by
  have hg := h.2.2.1
  have h8 := hg.2.2.1
  have eN : gI μ (166 + 3) 0 = nI (gN g) := h.1.2.1
  have e10 : (10 : Int32) - nI x = nI (10 - x) := nI_sub (a := 10) (by omega)
  have hst : ∀ i s, i < gN g → s = w * prd (fun l => (mC m).testBit l) x c i → s * (if (mC m).testBit i = true then 1 else if c.testBit i = true then x else 10 - x) = w * prd (fun l => (mC m).testBit l) x c (i + 1) := fun i s _ hs => by
    rw [prd, hs, Nat.mul_assoc]
  have hr := for_run (S := Nat) (f := fun n s i => f_X9_odds_L123 F μ 166 x1 x2 (nI x) x4 x5 x6 (nI c) k n (nI s) (nI i)) (N := gN g) (step := fun i s => s * (if (mC m).testBit i = true then 1 else if c.testBit i = true then x else 10 - x)) (k := fun s => k (nI s) (nI (gN g))) (fun i s => s = w * prd (fun l => (mC m).testBit l) x c i)
    (fun n s i hi hs => by
      show f_X9_odds_L123 F μ 166 x1 x2 (nI x) x4 x5 x6 (nI c) k (n + 1) (nI s) (nI i) = f_X9_odds_L123 F μ 166 x1 x2 (nI x) x4 x5 x6 (nI c) k n (nI (s * (if (mC m).testBit i = true then 1 else if c.testBit i = true then x else 10 - x))) (nI (i + 1))
      rw [f_X9_odds_L123, eN, if_pos (nI_lt hi (by omega)), M_closed h hi, Option.bind_some, bit_q _ hc i (by omega), e10, nI_mul, nI_mul, show nI s * 1 = nI (s * 1) from nI_mul s 1, nI_1]
      by_cases b1 : (mC m).testBit i = true
      · simp only [b1, if_true, show ¬ (1 : Int32) = 0 by decide, if_false]
      · simp only [b1, if_true, if_false, Bool.false_eq_true]
        by_cases b2 : c.testBit i = true
        · simp only [b2, if_true]
        · simp only [b2, if_false, Bool.false_eq_true, show ¬ (0 : Int32) = 1 by decide])
    hst
    (fun n s hs => by
      show f_X9_odds_L123 F μ 166 x1 x2 (nI x) x4 x5 x6 (nI c) k (n + 1) (nI s) (nI (gN g)) = _
      rw [f_X9_odds_L123, eN, if_neg (nI_nlt (Nat.le_refl _) (by omega))])
    (gN g) F 0 w (by omega) (by omega) (Nat.mul_one w).symm
  have h2 := fr_inv (step := fun i s => s * (if (mC m).testBit i = true then 1 else if c.testBit i = true then x else 10 - x)) (N := gN g) (fun i s => s = w * prd (fun l => (mC m).testBit l) x c i) hst (gN g) 0 w (by omega) (Nat.mul_one w).symm
  rw [Nat.zero_add] at h2
  rw [h2] at hr
  exact hr
theorem prd_le {cl : Nat → Bool} {x : Nat} (hx : x ≤ 10) (s : Nat) : ∀ n, prd cl x s n ≤ 10 ^ n
  | 0 => Nat.le_refl _
  | n + 1 => by
    have h := prd_le (cl := cl) hx s n
    rw [prd, Nat.pow_succ]
    refine Nat.mul_le_mul h ?_
    split
    · omega
    · split <;> omega
/-- the model's upper number -/
theorem M_up (hF : 5000 ≤ F) (h : VM μ g m) {p b x : Nat} (hp : p < gM g) (hb : b < gP g) (hx : x ≤ 10) (x4 x6 : Int32) (k : Int32 → Int32 → Option Int32) : f_X9_odds_L87 F μ 166 (nI p) (nI b) (nI x) x4 x6 k F 0 0 = k (nI (SV (alw g m p (mC m)) (fun l => (mC m).testBit l) x (gN g) (fe g (mA m p) b))) (nI (2 ^ gN g)) := by
  have hg := h.2.2.1
  have h8 := hg.2.2.1
  have hcm := mC_lt hg h.2.2.2
  have eN : gI μ (166 + 3) 0 = nI (gN g) := h.1.2.1
  have eC : gI μ (166 + 12) 15 = nI (mC m) := h.2.1.1
  have hpw : 2 ^ gN g ≤ 256 := Nat.pow_le_pow_right (n := 2) (j := 8) (by decide) h8
  rw [← sumV (fun l hl => by unfold alw at hl; simp only [Bool.and_eq_true, Bool.not_eq_true'] at hl; exact hl.1), ← sumTo_fr]
  exact for_run (S := Nat) (f := fun n s i => f_X9_odds_L87 F μ 166 (nI p) (nI b) (nI x) x4 x6 k n (nI s) (nI i)) (N := 2 ^ gN g) (step := fun i s => s + wV (alw g m p (mC m)) (fun l => (mC m).testBit l) x (gN g) (fe g (mA m p) b) i) (k := fun s => k (nI s) (nI (2 ^ gN g))) (fun _ _ => True)
    (fun n s i hi _ => by
      have hi8 : i < 256 := by omega
      show f_X9_odds_L87 F μ 166 (nI p) (nI b) (nI x) x4 x6 k (n + 1) (nI s) (nI i) = f_X9_odds_L87 F μ 166 (nI p) (nI b) (nI x) x4 x6 k n (nI (s + wV (alw g m p (mC m)) (fun l => (mC m).testBit l) x (gN g) (fe g (mA m p) b) i)) (nI (i + 1))
      have hz : (nI (i &&& mC m) = 0) ↔ okV (fun l => (mC m).testBit l) i (gN g) = true := by
        refine (nI_eq (b := 0) (by have := Nat.and_le_left (n := i) (m := mC m); omega) (by decide)).trans ?_
        rw [okV_iff]
        constructor
        · intro e l hl
          rw [← Nat.testBit_and, e, Nat.zero_testBit]
        · intro e
          apply Nat.eq_of_testBit_eq
          intro l
          rw [Nat.zero_testBit, Nat.testBit_and]
          by_cases hln : l < gN g
          · exact e l hln
          · have : i.testBit l = false := Nat.testBit_lt_two_pow (Nat.lt_of_lt_of_le hi (Nat.pow_le_pow_right (by decide) (by omega)))
            simp [this]
      have hpr := prd_le (cl := fun l => (mC m).testBit l) hx i (gN g)
      have hp8 : (10 : Nat) ^ gN g ≤ 10 ^ 8 := Nat.pow_le_pow_right (by decide) h8
      have hrs : rs g (alw g m p (mC m ||| i)) (mA m p) b = rs g (fun l => (alm (alw g m p (mC m)) i (gN g)).testBit l) (mA m p) b := rs_cong (fun l hl => by
        unfold alm
        rw [msk_bit]
        unfold alw
        rw [Nat.testBit_or]
        cases (mC m).testBit l <;> cases i.testBit l <;> simp [hl]) _ _
      have w1 := M_ways (w := 1) hF h hx hi8 (nI p) (nI b) x4 (nI s) x6
      have w0 := M_ways (w := 0) hF h hx hi8 (nI p) (nI b) x4 (nI s) x6
      have w1 : ∀ k, f_X9_odds_L123 F μ 166 (nI p) (nI b) (nI x) x4 (nI s) x6 (nI i) k F 1 0 = _ := w1
      have w0 : ∀ k, f_X9_odds_L123 F μ 166 (nI p) (nI b) (nI x) x4 (nI s) x6 (nI i) k F 0 0 = _ := w0
      rw [f_X9_odds_L87, eN, one_shl _ (by omega), if_pos (nI_lt hi (by omega)), eC, fa_and, w1, w0, Nat.one_mul, Nat.zero_mul, fa_or, M_reaches hF h hp hb (or_lt8 hcm hi8), Option.bind_some, hrs, show nI s + 0 = nI (s + 0) from nI_add s 0, nI_add, nI_1]
      rw [if_neg (show ¬ (0 : Int32) < nI 0 from nI_nlt (a := 0) (Nat.le_refl _) (by decide))]
      unfold wV fe
      by_cases h1 : okV (fun l => (mC m).testBit l) i (gN g) = true
      · rw [if_pos (hz.mpr h1)]
        simp only [h1, if_true]
        generalize prd (fun l => (mC m).testBit l) x i (gN g) = q at hpr ⊢
        by_cases h0 : q = 0
        · subst h0
          rw [if_neg (show ¬ (0 : Int32) < nI 0 from nI_nlt (a := 0) (Nat.le_refl _) (by decide)), Nat.zero_mul]
        · rw [if_pos (show (0 : Int32) < nI q from nI_lt (a := 0) (by omega) (by omega))]
          by_cases h2 : rs g (fun l => (alm (alw g m p (mC m)) i (gN g)).testBit l) (mA m p) b = true
          · simp only [h2, if_true, show ¬ (1 : Int32) = 0 by decide, if_false, Nat.mul_one]
          · simp only [h2, if_true, if_false, Bool.false_eq_true, Nat.mul_zero]
      · rw [if_neg (fun z => h1 (hz.mp z))]
        simp only [h1, if_false, Nat.zero_mul, Bool.false_eq_true])
    (fun _ _ _ _ => trivial)
    (fun n s _ => by
      show f_X9_odds_L87 F μ 166 (nI p) (nI b) (nI x) x4 x6 k (n + 1) (nI s) (nI (2 ^ gN g)) = _
      rw [f_X9_odds_L87, eN, one_shl _ (by omega), if_neg (nI_nlt (Nat.le_refl _) (by omega))])
    (2 ^ gN g) F 0 0 (by omega) (by omega) trivial
end R38
