section R39
variable {F : Nat} {μ : Mem} {g : Cfg} {m : Mo}
theorem rng {x : Int32} {n : Nat} (hn : n < 2 ^ 31) (hn1 : 1 ≤ n) (h : ¬ okN x n = true) : x < 0 ∨ nI (n - 1) < x := by
  rcases okN_no h with e | e
  · exact Or.inl e
  · refine Or.inr ?_
    rw [Int32.lt_iff_toInt_lt, nI_toInt hn] at e
    rw [Int32.lt_iff_toInt_lt, nI_toInt (by omega)]
    omega
theorem nI_eq0 {a : Nat} (h : a < 2 ^ 31) : nI a = 0 ↔ a = 0 := nI_eq (b := 0) h (by decide)
theorem d2_ok {a : Nat} (h : a < 2 ^ 31) : nI a / 2 = nI (a / 2) := nI_div (b := 2) h (by decide)
theorem d5_ok {a : Nat} (h : a < 2 ^ 31) : nI a / 5 = nI (a / 5) := nI_div (b := 5) h (by decide)
theorem m2_ok {a : Nat} (h : a < 2 ^ 31) : nI a - nI (a / 2) * 2 = nI (a % 2) := by rw [← d2_ok h]; exact nI_mod (b := 2) h (by decide)
theorem m5_ok {a : Nat} (h : a < 2 ^ 31) : nI a - nI (a / 5) * 5 = nI (a % 5) := by rw [← d5_ok h]; exact nI_mod (b := 5) h (by decide)
theorem C_short (hF : 5000 ≤ F) {U T k : Nat} (hU : U < 2 ^ 31) (hT : T = 10 ^ k) (hk : k ≤ 8) (x4 : Int32) (kk : Int32 → Int32 → Int32 → Option Int32) : f_X8_odds_L87 F μ x4 (nI k) kk F (nI U) (nI T) 0 = kk (nI (U / Nat.gcd U T)) (nI (T / Nat.gcd U T)) (nI k) := by
  have hT8 : T ≤ 10 ^ 8 := by rw [hT]; exact Nat.pow_le_pow_right (by decide) hk
  have hr := for_run (S := Nat × Nat) (f := fun n s i => f_X8_odds_L87 F μ x4 (nI k) kk n (nI s.1) (nI s.2) (nI i)) (N := k) (step := fun _ s => fifth (half s)) (k := fun s => kk (nI s.1) (nI s.2) (nI k)) (fun i s => s.1 < 2 ^ 31 ∧ s.2 < 2 ^ 31)
    (fun n s i hi hs => by
      obtain ⟨u, v⟩ := s
      obtain ⟨hu, hv⟩ := hs
      have hu : u < 2 ^ 31 := hu
      have hv : v < 2 ^ 31 := hv
      show f_X8_odds_L87 F μ x4 (nI k) kk (n + 1) (nI u) (nI v) (nI i) = f_X8_odds_L87 F μ x4 (nI k) kk n (nI (fifth (half (u, v))).1) (nI (fifth (half (u, v))).2) (nI (i + 1))
      rw [f_X8_odds_L87, if_pos (nI_lt hi (by omega)), nI_1]
      simp (disch := omega) only [d2_ok, d5_ok, m2_ok, m5_ok, nI_eq0]
      unfold fifth half
      by_cases a1 : u % 2 = 0
      · by_cases a2 : v % 2 = 0
        · simp only [a1, a2, if_true, and_self]
          by_cases b1 : u / 2 % 5 = 0
          · by_cases b2 : v / 2 % 5 = 0
            · simp only [b1, b2, if_true, and_self]
            · simp only [b1, b2, if_true, if_false, and_false]
          · simp only [b1, if_false, false_and]
        · simp only [a1, a2, if_true, if_false, and_false]
          by_cases b1 : u % 5 = 0
          · by_cases b2 : v % 5 = 0
            · simp only [b1, b2, if_true, and_self]
            · simp only [b1, b2, if_true, if_false, and_false]
          · simp only [b1, if_false, false_and]
      · simp only [a1, if_false, false_and]
        by_cases b1 : u % 5 = 0
        · by_cases b2 : v % 5 = 0
          · simp only [b1, b2, if_true, and_self]
          · simp only [b1, b2, if_true, if_false, and_false]
        · simp only [b1, if_false, false_and])
    (fun i s hi hs => by
      have := sho_le s
      exact ⟨Nat.lt_of_le_of_lt this.1 hs.1, Nat.lt_of_le_of_lt this.2 hs.2⟩)
    (fun n s hs => by
      show f_X8_odds_L87 F μ x4 (nI k) kk (n + 1) (nI s.1) (nI s.2) (nI k) = _
      rw [f_X8_odds_L87, if_neg (nI_nlt (Nat.le_refl _) (by omega))])
    k F 0 (U, T) (by omega) (by omega) ⟨hU, by show T < 2 ^ 31; omega⟩
  have hi := fr_inv (step := fun _ s => fifth (half s)) (N := k) (fun i s => Sho U T k i s.1 s.2) (fun i s _ hs => Sho_step hs) k 0 (U, T) (by omega) ⟨k, k, 1, by show T = _; rw [hT, ← Nat.mul_pow], Nat.mul_one _, Nat.mul_one _, Or.inl (by omega), Or.inl (by omega)⟩
  rw [Nat.zero_add] at hi
  have he := Sho_end (by rw [hT]; exact Nat.pow_pos (by decide)) hi
  rw [← he.1, ← he.2]
  exact hr
theorem S_odds (hF : 5000 ≤ F) (hC : VC μ g m) (hM : VM μ g m) (a e x w : Int32) : ∃ v, f_X8_odds F μ 0 a e x w = some v ∧ f_X9_odds F μ 166 a e x w = some v := by
  have hg := hC.2.2.1
  have h5 := hg.2.2.2.1
  have h8 := hg.2.2.1
  have hP := hg.2.1
  have ix : f_X9_in F μ x 0 10 = some (if okN x 11 = true then 1 else 0) := in_ok F μ x 11 (by decide)
  have iw : f_X9_in F μ w 0 1 = some (if okN w 2 = true then 1 else 0) := in_ok F μ w 2 (by decide)
  unfold f_X8_odds f_X9_odds
  rw [C_noPerson hC, M_isPerson hM, Option.bind_some, Option.bind_some]
  by_cases ha : okN a (gM g) = true
  · rw [C_noPlace hC, M_isPlace hM, Option.bind_some, Option.bind_some]
    by_cases hb : okN e (gP g) = true
    · rw [ix, iw, Option.bind_some, Option.bind_some]
      by_cases hx : okN x 11 = true
      · by_cases hw : okN w 2 = true
        · simp only [ha, hb, hx, hw, if_true, if_false, show ¬ (1 : Int32) = 0 by decide]
          obtain ⟨p, hp, rfl⟩ := okN_of (by omega) ha
          obtain ⟨b, hb', rfl⟩ := okN_of (by omega) hb
          obtain ⟨xx, hxx, rfl⟩ := okN_of (by omega) hx
          obtain ⟨ww, hww, rfl⟩ := okN_of (by omega) hw
          have hap := (hC.2.2.2.1 p hp).2
          rw [if_neg (nI_pos (by omega)), if_neg (show ¬ (10 : Int32) < nI xx from nI_nlt (b := xx) (a := 10) (by omega) (by decide)), if_neg (nI_pos (by omega)), if_neg (show ¬ (1 : Int32) < nI ww from nI_nlt (b := ww) (a := 1) (by omega) (by decide))]
          have hpl : ∀ l, alw g m p (mC m) l = true → (mC m).testBit l = false := fun l hl => by unfold alw at hl; simp only [Bool.and_eq_true, Bool.not_eq_true'] at hl; exact hl.1
          have eL : pc8 (msk (alw g m p (mC m)) (gN g)) = cnt (alw g m p (mC m)) (gN g) := by
            rw [pc_cnt (gN g) (by omega) _ (msk_lt _ _)]
            exact cnt_cong (fun l hl => by rw [msk_bit]; simp [hl])
          have cL := cnt_le (alw g m p (mC m)) (gN g)
          have cO := cnt_le (fun l => !(mC m).testBit l) (gN g)
          have e1 : gI μ (0 + 16 + 1 + 2) p = nI (mA m p) := C_at hC hp
          have hVU := SV_SU (pa := alw g m p (mC m)) (cl := fun l => (mC m).testBit l) (x := xx) hpl (by omega) (gN g) (fe g (mA m p) b)
          have hVle := SV_le (pa := alw g m p (mC m)) (cl := fun l => (mC m).testBit l) (x := xx) (by omega) (gN g) (fe g (mA m p) b) (fe_le _ _)
          have hco := cnt_open (pa := alw g m p (mC m)) (cl := fun l => (mC m).testBit l) hpl (gN g)
          have h10 : (10 : Nat) ^ cnt (fun l => !(mC m).testBit l) (gN g) ≤ 10 ^ 8 := Nat.pow_le_pow_right (by decide) (by omega)
          have hMu := M_up hF hM hp hb' (x := xx) (by omega) (nI ww) (nI (10 ^ cnt (fun l => !(mC m).testBit l) (gN g)))
          rw [C_passable hF hC hp, Option.bind_some, bitCount_ok F μ (msk8 hg _), Option.bind_some, if_pos (ix5 hg hp), cl5 hg hp, e1, C_fav hF hC _ hap hb' (by omega), Option.bind_some, eL, show (10 : Int32) = nI 10 from rfl, power_ok hF 10 (by omega), Option.bind_some, M_down hF hM, hMu]
          generalize hV : SV (alw g m p (mC m)) (fun l => (mC m).testBit l) xx (gN g) (fe g (mA m p) b) = V at hVU hVle ⊢
          generalize hU : SU (alw g m p (mC m)) xx (gN g) (fe g (mA m p) b) = U at hVU ⊢
          generalize cnt (fun l => !(mC m).testBit l && !alw g m p (mC m) l) (gN g) = c at hVU hco
          generalize cnt (alw g m p (mC m)) (gN g) = kk at hco cL ⊢
          rw [hco] at hVle h10 ⊢
          generalize hT : (10 : Nat) ^ kk = T at *
          have hD : (10 : Nat) ^ (kk + c) = 10 ^ c * T := by rw [Nat.pow_add, hT, Nat.mul_comm]
          rw [hD] at hVle h10 ⊢
          have hc0 : 0 < (10 : Nat) ^ c := Nat.pow_pos (by decide)
          have hT0 : 0 < T := by rw [← hT]; exact Nat.pow_pos (by decide)
          have hUV : U ≤ V := by rw [hVU]; exact Nat.le_mul_of_pos_left U hc0
          have hTD : T ≤ 10 ^ c * T := Nat.le_mul_of_pos_left T hc0
          have hD0 : 0 < 10 ^ c * T := Nat.mul_pos hc0 hT0
          rw [C_short hF (by omega) hT.symm (by omega)]
          have hE := euc_run (f := fun n a b => f_X9_odds_L226 F μ (nI ww) (nI V) (nI (10 ^ c * T)) (fun x7_33 x8_34 => (if nI ww = 0 then if x7_33 = 0 then none else some (nI V / x7_33) else if x7_33 = 0 then none else some (nI (10 ^ c * T) / x7_33))) n a b) (k := fun a => (if nI ww = 0 then if a = 0 then none else some (nI V / a) else if a = 0 then none else some (nI (10 ^ c * T) / a)))
            ⟨fun n a => by
              show f_X9_odds_L226 F μ (nI ww) (nI V) (nI (10 ^ c * T)) _ (n + 1) (nI a) 0 = _
              rw [f_X9_odds_L226, if_pos rfl], fun n a b hb ha hb2 => by
              show f_X9_odds_L226 F μ (nI ww) (nI V) (nI (10 ^ c * T)) _ (n + 1) (nI a) (nI b) = _
              rw [f_X9_odds_L226, if_neg (nI_ne0 hb hb2), if_neg (nI_ne0 hb hb2), nI_mod ha hb2]⟩ 31 F V (10 ^ c * T) (by omega) (by omega) (by omega) (by omega)
          rw [hE]
          have hG : Nat.gcd V (10 ^ c * T) = 10 ^ c * Nat.gcd U T := by rw [hVU, Nat.gcd_mul_left]
          have hG0 : 0 < Nat.gcd U T := Nat.gcd_pos_of_pos_right U hT0
          have hGT : Nat.gcd U T ≤ T := Nat.le_of_dvd hT0 (Nat.gcd_dvd_right U T)
          have hGG : 10 ^ c * Nat.gcd U T ≤ 10 ^ c * T := Nat.mul_le_mul_left _ hGT
          have hGP : 0 < 10 ^ c * Nat.gcd U T := Nat.mul_pos hc0 hG0
          have q1 : V / (10 ^ c * Nat.gcd U T) = U / Nat.gcd U T := by rw [hVU, Nat.mul_div_mul_left _ _ hc0]
          have q2 : 10 ^ c * T / (10 ^ c * Nat.gcd U T) = T / Nat.gcd U T := Nat.mul_div_mul_left _ _ hc0
          rw [hG, nI_div (by omega) (by omega), nI_div (by omega) (by omega), q1, q2]
          have n0 : ¬ nI (10 ^ c * Nat.gcd U T) = 0 := nI_ne0 hGP (by omega)
          simp only [n0, if_false]
          by_cases h0 : nI ww = 0
          · rw [if_pos h0]; exact ⟨_, rfl, rfl⟩
          · rw [if_neg h0]; exact ⟨_, rfl, rfl⟩
        · simp only [ha, hb, hx, hw, if_true, if_false, show ¬ (1 : Int32) = 0 by decide]
          obtain ⟨xx, hxx, rfl⟩ := okN_of (by omega) hx
          rw [if_neg (nI_pos (by omega)), if_neg (show ¬ (10 : Int32) < nI xx from nI_nlt (b := xx) (a := 10) (by omega) (by decide))]
          rcases rng (by decide) (by decide) hw with z | z
          · rw [if_pos z]; exact ⟨_, rfl, rfl⟩
          · have z : (1 : Int32) < w := z
            rw [if_pos z]
            by_cases y : w < 0
            · rw [if_pos y]; exact ⟨_, rfl, rfl⟩
            · rw [if_neg y]; exact ⟨_, rfl, rfl⟩
      · simp only [ha, hb, hx, if_true, if_false, show ¬ (1 : Int32) = 0 by decide]
        rcases rng (by decide) (by decide) hx with z | z
        · rw [if_pos z]; exact ⟨_, rfl, rfl⟩
        · have z : (10 : Int32) < x := z
          rw [if_pos z]
          by_cases y : x < 0
          · rw [if_pos y]; exact ⟨_, rfl, rfl⟩
          · rw [if_neg y]; exact ⟨_, rfl, rfl⟩
    · simp only [ha, hb, if_true, if_false, show ¬ (1 : Int32) = 0 by decide]
      exact ⟨_, rfl, rfl⟩
  · simp only [ha, if_true, if_false, show ¬ (1 : Int32) = 0 by decide]
    exact ⟨_, rfl, rfl⟩
end R39
