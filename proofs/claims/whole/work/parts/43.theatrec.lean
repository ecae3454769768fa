section R43
variable {F : Nat} {μ μ' : Mem} {g : Cfg} {m : Mo}
theorem nI_n9 {a : Nat} (h : a < 2 ^ 31) : ¬ nI a = (-9 : Int32) := fun z => by
  have z2 := congrArg Int32.toInt z
  rw [nI_toInt h] at z2
  have : (-9 : Int32).toInt = -9 := by decide +kernel
  omega
theorem nI_n1 {a : Nat} (h : a < 2 ^ 31) : ¬ nI a = (-1 : Int32) := fun z => by
  have z2 := congrArg Int32.toInt z
  rw [nI_toInt h] at z2
  have : (-1 : Int32).toInt = -1 := by decide +kernel
  omega
theorem encZ_none : encZ none = -9 := rfl
theorem encZ_some (n : Nat) : encZ (some n) = nI n := rfl
theorem M_best (hF : 5000 ≤ F) (h : VM μ g m) {W : Nat} (hW : W ≤ 99) (p2 : Int32) (kont : Int32 → Int32 → Int32 → Mem → Option (Int32 × Mem)) : ∃ a b μ1, f_X9_theatre_L62 F 166 (nI W) p2 (nI (5 ^ gM g)) kont F (-9) (-9) 0 μ = kont a b (nI (5 ^ gM g)) μ1 ∧ Sc μ μ1 ∧ ((a = -9 ∧ b = -9 ∧ ∀ c, c < 5 ^ gM g → Zv W (wd g m) (gM g) c = none) ∨ ∃ c R, a = nI c ∧ b = nI R ∧ Bst W (wd g m) (gM g) (5 ^ gM g) c R) := by
  have hg := h.2.2.1
  have h5 := hg.2.2.2.1
  have h55 : 5 ^ gM g ≤ 5 ^ 5 := Nat.pow_le_pow_right (by decide) h5
  obtain ⟨s, ⟨h1, h2⟩, e1⟩ := for_rel (S := Int32 × Int32 × Mem) (f := fun n s i => f_X9_theatre_L62 F 166 (nI W) p2 (nI (5 ^ gM g)) kont n s.1 s.2.1 (nI i) s.2.2) (N := 5 ^ gM g) (k := fun s => kont s.1 s.2.1 (nI (5 ^ gM g)) s.2.2) (fun i s => Sc μ s.2.2 ∧ ((s.1 = -9 ∧ s.2.1 = -9 ∧ ∀ c, c < i → Zv W (wd g m) (gM g) c = none) ∨ ∃ c R, s.1 = nI c ∧ s.2.1 = nI R ∧ R ≤ 5 ∧ Bst W (wd g m) (gM g) i c R))
    (fun n i s hi hs => by
      obtain ⟨a, b, μ1⟩ := s
      obtain ⟨s1, s2⟩ := hs
      have s1 : Sc μ μ1 := s1
      obtain ⟨μ2, e2, sc2, -⟩ := M_rowsOf hF (VM_sc s1 h) hW hi
      have sc3 := Sc_tr s1 sc2
      show ∃ s' : Int32 × Int32 × Mem, _ ∧ f_X9_theatre_L62 F 166 (nI W) p2 (nI (5 ^ gM g)) kont (n + 1) a b (nI i) μ1 = _
      rw [f_X9_theatre_L62, if_pos (nI_lt hi (by omega)), e2, bW_some, nI_1]
      cases hz : Zv W (wd g m) (gM g) i with
      | none =>
        rw [encZ_none, if_pos (rfl : (-9 : Int32) = -9)]
        refine ⟨(a, b, μ2), ⟨sc3, ?_⟩, rfl⟩
        rcases s2 with ⟨q1, q2, q3⟩ | ⟨c, R, q1, q2, q3, q4, q5, q6, q7⟩
        · refine Or.inl ⟨q1, q2, fun c hc => ?_⟩
          by_cases e : c = i
          · rw [e]; exact hz
          · exact q3 c (by omega)
        · refine Or.inr ⟨c, R, q1, q2, q3, by omega, q5, fun c' hc' n' hn' => ?_, q7⟩
          by_cases e : c' = i
          · rw [e, hz] at hn'; cases hn'
          · exact q6 c' (by omega) n' hn'
      | some R' =>
        have hR' := (val_ge _ _ _ _ _ hz).2
        rw [encZ_some, if_neg (nI_n9 (by omega))]
        rcases s2 with ⟨q1, q2, q3⟩ | ⟨c, R, q1, q2, q3, q4, q5, q6, q7⟩
        · have q2 : b = -9 := q2
          rw [if_pos q2]
          refine ⟨(nI i, nI R', μ2), ⟨sc3, Or.inr ⟨i, R', rfl, rfl, by omega, by omega, hz, fun c' hc' n' hn' => ?_, fun c' hc' n' hn' => ?_⟩⟩, rfl⟩
          · by_cases e : c' = i
            · rw [e, hz] at hn'
              have := Option.some.inj hn'
              omega
            · rw [q3 c' (by omega)] at hn'; cases hn'
          · rw [q3 c' hc'] at hn'; cases hn'
        · have q2 : b = nI R := q2
          rw [q2, if_neg (nI_n9 (by omega))]
          by_cases hlt : R' < R
          · rw [if_pos (nI_lt hlt (by omega))]
            refine ⟨(nI i, nI R', μ2), ⟨sc3, Or.inr ⟨i, R', rfl, rfl, by omega, by omega, hz, fun c' hc' n' hn' => ?_, fun c' hc' n' hn' => ?_⟩⟩, rfl⟩
            · by_cases e : c' = i
              · rw [e, hz] at hn'
                have := Option.some.inj hn'
                omega
              · have := q6 c' (by omega) n' hn'
                omega
            · have := q6 c' (by omega) n' hn'
              omega
          · rw [if_neg (nI_nlt (by omega) (by omega))]
            refine ⟨(a, nI R, μ2), ⟨sc3, Or.inr ⟨c, R, q1, rfl, q3, by omega, q5, fun c' hc' n' hn' => ?_, q7⟩⟩, rfl⟩
            by_cases e : c' = i
            · rw [e, hz] at hn'
              have := Option.some.inj hn'
              omega
            · exact q6 c' (by omega) n' hn')
    (fun n s hs => by
      show f_X9_theatre_L62 F 166 (nI W) p2 (nI (5 ^ gM g)) kont (n + 1) s.1 s.2.1 (nI (5 ^ gM g)) s.2.2 = _
      rw [f_X9_theatre_L62, if_neg (nI_nlt (Nat.le_refl _) (by omega))])
    (5 ^ gM g) F 0 (-9, -9, μ) (by omega) (by omega) ⟨Sc_rfl μ, Or.inl ⟨rfl, rfl, fun c hc => by omega⟩⟩
  refine ⟨s.1, s.2.1, s.2.2, e1, h1, ?_⟩
  rcases h2 with q | ⟨c, R, q1, q2, -, q4⟩
  · exact Or.inl q
  · exact Or.inr ⟨c, R, q1, q2, q4⟩
theorem M_codes (hF : 5000 ≤ F) (h : VM μ g m) (x1 x2 : Int32) (k : Int32 → Int32 → Option (Int32 × Mem)) : f_X9_theatre_L30 F μ 166 x1 x2 k F 1 0 = k (nI (5 ^ gM g)) (nI (gM g)) := by
  have hg := h.2.2.1
  have h5 := hg.2.2.2.1
  have eM : gI μ (166 + 7) 0 = nI (gM g) := h.1.2.2.1
  have hr := for_run (S := Nat) (f := fun n s i => f_X9_theatre_L30 F μ 166 x1 x2 k n (nI s) (nI i)) (N := gM g) (step := fun i s => s * 5) (k := fun s => k (nI s) (nI (gM g))) (fun i s => True)
    (fun n s i hi _ => by
      show f_X9_theatre_L30 F μ 166 x1 x2 k (n + 1) (nI s) (nI i) = _
      rw [f_X9_theatre_L30, eM, if_pos (nI_lt hi (by omega)), show nI s * 5 = nI (s * 5) from nI_mul s 5, nI_1])
    (fun _ _ _ _ => trivial)
    (fun n s _ => by
      show f_X9_theatre_L30 F μ 166 x1 x2 k (n + 1) (nI s) (nI (gM g)) = _
      rw [f_X9_theatre_L30, eM, if_neg (nI_nlt (Nat.le_refl _) (by omega))])
    (gM g) F 0 1 (by omega) (by omega) trivial
  have h2 := fr_inv (step := fun i s => s * 5) (N := gM g) (fun i s => s = 5 ^ i) (fun i s _ hs => by show s * 5 = 5 ^ (i + 1); rw [hs, Nat.pow_succ]) (gM g) 0 1 (by omega) rfl
  rw [Nat.zero_add] at h2
  rw [h2] at hr
  exact hr
/-- what both come to, of all or of one -/
theorem thea (hF : 5000 ≤ F) (hC : VC μ g m) (hM : VM μ' g m) {W : Nat} (hW : W ≤ 99) (p2 : Int32) (hp2 : p2 = -1 ∨ ∃ p, p < gM g ∧ p2 = nI p) : Two μ μ'
    ((f_X6_begin F μ 70 (nI W) (gI μ (gR μ 0 1) 5)).bind (fun μ_3 => f_X8_theatre_L43 F 0 p2 (fun x3_12 μ_13 => bW (f_X6_fill F μ_13 (0 + 70)) (fun v_14 μ_15 => (if v_14 = (-9) then some (v_14, μ_15) else (if p2 = (-1) then some (v_14, μ_15) else if ix p2 5 = true then some (gI μ_15 ((0 + 70) + 2) p2.toNatClampNeg, μ_15) else none)))) F 0 μ_3))
    (f_X9_theatre_L30 F μ' 166 (nI W) p2 (fun x3_4 x4_5 => f_X9_theatre_L62 F 166 (nI W) p2 x3_4 (fun x4_9 x5_10 x6_11 μ_12 => (if x4_9 = (-9) then some (x5_10, μ_12) else (if p2 = (-1) then some (x5_10, μ_12) else bW (f_X9_rowsOf F μ_12 166 x4_9 (nI W)) (fun v_13 μ_14 => if ix p2 5 = true then some (gI μ_14 (166 + 15) p2.toNatClampNeg, μ_14) else none)))) F (-9) (-9) 0 μ') F 1 0) := by
  have hg := hC.2.2.1
  have h5 := hg.2.2.2.1
  obtain ⟨μ1, s1, a3, a4, awid, e1⟩ := C_admits hF hC (W := W) p2 (fun x3_12 μ_13 => bW (f_X6_fill F μ_13 (0 + 70)) (fun v_14 μ_15 => (if v_14 = (-9) then some (v_14, μ_15) else (if p2 = (-1) then some (v_14, μ_15) else if ix p2 5 = true then some (gI μ_15 ((0 + 70) + 2) p2.toNatClampNeg, μ_15) else none))))
  obtain ⟨v, μ2, e2, f2, hc⟩ := fill_ok hF h5 hW (fun p hp => wd_le hg hC.2.2.2 hp) a3 a4 awid
  have s2 := Sc_tr s1 (Fq_sc f2)
  have e2 : f_X6_fill F μ1 (0 + 70) = some (v, μ2) := e2
  obtain ⟨a, b, μ3, e3, s3, hm⟩ := M_best hF hM hW p2 (fun x4_9 x5_10 x6_11 μ_12 => (if x4_9 = (-9) then some (x5_10, μ_12) else (if p2 = (-1) then some (x5_10, μ_12) else bW (f_X9_rowsOf F μ_12 166 x4_9 (nI W)) (fun v_13 μ_14 => if ix p2 5 = true then some (gI μ_14 (166 + 15) p2.toNatClampNeg, μ_14) else none))))
  rw [e1, M_codes hF hM, e3, e2, bW_some]
  rcases hc with ⟨hv, hno⟩ | ⟨c, R, hv, hR, hb, hrow⟩
  · rcases hm with ⟨ha, hb, -⟩ | ⟨c, R, -, -, hb⟩
    · rw [if_pos hv, if_pos ha, hv, hb]
      exact ⟨_, μ2, μ3, rfl, rfl, s2, s3⟩
    · have := hno c hb.1
      rw [hb.2.1] at this; cases this
  · rcases hm with ⟨-, -, hno⟩ | ⟨c', R', ha', hb', hB⟩
    · have := hno c hb.1
      rw [hb.2.1] at this; cases this
    · obtain ⟨rfl, rfl⟩ := Bst_eq hb hB
      have hc55 : 5 ^ gM g ≤ 5 ^ 5 := Nat.pow_le_pow_right (by decide) h5
      have hcl := hb.1
      rw [hv, ha', hb', if_neg (nI_n9 (by omega)), if_neg (nI_n9 (by omega))]
      rcases hp2 with rfl | ⟨p, hp, rfl⟩
      · rw [if_pos rfl, if_pos rfl]
        exact ⟨_, μ2, μ3, rfl, rfl, s2, s3⟩
      · rw [if_neg (nI_n1 (by omega)), if_neg (nI_n1 (by omega)), if_pos (ix5 hg hp), cl5 hg hp]
        obtain ⟨μ4, e4, s4, r4⟩ := M_rowsOf hF (VM_sc s3 hM) hW hcl
        rw [e4, bW_some, if_pos (ix5 hg hp)]
        refine ⟨nI (dg (gM g) c p), μ2, μ4, ?_, ?_, s2, Sc_tr s3 s4⟩
        · rw [show (0 + 70 + 2 : Nat) = 72 from rfl, hrow p hp]
        · rw [show (166 + 15 : Nat) = 181 from rfl, r4 p hp]
theorem S_theatre (hF : 5000 ≤ F) (hC : VC μ g m) (hM : VM μ' g m) (w p : Int32) : Two μ μ' (f_X8_theatre F μ 0 w p) (f_X9_theatre F μ' 166 w p) := by
  have hg := hC.2.2.1
  have h5 := hg.2.2.2.1
  unfold f_X8_theatre f_X9_theatre
  have ein : f_X9_in F μ' w 1 99 = some (if w < 1 then 0 else if 99 < w then 0 else 1) := by
    unfold f_X9_in
    by_cases h1 : w < 1
    · rw [if_pos h1, if_pos h1]
    · rw [if_neg h1, if_neg h1]
      by_cases h2 : 99 < w
      · rw [if_pos h2, if_pos h2]
      · rw [if_neg h2, if_neg h2]
  rw [ein, Option.bind_some]
  by_cases h1 : w < 1
  · rw [if_pos h1, if_pos h1, if_pos rfl]; exact two_same
  · rw [if_neg h1, if_neg h1]
    by_cases h2 : 99 < w
    · rw [if_pos h2, if_pos h2, if_pos rfl]; exact two_same
    · rw [if_neg h2, if_neg h2, if_neg (show ¬ (1 : Int32) = 0 by decide)]
      have h0 : ¬ w < 0 := fun z => by
        apply h1
        rw [Int32.lt_iff_toInt_lt] at z ⊢
        have e1 : (1 : Int32).toInt = 1 := by decide +kernel
        have e0 : (0 : Int32).toInt = 0 := by decide +kernel
        omega
      obtain ⟨W, hWb, rfl⟩ := nI_of h0
      have hW : W ≤ 99 := by
        rcases Nat.lt_or_ge 99 W with z | z
        · exact absurd (nI_lt z hWb) h2
        · exact z
      by_cases hp1 : p = -1
      · rw [if_pos hp1, if_pos hp1]
        exact thea hF hC hM hW p (Or.inl hp1)
      · rw [if_neg hp1, if_neg hp1, C_noPerson hC, M_isPerson hM, Option.bind_some, Option.bind_some]
        by_cases ha : okN p (gM g) = true
        · simp only [ha, if_true, if_false, show ¬ (1 : Int32) = 0 by decide]
          exact thea hF hC hM hW p (Or.inr (okN_of (by omega) ha))
        · simp only [ha, if_true, if_false, show ¬ (1 : Int32) = 0 by decide]
          exact two_same
end R43
