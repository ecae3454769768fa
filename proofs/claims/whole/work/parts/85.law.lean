theorem sub_big (a b : Nat) (ha : a < 1000000) (hb : b < 1000000) : (nI a - nI b).toInt = (a : Int) - b := by
  rw [Int32.toInt_sub, nI_toInt (by omega), nI_toInt (by omega)]
  rw [Int.bmod_eq_of_le] <;> omega
theorem lg_cmp_self (v : Int64) : lg_cmp v v = 0 := by
  unfold lg_cmp
  simp
/-! the law's loop -/
theorem law_run {F : Nat} (hF : 5000 ≤ F) (L : Nat) (xs : Nat → Int32) (hL : L ≤ 2560) : ∀ (n i : Nat) (μ : Mem), Rel μ → L < i + n → 1 ≤ n → i ≤ L + 5 → ∃ μ2, f_L_law_L18 F L xs 0 166 (fun x3_197 μ_198 => some (1, μ_198)) n (nI i) μ = some (1, μ2)
  | 0, i, μ, _, _, h1, _ => by omega
  | n + 1, i, μ, hr, hn, _, hi => by
    have eL : (nI L - 5).toInt = (L : Int) - 5 := sub_big L 5 (by omega) (by decide)
    rw [f_L_law_L18]
    by_cases hend : L < i + 5
    · rw [if_pos (show Int32.ofNat L - 5 < nI i by
        rw [Int32.lt_iff_toInt_lt, nI_toInt (by omega)]
        have : (Int32.ofNat L - 5).toInt = (L : Int) - 5 := eL
        omega)]
      exact ⟨μ, rfl⟩
    · rw [if_neg (show ¬ Int32.ofNat L - 5 < nI i by
        rw [Int32.lt_iff_toInt_lt, nI_toInt (by omega)]
        have : (Int32.ofNat L - 5).toInt = (L : Int) - 5 := eL
        omega)]
      have ih := fun μ' hr' => law_run hF L xs hL n (i + 5) μ' hr' (by omega) (by omega) (by omega)
      have e1 : nI i + 1 = nI (i + 1) := nI_add i 1
      have e2 : nI i + 2 = nI (i + 2) := nI_add i 2
      have e3 : nI i + 3 = nI (i + 3) := nI_add i 3
      have e4 : nI i + 4 = nI (i + 4) := nI_add i 4
      have e5 : nI i + 5 = nI (i + 5) := nI_add i 5
      have i0 : ix (nI i) L = true := nI_ix (by omega) (by omega)
      have i1 : ix (nI (i + 1)) L = true := nI_ix (by omega) (by omega)
      have i2 : ix (nI (i + 2)) L = true := nI_ix (by omega) (by omega)
      have i3 : ix (nI (i + 3)) L = true := nI_ix (by omega) (by omega)
      have i4 : ix (nI (i + 4)) L = true := nI_ix (by omega) (by omega)
      have c0 : (nI i).toNatClampNeg = i := nI_clamp (by omega)
      have c1 : (nI (i + 1)).toNatClampNeg = i + 1 := nI_clamp (by omega)
      have c2 : (nI (i + 2)).toNatClampNeg = i + 2 := nI_clamp (by omega)
      have c3 : (nI (i + 3)).toNatClampNeg = i + 3 := nI_clamp (by omega)
      have c4 : (nI (i + 4)).toNatClampNeg = i + 4 := nI_clamp (by omega)
      simp only [e1, e2, e3, e4, e5, i0, i1, i2, i3, i4, c0, c1, c2, c3, c4, if_true]
      by_cases h0 : xs i &&& 31 = 0
      · rw [if_pos h0]
        obtain ⟨v, μ1, μ2, w1, w2, r2⟩ := run2 (c8 := fun μ => f_X8_type F μ 0 (xs (i + 1))) (c9 := fun μ => f_X9_type F μ 166 (xs (i + 1))) hr (fun σ μ μ' ho hC hM => S_type ho hC hM _)
        have w1 : f_X8_type F μ 0 (xs (i + 1)) = some (v, μ1) := w1
        have w2 : f_X9_type F μ1 166 (xs (i + 1)) = some (v, μ2) := w2
        rw [w1, bW_some, w2, bW_some, if_pos (rfl : v = v)]
        exact ih μ2 r2
      · rw [if_neg h0]
        by_cases h1 : xs i &&& 31 = 1
        · rw [if_pos h1]
          obtain ⟨v, μ1, μ2, w1, w2, r2⟩ := run2 (c8 := fun μ => f_X8_clear F μ 0) (c9 := fun μ => f_X9_clear F μ 166) hr (fun σ μ μ' ho hC hM => S_clear ho hC hM)
          have w1 : f_X8_clear F μ 0 = some (v, μ1) := w1
          have w2 : f_X9_clear F μ1 166 = some (v, μ2) := w2
          rw [w1, bW_some, w2, bW_some, if_pos (rfl : v = v)]
          exact ih μ2 r2
        · rw [if_neg h1]
          by_cases h2 : xs i &&& 31 = 2
          · rw [if_pos h2]
            obtain ⟨v, μ1, μ2, w1, w2, r2⟩ := run2 (c8 := fun μ => f_X8_capital F μ 0) (c9 := fun μ => f_X9_capital F μ 166) hr (fun σ μ μ' ho hC hM => S_capital hF ho hC hM)
            have w1 : f_X8_capital F μ 0 = some (v, μ1) := w1
            have w2 : f_X9_capital F μ1 166 = some (v, μ2) := w2
            rw [w1, bW_some, w2, bW_some, if_pos (rfl : v = v)]
            exact ih μ2 r2
          · rw [if_neg h2]
            by_cases h3 : xs i &&& 31 = 3
            · rw [if_pos h3]
              obtain ⟨σ, ho, hC, hM⟩ := id hr
              have vC := RcC_VC ho hC
              have vM := RcM_VM ho hM
              obtain ⟨v, w1, w2⟩ := S_lane (F := F) vC vM (xs (i + 1)) (xs (i + 2))
              rw [w1, Option.bind_some, w2, Option.bind_some, if_pos (rfl : v = v)]
              exact ih μ hr
            · rw [if_neg h3]
              by_cases h4 : xs i &&& 31 = 4
              · rw [if_pos h4]
                obtain ⟨σ, ho, hC, hM⟩ := id hr
                have vC := RcC_VC ho hC
                have vM := RcM_VM ho hM
                obtain ⟨v, w1, w2⟩ := S_person hF vC vM (xs (i + 1)) (xs (i + 2))
                rw [w1, Option.bind_some, w2, Option.bind_some, if_pos (rfl : v = v)]
                exact ih μ hr
              · rw [if_neg h4]
                by_cases h5 : xs i &&& 31 = 5
                · rw [if_pos h5]
                  obtain ⟨v, μ1, μ2, w1, w2, r2⟩ := run2 (c8 := fun μ => f_X8_goes F μ 0 (xs (i + 1)) (xs (i + 2))) (c9 := fun μ => f_X9_goes F μ 166 (xs (i + 1)) (xs (i + 2))) hr (fun σ μ μ' ho hC hM => S_goes hF ho hC hM _ _)
                  have w1 : f_X8_goes F μ 0 (xs (i + 1)) (xs (i + 2)) = some (v, μ1) := w1
                  have w2 : f_X9_goes F μ1 166 (xs (i + 1)) (xs (i + 2)) = some (v, μ2) := w2
                  rw [w1, bW_some, w2, bW_some, if_pos (rfl : v = v)]
                  exact ih μ2 r2
                · rw [if_neg h5]
                  by_cases h6 : xs i &&& 31 = 6
                  · rw [if_pos h6]
                    obtain ⟨v, μ1, μ2, w1, w2, r2⟩ := run2 (c8 := fun μ => f_X8_meets F μ 0 (xs (i + 1)) (xs (i + 2)) (xs (i + 3))) (c9 := fun μ => f_X9_meets F μ 166 (xs (i + 1)) (xs (i + 2)) (xs (i + 3))) hr (fun σ μ μ' ho hC hM => S_meets hF ho hC hM _ _ _)
                    have w1 : f_X8_meets F μ 0 (xs (i + 1)) (xs (i + 2)) (xs (i + 3)) = some (v, μ1) := w1
                    have w2 : f_X9_meets F μ1 166 (xs (i + 1)) (xs (i + 2)) (xs (i + 3)) = some (v, μ2) := w2
                    rw [w1, bW_some, w2, bW_some, if_pos (rfl : v = v)]
                    exact ih μ2 r2
                  · rw [if_neg h6]
                    by_cases h7 : xs i &&& 31 = 7
                    · rw [if_pos h7]
                      obtain ⟨v, μ1, μ2, w1, w2, r2⟩ := run2 (c8 := fun μ => f_X8_claims F μ 0 (xs (i + 1)) (xs (i + 2))) (c9 := fun μ => f_X9_claims F μ 166 (xs (i + 1)) (xs (i + 2))) hr (fun σ μ μ' ho hC hM => S_claims hF ho hC hM _ _)
                      have w1 : f_X8_claims F μ 0 (xs (i + 1)) (xs (i + 2)) = some (v, μ1) := w1
                      have w2 : f_X9_claims F μ1 166 (xs (i + 1)) (xs (i + 2)) = some (v, μ2) := w2
                      rw [w1, bW_some, w2, bW_some, if_pos (rfl : v = v)]
                      exact ih μ2 r2
                    · rw [if_neg h7]
                      by_cases h8 : xs i &&& 31 = 8
                      · rw [if_pos h8]
                        obtain ⟨v, μ1, μ2, w1, w2, r2⟩ := run2 (c8 := fun μ => f_X8_patents F μ 0 (xs (i + 1)) (xs (i + 2))) (c9 := fun μ => f_X9_patents F μ 166 (xs (i + 1)) (xs (i + 2))) hr (fun σ μ μ' ho hC hM => S_patents hF ho hC hM _ _)
                        have w1 : f_X8_patents F μ 0 (xs (i + 1)) (xs (i + 2)) = some (v, μ1) := w1
                        have w2 : f_X9_patents F μ1 166 (xs (i + 1)) (xs (i + 2)) = some (v, μ2) := w2
                        rw [w1, bW_some, w2, bW_some, if_pos (rfl : v = v)]
                        exact ih μ2 r2
                      · rw [if_neg h8]
                        by_cases h9 : xs i &&& 31 = 9
                        · rw [if_pos h9]
                          obtain ⟨v, μ1, μ2, w1, w2, r2⟩ := run2 (c8 := fun μ => f_X8_shuts F μ 0 (xs (i + 1)) (xs (i + 2))) (c9 := fun μ => f_X9_shuts F μ 166 (xs (i + 1)) (xs (i + 2))) hr (fun σ μ μ' ho hC hM => S_shuts hF ho hC hM _ _)
                          have w1 : f_X8_shuts F μ 0 (xs (i + 1)) (xs (i + 2)) = some (v, μ1) := w1
                          have w2 : f_X9_shuts F μ1 166 (xs (i + 1)) (xs (i + 2)) = some (v, μ2) := w2
                          rw [w1, bW_some, w2, bW_some, if_pos (rfl : v = v)]
                          exact ih μ2 r2
                        · rw [if_neg h9]
                          by_cases h10 : xs i &&& 31 = 10
                          · rw [if_pos h10]
                            obtain ⟨v, μ1, μ2, w1, w2, r2⟩ := run2 (c8 := fun μ => f_X8_undo F μ 0) (c9 := fun μ => f_X9_undo F μ 166) hr (fun σ μ μ' ho hC hM => S_undo hF ho hC hM)
                            have w1 : f_X8_undo F μ 0 = some (v, μ1) := w1
                            have w2 : f_X9_undo F μ1 166 = some (v, μ2) := w2
                            rw [w1, bW_some, w2, bW_some, if_pos (rfl : v = v)]
                            exact ih μ2 r2
                          · rw [if_neg h10]
                            by_cases h11 : xs i &&& 31 = 11
                            · rw [if_pos h11]
                              obtain ⟨σ, ho, hC, hM⟩ := id hr
                              have vC := RcC_VC ho hC
                              have vM := RcM_VM ho hM
                              have gC := hC.2.2.2.2.2.1
                              have gM' := hM.2.2.2.2.1
                              have gO := ho.2.2.2.2
                              obtain ⟨v, w1, w2⟩ := S_now hF vC vM gC gM' gO (xs (i + 1))
                              rw [w1, Option.bind_some, w2, Option.bind_some, if_pos (rfl : v = v)]
                              exact ih μ hr
                            · rw [if_neg h11]
                              by_cases h12 : xs i &&& 31 = 12
                              · rw [if_pos h12]
                                obtain ⟨v, μ1, μ2, w1, w2, r2⟩ := run2 (c8 := fun μ => f_X8_way F μ 0 (xs (i + 1)) (xs (i + 2)) (xs (i + 3))) (c9 := fun μ => f_X9_way F μ 166 (xs (i + 1)) (xs (i + 2)) (xs (i + 3))) hr (fun σ μ μ' ho hC hM => Stps_two ho hC hM (S_way hF (RcC_VC ho hC) (RcM_VM ho hM) _ _ _))
                                have w1 : f_X8_way F μ 0 (xs (i + 1)) (xs (i + 2)) (xs (i + 3)) = some (v, μ1) := w1
                                have w2 : f_X9_way F μ1 166 (xs (i + 1)) (xs (i + 2)) (xs (i + 3)) = some (v, μ2) := w2
                                rw [w1, bW_some, w2, bW_some, if_pos (rfl : v = v)]
                                exact ih μ2 r2
                              · rw [if_neg h12]
                                by_cases h13 : xs i &&& 31 = 13
                                · rw [if_pos h13]
                                  obtain ⟨v, μ1, μ2, w1, w2, r2⟩ := run2 (c8 := fun μ => f_X8_lacks F μ 0 (xs (i + 1)) (xs (i + 2))) (c9 := fun μ => f_X9_lacks F μ 166 (xs (i + 1)) (xs (i + 2))) hr (fun σ μ μ' ho hC hM => Stps_two ho hC hM (S_lacks hF (RcC_VC ho hC) (RcM_VM ho hM) _ _))
                                  have w1 : f_X8_lacks F μ 0 (xs (i + 1)) (xs (i + 2)) = some (v, μ1) := w1
                                  have w2 : f_X9_lacks F μ1 166 (xs (i + 1)) (xs (i + 2)) = some (v, μ2) := w2
                                  rw [w1, bW_some, w2, bW_some, if_pos (rfl : v = v)]
                                  exact ih μ2 r2
                                · rw [if_neg h13]
                                  by_cases h14 : xs i &&& 31 = 14
                                  · rw [if_pos h14]
                                    obtain ⟨σ, ho, hC, hM⟩ := id hr
                                    have vC := RcC_VC ho hC
                                    have vM := RcM_VM ho hM
                                    obtain ⟨v, w1, w2⟩ := S_must hF vC vM (xs (i + 1)) (xs (i + 2))
                                    rw [w1, Option.bind_some, w2, Option.bind_some, if_pos (rfl : v = v)]
                                    exact ih μ hr
                                  · rw [if_neg h14]
                                    by_cases h15 : xs i &&& 31 = 15
                                    · rw [if_pos h15]
                                      obtain ⟨σ, ho, hC, hM⟩ := id hr
                                      have vC := RcC_VC ho hC
                                      have vM := RcM_VM ho hM
                                      obtain ⟨v, w1, w2⟩ := S_odds hF vC vM (xs (i + 1)) (xs (i + 2)) (xs (i + 3)) (xs (i + 4))
                                      rw [w1, Option.bind_some, w2, Option.bind_some, if_pos (rfl : v = v)]
                                      exact ih μ hr
                                    · rw [if_neg h15]
                                      by_cases h16 : xs i &&& 31 = 16
                                      · rw [if_pos h16]
                                        obtain ⟨σ, ho, hC, hM⟩ := id hr
                                        have vC := RcC_VC ho hC
                                        have vM := RcM_VM ho hM
                                        obtain ⟨v, w1, w2⟩ := S_meeting (F := F) vC vM (xs (i + 1)) (xs (i + 2)) (xs (i + 3))
                                        rw [w1, Option.bind_some, w2, Option.bind_some, if_pos (rfl : v = v)]
                                        exact ih μ hr
                                      · rw [if_neg h16]
                                        by_cases h17 : xs i &&& 31 = 17
                                        · rw [if_pos h17]
                                          obtain ⟨v, μ1, μ2, w1, w2, r2⟩ := run2 (c8 := fun μ => f_X8_theatre F μ 0 (xs (i + 1)) (xs (i + 2))) (c9 := fun μ => f_X9_theatre F μ 166 (xs (i + 1)) (xs (i + 2))) hr (fun σ μ μ' ho hC hM => Stps_two ho hC hM (S_theatre hF (RcC_VC ho hC) (RcM_VM ho hM) _ _))
                                          have w1 : f_X8_theatre F μ 0 (xs (i + 1)) (xs (i + 2)) = some (v, μ1) := w1
                                          have w2 : f_X9_theatre F μ1 166 (xs (i + 1)) (xs (i + 2)) = some (v, μ2) := w2
                                          rw [w1, bW_some, w2, bW_some, if_pos (rfl : v = v)]
                                          exact ih μ2 r2
                                        · rw [if_neg h17]
                                          by_cases h18 : xs i &&& 31 = 18
                                          · rw [if_pos h18]
                                            obtain ⟨σ, ho, hC, hM⟩ := id hr
                                            have vC := RcC_VC ho hC
                                            have vM := RcM_VM ho hM
                                            obtain ⟨v, w1, w2⟩ := S_narrow hF vC vM (xs (i + 1))
                                            rw [w1, Option.bind_some, w2, Option.bind_some, if_pos (rfl : v = v)]
                                            exact ih μ hr
                                          · rw [if_neg h18]
                                            by_cases h19 : xs i &&& 31 = 19
                                            · rw [if_pos h19]
                                              obtain ⟨σ, ho, hC, hM⟩ := id hr
                                              have vC := RcC_VC ho hC
                                              have vM := RcM_VM ho hM
                                              obtain ⟨v, w1, w2⟩ := S_order hF vC vM (xs (i + 1))
                                              rw [w1, Option.bind_some, w2, Option.bind_some, if_pos (rfl : v = v)]
                                              exact ih μ hr
                                            · rw [if_neg h19]
                                              by_cases h20 : xs i &&& 31 = 20
                                              · rw [if_pos h20]
                                                obtain ⟨v, μ1, μ2, w1, w2, r2⟩ := run2 (c8 := fun μ => f_X8_gate F μ 0 (xs (i + 1)) (xs (i + 2))) (c9 := fun μ => f_X9_gate F μ 166 (xs (i + 1)) (xs (i + 2))) hr (fun σ μ μ' ho hC hM => S_gate ho hC hM _ _)
                                                have w1 : f_X8_gate F μ 0 (xs (i + 1)) (xs (i + 2)) = some (v, μ1) := w1
                                                have w2 : f_X9_gate F μ1 166 (xs (i + 1)) (xs (i + 2)) = some (v, μ2) := w2
                                                rw [w1, bW_some, w2, bW_some, if_pos (rfl : v = v)]
                                                exact ih μ2 r2
                                              · rw [if_neg h20]
                                                by_cases h21 : xs i &&& 31 = 21
                                                · rw [if_pos h21]
                                                  obtain ⟨v, μ1, μ2, w1, w2, r2⟩ := run2 (c8 := fun μ => f_X8_forget F μ 0) (c9 := fun μ => f_X9_forget F μ 166) hr (fun σ μ μ' ho hC hM => S_forget ho hC hM)
                                                  have w1 : f_X8_forget F μ 0 = some (v, μ1) := w1
                                                  have w2 : f_X9_forget F μ1 166 = some (v, μ2) := w2
                                                  rw [w1, bW_some, w2, bW_some, if_pos (rfl : v = v)]
                                                  exact ih μ2 r2
                                                · rw [if_neg h21]
                                                  by_cases h22 : xs i &&& 31 = 22
                                                  · rw [if_pos h22]
                                                    obtain ⟨σ, ho, hC, hM⟩ := id hr
                                                    have vC := RcC_VC ho hC
                                                    have vM := RcM_VM ho hM
                                                    have gC := hC.2.2.2.2.2.1
                                                    have gM' := hM.2.2.2.2.1
                                                    have gO := ho.2.2.2.2
                                                    obtain ⟨v, w1, w2⟩ := S_fits hF vC vM gC gM' gO (xs (i + 1))
                                                    rw [w1, Option.bind_some, w2, Option.bind_some, if_pos (rfl : v = v)]
                                                    exact ih μ hr
                                                  · rw [if_neg h22]
                                                    by_cases h23 : xs i &&& 31 = 23
                                                    · rw [if_pos h23]
                                                      obtain ⟨v, μ1, μ2, w1, w2, r2⟩ := run2 (c8 := fun μ => f_X8_mark F μ 0 (xs (i + 1)) (xs (i + 2))) (c9 := fun μ => f_X9_mark F μ 166 (xs (i + 1)) (xs (i + 2))) hr (fun σ μ μ' ho hC hM => S_mark hF ho hC hM _ _)
                                                      have w1 : f_X8_mark F μ 0 (xs (i + 1)) (xs (i + 2)) = some (v, μ1) := w1
                                                      have w2 : f_X9_mark F μ1 166 (xs (i + 1)) (xs (i + 2)) = some (v, μ2) := w2
                                                      rw [w1, bW_some, w2, bW_some, if_pos (rfl : v = v)]
                                                      exact ih μ2 r2
                                                    · rw [if_neg h23]
                                                      by_cases h24 : xs i &&& 31 = 24
                                                      · rw [if_pos h24]
                                                        obtain ⟨v, μ1, μ2, w1, w2, r2⟩ := run2 (c8 := fun μ => f_X8_keep F μ 0 (xs (i + 1))) (c9 := fun μ => f_X9_keep F μ 166 (xs (i + 1))) hr (fun σ μ μ' ho hC hM => S_keep hF ho hC hM _)
                                                        have w1 : f_X8_keep F μ 0 (xs (i + 1)) = some (v, μ1) := w1
                                                        have w2 : f_X9_keep F μ1 166 (xs (i + 1)) = some (v, μ2) := w2
                                                        rw [w1, bW_some, w2, bW_some, if_pos (rfl : v = v)]
                                                        exact ih μ2 r2
                                                      · rw [if_neg h24]
                                                        by_cases h25 : xs i &&& 31 = 25
                                                        · rw [if_pos h25]
                                                          obtain ⟨v, μ1, μ2, w1, w2, r2⟩ := run2 (c8 := fun μ => f_X8_back F μ 0 (xs (i + 1))) (c9 := fun μ => f_X9_back F μ 166 (xs (i + 1))) hr (fun σ μ μ' ho hC hM => S_back hF ho hC hM _)
                                                          have w1 : f_X8_back F μ 0 (xs (i + 1)) = some (v, μ1) := w1
                                                          have w2 : f_X9_back F μ1 166 (xs (i + 1)) = some (v, μ2) := w2
                                                          rw [w1, bW_some, w2, bW_some, if_pos (rfl : v = v)]
                                                          exact ih μ2 r2
                                                        · rw [if_neg h25]
                                                          by_cases h26 : xs i &&& 31 = 26
                                                          · rw [if_pos h26]
                                                            obtain ⟨σ, ho, hC, hM⟩ := id hr
                                                            have vC := RcC_VC ho hC
                                                            have vM := RcM_VM ho hM
                                                            obtain ⟨v, w1, w2⟩ := S_count (F := F) hC hM (xs (i + 1))
                                                            rw [w1, Option.bind_some, w2, Option.bind_some, if_pos (rfl : v = v)]
                                                            exact ih μ hr
                                                          · rw [if_neg h26]
                                                            by_cases h27 : xs i &&& 31 = 27
                                                            · rw [if_pos h27]
                                                              obtain ⟨σ, ho, hC, hM⟩ := id hr
                                                              have vC := RcC_VC ho hC
                                                              have vM := RcM_VM ho hM
                                                              obtain ⟨v, w1, w2⟩ := S_trace (F := F) hC hM
                                                              rw [w1, Option.bind_some, w2, Option.bind_some, if_pos (lg_cmp_self v)]
                                                              exact ih μ hr
                                                            · rw [if_neg h27]
                                                              exact ih μ hr
/-- before the first call -/
def σI : St := (((2, 0, 0, 4, 1), (fun _ => 0), (fun _ => 0), (fun _ => 0)), (((fun _ => 0), (fun _ => 0), (fun _ => 0), 0), []), (fun _ => none), [], [], 0)
theorem PtI (q : Nat) (h : ∀ i, i < 10 → gR μI (q + 5) i = q + 6 + 4 * i) : PtC μI q := ⟨fun i => i, fun i hi => ⟨h i hi, hi⟩, fun i j _ _ e => e⟩
theorem RelI : Rel μI := by
  refine ⟨σI, ⟨⟨by decide, by decide, by decide, by decide, by decide, by decide, by decide, fun l hl => by exact absurd hl (Nat.not_lt_zero l)⟩, ⟨⟨fun p hp => by exact absurd hp (Nat.not_lt_zero p), by decide⟩, by decide, fun m hm => by cases hm⟩, (fun i c hc => by cases hc), ⟨by decide, fun x hx => by cases hx⟩, by decide, fun x hx => by cases hx⟩, ?_, ?_⟩
  · refine ⟨⟨4, 10, by decide +kernel, by decide +kernel, Or.inl ⟨rfl, rfl⟩, by decide +kernel, by decide +kernel, by decide +kernel, by decide +kernel, by decide +kernel, fun l hl => by exact absurd hl (Nat.not_lt_zero l)⟩, PtI 16 (by decide +kernel), ⟨⟨by decide +kernel, fun p hp => by exact absurd hp (Nat.not_lt_zero p)⟩, by decide +kernel, by decide, fun i hi => by cases hi⟩, fun i hi => ⟨?_, ?_, ?_, fun c hc => by cases hc⟩, ⟨by decide +kernel, fun i hi => by cases hi⟩, ⟨by decide +kernel, fun i hi => by cases hi⟩, by decide +kernel⟩
    · rcases (show i = 0 ∨ i = 1 by omega) with rfl | rfl <;> decide +kernel
    · rcases (show i = 0 ∨ i = 1 by omega) with rfl | rfl
      · exact PtI 74 (by decide +kernel)
      · exact PtI 120 (by decide +kernel)
    · rcases (show i = 0 ∨ i = 1 by omega) with rfl | rfl <;> decide +kernel
  · refine ⟨⟨by decide +kernel, by decide +kernel, by decide +kernel, by decide +kernel, by decide +kernel, fun l hl => by exact absurd hl (Nat.not_lt_zero l)⟩, ⟨⟨by decide +kernel, fun p hp => by exact absurd hp (Nat.not_lt_zero p)⟩, by decide +kernel, by decide, fun i hi => by cases hi⟩, fun i hi => ⟨?_, fun c hc => by cases hc⟩, ⟨by decide +kernel, fun i hi => by cases hi⟩, ⟨by decide +kernel, fun i hi => by cases hi⟩, by decide +kernel⟩
    rcases (show i = 0 ∨ i = 1 by omega) with rfl | rfl <;> decide +kernel
theorem law_ok (L : Nat) (xs : Nat → Int32) (hL : L ≤ 2560) : ∃ F μ2, f_law F L xs μI = some (1, μ2) := by
  obtain ⟨μ2, h⟩ := law_run (F := 5000) (Nat.le_refl _) L xs hL 5000 0 μI RelI (by omega) (by omega) (by omega)
  exact ⟨5000, μ2, h⟩
