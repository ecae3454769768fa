section R33
variable {F : Nat} {μ μ' : Mem} {g : Cfg} {m : Mo} {c : Nat → Nat} {b : Nat}
theorem S_way (hF : 5000 ≤ F) (hC : VC μ g m) (hM : VM μ' g m) (a e s : Int32) : Two μ μ' (f_X8_way F μ 0 a e s) (f_X9_way F μ' 166 a e s) := by
  have hg := hC.2.2.1
  have h5 := hg.2.2.2.1
  have hP := hg.2.1
  unfold f_X8_way f_X9_way
  rw [C_noPerson hC, M_isPerson hM, Option.bind_some, Option.bind_some]
  by_cases ha : okN a (gM g) = true
  · rw [C_noPlace hC, M_isPlace hM, Option.bind_some, Option.bind_some]
    by_cases hb : okN e (gP g) = true
    · simp only [ha, hb, if_true, if_false, show ¬ (1 : Int32) = 0 by decide]
      by_cases hs : s < -1
      · simp only [hs, if_true]; exact two_same
      · simp only [hs, if_false]
        obtain ⟨p, hp, rfl⟩ := okN_of (by omega) ha
        obtain ⟨b, hb', rfl⟩ := okN_of (by omega) hb
        obtain ⟨μ1, d1, e1⟩ := C_countLanes hF hC hb' (alw g m p (mC m))
        obtain ⟨μ2, d2, e2⟩ := M_measure (k := 0) hF hM hp (by decide) hb'
        have e2 : f_X9_measure F μ' 166 (nI p) (nI b) 0 = some μ2 := e2
        rw [cst0] at d1
        have hC1 := VC_sc d1.1 hC
        have hM1 := VM_sc d2.1 hM
        have hat := C_at hC1 hp
        have hat2 := M_at hM1 hp
        have hap := (hC.2.2.2.1 p hp).2
        obtain ⟨j1, j2⟩ := M_ixp (p := p) (b := 0) (by omega) (by decide)
        have j1 : ix (0 + nI p) 531 = true := j1
        have j2 : (0 + nI p).toNatClampNeg = 0 + p := j2
        have k1 : ix (nI (mA m p)) 8 = true := nI_ix (by omega) (by decide)
        have k2 : (nI (mA m p)).toNatClampNeg = mA m p := nI_clamp (by omega)
        have hf := C_from (F := F) hg d1 (ds_top _) hap
        rw [C_passable hF hC hp, Option.bind_some]
        simp only [show (0 + 67 : Nat) = 67 from rfl, e1, e2, Option.bind_some, ix5 hg hp, cl5 hg hp, if_true, lt_eq, show (0 + 16 + 1 + 2 : Nat) = 19 from rfl, hat, hf, j1, j2, hat2, k1, k2, show (166 + 14 : Nat) = 180 from rfl, d2.2 _ (show mA m p < 8 by omega)]
        have hrun := ds_top (g := g) (c := cst g m p 0) (b := b) (mA m p)
        have hle := ds_le (g := g) (b := b) (one0 (m := m) p) (gP g - 1) (mA m p)
        have hle : ds g (cst g m p 0) b (mA m p) < 100000 → ds g (cst g m p 0) b (mA m p) ≤ gP g - 1 := hle
        by_cases q1 : ds g (cst g m p 0) b (mA m p) < 100000
        · have n9 : ¬ nI (ds g (cst g m p 0) b (mA m p)) = (-9 : Int32) := fun z => by
            have z2 := congrArg Int32.toInt z
            rw [nI_toInt (by omega)] at z2
            have : (-9 : Int32).toInt = -9 := by decide +kernel
            omega
          simp only [q1, if_true, n9, if_false]
          rw [if_pos (show nI (ds g (cst g m p 0) b (mA m p)) < (100000 : Int32) from (nI_lt q1 (by decide) : _ < nI 100000))]
          by_cases q2 : s = -1
          · subst q2
            have hneg : (-1 : Int32) < nI (ds g (cst g m p 0) b (mA m p)) := by
              rw [Int32.lt_iff_toInt_lt, nI_toInt (by omega)]
              have : (-1 : Int32).toInt = -1 := by decide +kernel
              omega
            rw [if_pos rfl, if_pos hneg]
            refine ⟨_, μ1, μ2, rfl, ?_, d1.1, d2.1⟩
            obtain ⟨kF, rfl⟩ : ∃ kF, F = kF + 1 := ⟨F - 1, by omega⟩
            rw [f_X9_way_L72, if_pos (show (-1 : Int32) < 0 by decide)]
          · rw [if_neg q2]
            have hs0 : ¬ s < 0 := fun z => by
              rw [Int32.lt_iff_toInt_lt] at hs z
              have e1 : (-1 : Int32).toInt = -1 := by decide +kernel
              have e0 : (0 : Int32).toInt = 0 := by decide +kernel
              exact q2 (Int32.toInt_inj.mp (by rw [e1]; omega))
            obtain ⟨j, hj, rfl⟩ := nI_of hs0
            by_cases q3 : j < ds g (cst g m p 0) b (mA m p)
            · rw [if_pos (nI_lt q3 (by omega)), if_pos (nI_lt q3 (by omega))]
              obtain ⟨t, ht, _, hct⟩ := VC_t hC1
              obtain ⟨w, w1, w2⟩ := walk (t := t) (d := ds g (cst g m p 0) b (mA m p)) (s := j) (μ := μ) hF hM1 hp hct d1 d2.2 hb' (one0 p) q3 (hle q1) (j + 1) F F 0 (mA m p) (-9) (nI (ds g (cst g m p 0) b (mA m p))) (by omega) (by omega) (by omega) (by omega) hap (fun z => by omega)
              rw [show nI 0 = 0 from rfl] at w1 w2
              refine ⟨w, μ1, μ2, ?_, ?_, d1.1, d2.1⟩
              · unfold f_X1_laneOfWay
                rw [ht, w1]; rfl
              · rw [← w2]
            · rw [if_neg (nI_nlt (by omega) (by omega)), if_neg (nI_nlt (by omega) (by omega))]
              exact ⟨_, μ1, μ2, rfl, rfl, d1.1, d2.1⟩
        · rw [if_neg q1, if_pos (rfl : (-9 : Int32) = -9)]
          rw [if_neg (show ¬ nI (ds g (cst g m p 0) b (mA m p)) < (100000 : Int32) from (nI_nlt (by omega) (by omega) : ¬ _ < nI 100000))]
          exact ⟨_, μ1, μ2, rfl, rfl, d1.1, d2.1⟩
    · simp only [ha, hb, if_true, if_false, show ¬ (1 : Int32) = 0 by decide]
      exact two_same
  · simp only [ha, if_true, if_false, show ¬ (1 : Int32) = 0 by decide]
    exact two_same
end R33
