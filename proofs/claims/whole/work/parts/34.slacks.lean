section R34
variable {F : Nat} {μ μ' : Mem} {g : Cfg} {m : Mo} {c : Nat → Nat} {b : Nat}
theorem S_lacks (hF : 5000 ≤ F) (hC : VC μ g m) (hM : VM μ' g m) (a e : Int32) : Two μ μ' (f_X8_lacks F μ 0 a e) (f_X9_lacks F μ' 166 a e) := by
  have hg := hC.2.2.1
  have h5 := hg.2.2.2.1
  have hP := hg.2.1
  unfold f_X8_lacks f_X9_lacks
  rw [C_noPerson hC, M_isPerson hM, Option.bind_some, Option.bind_some]
  by_cases ha : okN a (gM g) = true
  · rw [C_noPlace hC, M_isPlace hM, Option.bind_some, Option.bind_some]
    by_cases hb : okN e (gP g) = true
    · simp only [ha, hb, if_true, if_false, show ¬ (1 : Int32) = 0 by decide]
      obtain ⟨p, hp, rfl⟩ := okN_of (by omega) ha
      obtain ⟨b, hb', rfl⟩ := okN_of (by omega) hb
      obtain ⟨μ1, d1, e1⟩ := C_addLacks hF hC hb' (wd_le hg hC.2.2.2 hp) (fun l => !(mC m).testBit l)
      obtain ⟨μ2, d2, e2⟩ := M_measure (k := 1) hF hM hp (by decide) hb'
      have e2 : f_X9_measure F μ' 166 (nI p) (nI b) 1 = some μ2 := e2
      rw [cst1] at d1
      have hC1 := VC_sc d1.1 hC
      have hM1 := VM_sc d2.1 hM
      have hat := C_at hC1 hp
      have hat2 := M_at hM1 hp
      have hap := (hC.2.2.2.1 p hp).2
      obtain ⟨j1, j2⟩ := M_ixp (p := p) (b := 0) (by omega) (by decide)
      have j1 : ix (0 + nI p) 531 = true := j1
      have j2 : (0 + nI p).toNatClampNeg = 0 + p := j2
      have k1 : ix (nI (mA m p)) 8 = true := nI_ix (by omega) (by decide)
      have k2 : (nI (mA m p)).toNatClampNeg = mA m p := nI_clamp (by omega)
      have hf := C_from (F := F) hg d1 (ds_top _) hap
      have hrun := ds_top (g := g) (c := cst g m p 1) (b := b) (mA m p)
      rw [C_open hC, C_wide hC hp, Option.bind_some, Option.bind_some]
      simp only [show (0 + 67 : Nat) = 67 from rfl, e1, e2, Option.bind_some, ix5 hg hp, cl5 hg hp, if_true, lt_eq, show (0 + 16 + 1 + 2 : Nat) = 19 from rfl, hat, hf, j1, j2, hat2, k1, k2, show (166 + 14 : Nat) = 180 from rfl, d2.2 _ (show mA m p < 8 by omega)]
      by_cases q1 : ds g (cst g m p 1) b (mA m p) < 100000
      · rw [if_pos q1, if_pos (show nI (ds g (cst g m p 1) b (mA m p)) < (100000 : Int32) from (nI_lt q1 (by decide) : _ < nI 100000))]
        exact ⟨_, μ1, μ2, rfl, rfl, d1.1, d2.1⟩
      · rw [if_neg q1, if_neg (show ¬ nI (ds g (cst g m p 1) b (mA m p)) < (100000 : Int32) from (nI_nlt (by omega) (by omega) : ¬ _ < nI 100000))]
        exact ⟨_, μ1, μ2, rfl, rfl, d1.1, d2.1⟩
    · simp only [ha, hb, if_true, if_false, show ¬ (1 : Int32) = 0 by decide]
      exact two_same
  · simp only [ha, if_true, if_false, show ¬ (1 : Int32) = 0 by decide]
    exact two_same
end R34
