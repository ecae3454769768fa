section R68
variable {F d : Nat} {μ μ' : Mem} {tx : List Nat} {pos : Nat} {D : Dr}
theorem kM_stop {pos : Nat} (hp : pos ≤ tx.length) : kM (tk tx pos) = 2 ↔ (tk tx pos).2.1 = 3 := by
  obtain ⟨k1, k2, k3, k4, k5, k6, k7⟩ := tk_ok (tx := tx) hp
  unfold kM
  by_cases c0 : (tk tx pos).2.1 = 0
  · rw [if_pos c0]; omega
  · rw [if_neg c0]
    by_cases c1 : (tk tx pos).2.1 = 1
    · have := k6 c1
      rw [if_pos c1]; omega
    · rw [if_neg c1]
      by_cases c2 : (tk tx pos).2.1 = 2
      · rw [if_pos c2]; omega
      · rw [if_neg c2]
        split <;> omega
theorem kM_end {pos : Nat} (hp : pos ≤ tx.length) : kM (tk tx pos) = 3 ↔ (tk tx pos).2.1 = 0 := by
  obtain ⟨k1, k2, k3, k4, k5, k6, k7⟩ := tk_ok (tx := tx) hp
  unfold kM
  by_cases c0 : (tk tx pos).2.1 = 0
  · rw [if_pos c0]; omega
  · rw [if_neg c0]
    by_cases c1 : (tk tx pos).2.1 = 1
    · have := k6 c1
      rw [if_pos c1]; omega
    · rw [if_neg c1]
      by_cases c2 : (tk tx pos).2.1 = 2
      · rw [if_pos c2]; omega
      · rw [if_neg c2]
        split <;> omega
theorem L25_step {kont : Int32 → Mem → Option (Int32 × Mem)} {n m : Nat} (hn : n < 150) (h : ¬ gI μ 1 3 = 0) : f_X4_read_L25 F 1 d kont (m + 1) (nI n) μ = bW (f_X4_readItem F μ 1 d (if n = 0 then 1 else 0)) (fun v μ => if v = 0 then some (-1, μ) else (f_X4_takeToken F μ 1).bind (fun μ => if gI μ 1 3 = 3 then (f_X4_takeToken F μ 1).bind (fun μ => f_X4_read_L25 F 1 d kont m (nI n + 1) μ) else some (-1, μ))) := by
  rw [f_X4_read_L25, if_pos (show nI n < (150 : Int32) from nI_lt hn (by decide)), if_neg h]
  by_cases z : n = 0
  · rw [if_pos (show nI n = 0 by rw [z]; rfl), if_pos z]
  · rw [if_neg (show ¬ nI n = 0 from fun y => z ((nI_eq (b := 0) (by omega) (by decide)).mp y)), if_neg z]
theorem due9 (e8 : ¬ gI μ 166 18 = -9) (x : Int32) : f_X9_due F μ 166 x = some (gI μ 166 17, μ) := by
  unfold f_X9_due
  rw [if_neg e8]
theorem L21_fault {kont : Int32 → Mem → Option (Int32 × Mem)} {m : Nat} {x : Int32} (e8 : ¬ gI μ 166 18 = -9) : f_X9_capital_L21 F 166 kont (m + 1) x μ = kont x μ := by
  rw [f_X9_capital_L21, if_neg e8]
theorem L21_bad {kont : Int32 → Mem → Option (Int32 × Mem)} {n m : Nat} {μ2 : Mem} (e8 : gI μ 166 18 = -9) (e6 : ¬ gI μ 166 16 = 3) (h : mItem F n μ = some μ2) (h8 : ¬ gI μ2 166 18 = -9) : ∃ x, f_X9_capital_L21 F 166 kont (m + 2) (nI n) μ = kont x μ2 := by
  unfold mItem mGo at h
  rw [f_X9_capital_L21, if_pos e8, if_neg e6]
  cases e1 : f_X9_mayBe F μ 166 (gI μ 166 16) (nI n) with
  | none => rw [e1] at h; cases h
  | some v =>
    rw [e1, Option.bind_some] at h
    rw [Option.bind_some]
    cases e2 : f_X9_due F μ 166 v with
    | none => rw [e2] at h; cases h
    | some r =>
      obtain ⟨v2, μ1⟩ := r
      rw [e2, bW_some] at h
      rw [bW_some]
      by_cases c : gI μ1 166 18 = -9
      · rw [if_pos c] at h
        rw [if_pos c, h, Option.bind_some, due9 h8, due9 h8, bW_some, ite_self]
        exact ⟨_, L21_fault h8⟩
      · rw [if_neg c] at h
        cases h
        rw [if_neg c]
        exact ⟨_, L21_fault c⟩
theorem L21_good {kont : Int32 → Mem → Option (Int32 × Mem)} {n m : Nat} {μ2 : Mem} (e8 : gI μ 166 18 = -9) (e6 : ¬ gI μ 166 16 = 3) (h : mItem F n μ = some μ2) (h8 : gI μ2 166 18 = -9) : f_X9_capital_L21 F 166 kont (m + 1) (nI n) μ = if gI μ2 166 16 = 2 then bW (f_X9_due F μ2 166 1) (fun _ μ => f_X9_capital_L21 F 166 kont m (nI n + 1) μ) else bW (f_X9_due F μ2 166 0) (fun _ μ => f_X9_capital_L21 F 166 kont m (nI n + 1) μ) := by
  unfold mItem mGo at h
  rw [f_X9_capital_L21, if_pos e8, if_neg e6]
  cases e1 : f_X9_mayBe F μ 166 (gI μ 166 16) (nI n) with
  | none => rw [e1] at h; cases h
  | some v =>
    rw [e1, Option.bind_some] at h
    rw [Option.bind_some]
    cases e2 : f_X9_due F μ 166 v with
    | none => rw [e2] at h; cases h
    | some r =>
      obtain ⟨v2, μ1⟩ := r
      rw [e2, bW_some] at h
      rw [bW_some]
      by_cases c : gI μ1 166 18 = -9
      · rw [if_pos c] at h
        rw [if_pos c, h, Option.bind_some]
      · rw [if_neg c] at h
        cases h
        exact absurd h8 c
theorem loop_two (hF : 5000 ≤ F) (hd : 4 ≤ d) (ho : OkT tx) (kC kN : Int32 → Mem → Option (Int32 × Mem)) : ∀ (k pos n : Nat) (D : Dr) (μ μ' : Mem) (n1 n2 : Nat), tx.length < pos + k → k < n1 → k + 1 < n2 → n ≤ pos → CTk d tx pos D μ → MSt tx pos D μ' → OkDr D → (n = 0 → gN D.1 = 0 ∧ gM D.1 = 0) →
    (∃ m D' μ1 μ2, m ≤ 150 ∧ f_X4_read_L25 F 1 d kC n1 (nI n) μ = kC (nI m) μ1 ∧ f_X9_capital_L21 F 166 kN n2 (nI n) μ' = kN (nI m) μ2 ∧ OkDr D' ∧ DrC d μ1 D' ∧ DrM μ2 D' ∧ FrC d μ μ1 ∧ FrM μ' μ2 ∧ gI μ2 166 18 = -9) ∨
    (∃ s x μ1 μ2, s ≤ 150 ∧ f_X4_read_L25 F 1 d kC n1 (nI n) μ = some (-1, μ1) ∧ f_X9_capital_L21 F 166 kN n2 (nI n) μ' = kN x μ2 ∧ FrC d μ μ1 ∧ FrM μ' μ2 ∧ gI μ1 1 2 = nI s ∧ gI μ2 166 18 = nI s)
  | 0, pos, n, D, μ, μ', n1, n2, hk, _, _, _, _, hm, _, _ => by
    have := hm.2.1.1
    omega
  | k + 1, pos, n, D, μ, μ', n1, n2, hk, hn1, hn2, hn, hc, hm, hD, h0 => by
    obtain ⟨n1, rfl⟩ : ∃ j, n1 = j + 1 := ⟨n1 - 1, by omega⟩
    obtain ⟨n2, rfl⟩ : ∃ j, n2 = j + 2 := ⟨n2 - 2, by omega⟩
    have hp := hm.2.1.1
    have h1 := ho.1
    obtain ⟨k1, k2, k3, k4, k5, k6, k7⟩ := tk_ok (tx := tx) hp
    have e3 := hc.2.2.2.1
    have e16 := hm.2.1.2.2.2.1
    have e8 := hm.2.2.1
    have hkm := kM_lt hp
    by_cases c0 : (tk tx pos).2.1 = 0
    · left
      have z3 : gI μ 1 3 = 0 := by rw [e3, c0]; rfl
      have z6 : gI μ' 166 16 = 3 := by rw [e16, (kM_end hp).mpr c0]; rfl
      refine ⟨n, D, μ, μ', by omega, ?_, ?_, hD, hc.2.2.2.2.2, hm.2.2.2, FrC_rfl d μ, FrM_rfl μ', e8⟩
      · rw [f_X4_read_L25, if_pos z3, ite_self]
      · rw [f_X9_capital_L21, if_pos e8, if_pos z6]
    · have z3 : ¬ gI μ 1 3 = 0 := by
        rw [e3]
        exact fun z => c0 ((nI_eq (b := 0) (by omega) (by decide)).mp z)
      have z6 : ¬ gI μ' 166 16 = 3 := by
        rw [e16]
        exact fun z => c0 ((kM_end hp).mp ((nI_eq (b := 3) (by omega) (by decide)).mp z))
      have k4 := k4 c0
      have hn150 : n < 150 := by omega
      rw [L25_step hn150 z3]
      rcases item_two hF hd ho c0 hc hm hD (show n < 1000 by omega) h0 with ⟨D', p', μ1, μ2, x1, x2, x3, x4, x5, x6, x7, x8⟩ | ⟨s, μ1, μ2, x0, x1, x2, x3, x4, x5, x6⟩
      · have hp' := x8.2.1.1
        have y8 := x8.2.2.1
        have y16 := x8.2.1.2.2.2.1
        obtain ⟨l1, l2, l3, l4, l5, l6, l7⟩ := tk_ok (tx := tx) hp'
        have hkm' := kM_lt hp'
        obtain ⟨μ3, f3, r3⟩ := C_takeToken hF x7.1 ho hp' x7.2.1
        rw [x1, bW_some, if_neg (show ¬ (1 : Int32) = 0 by decide), f3, Option.bind_some, L21_good e8 z6 x2 y8, r3.2.2.2.1, y16]
        by_cases c3 : (tk tx p').2.1 = 3
        · have hC3 := CTk_of hd x7.1 x7.2.2 r3
          obtain ⟨μ4, f4, r4⟩ := C_takeToken hF hC3.1 ho l3 hC3.2.1
          obtain ⟨μ5, f5, r5⟩ := M_dueT hF x8.1 ho l3 x8.2.1.2.1 y8
          have l4 := l4 (by omega)
          rw [if_pos (show nI (tk tx p').2.1 = 3 by rw [c3]; rfl), f4, Option.bind_some, if_pos (show nI (kM (tk tx p')) = 2 by rw [(kM_stop hp').mpr c3]; rfl), f5, bW_some, nI_1]
          have hm5 : MSt tx (tk tx p').2.2.2 D' μ5 := ⟨TxM_om r5.1 x8.1, MAt_of l3 r5, by rw [r5.1.2.2 166 18 (by omega)]; exact y8, DrM_om r5.1 x8.2.2.2⟩
          have fc : FrC d μ μ4 := FrC_tr x3 (FrC_tr (FrC_off r3.1) (FrC_off r4.1))
          have fm : FrM μ' μ5 := FrM_tr x4 (FrM_om r5.1)
          rcases loop_two hF hd ho kC kN k (tk tx p').2.2.2 (n + 1) D' μ4 μ5 n1 (n2 + 1) (by omega) (by omega) (by omega) (by omega) (CTk_of hd hC3.1 hC3.2.2.2.2.2 r4) hm5 x6 (fun z => absurd z (by omega)) with ⟨m, D2, μ6, μ7, g1, g2, g3, g4, g5, g6, g7, g8, g9⟩ | ⟨s, x, μ6, μ7, g1, g2, g3, g4, g5, g6, g7⟩
          · left
            exact ⟨m, D2, μ6, μ7, g1, g2, g3, g4, g5, g6, FrC_tr fc g7, FrM_tr fm g8, g9⟩
          · right
            exact ⟨s, x, μ6, μ7, g1, g2, g3, FrC_tr fc g4, FrM_tr fm g5, g6, g7⟩
        · right
          have y15 := x8.2.1.2.2.1
          rw [if_neg (show ¬ nI (tk tx p').2.1 = 3 from fun z => c3 ((nI_eq (b := 3) (by omega) (by decide)).mp z)), if_neg (show ¬ nI (kM (tk tx p')) = 2 from fun z => c3 ((kM_stop hp').mp ((nI_eq (b := 2) (by omega) (by decide)).mp z))), M_dueF y8, bW_some, y15, L21_fault (by rw [sI_eq]; exact nI_n9 (by omega))]
          exact ⟨(tk tx p').1, _, μ3, _, by omega, rfl, rfl, FrC_tr x3 (FrC_off r3.1), FrM_tr x4 (FrM_sI (FrM_rfl μ2) (by unfold Drf; omega) _), r3.2.2.1, sI_eq⟩
      · right
        obtain ⟨x, gx⟩ := L21_bad (kont := kN) (m := n2) e8 z6 x2 (by rw [x6]; exact nI_n9 (by omega))
        rw [x1, bW_some, if_pos (rfl : (0 : Int32) = 0), gx]
        exact ⟨s, x, μ1, μ2, x0, rfl, rfl, x3, x4, x5, x6⟩
end R68
