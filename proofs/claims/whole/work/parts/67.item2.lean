section R67
variable {F d : Nat} {μ μ' : Mem} {tx : List Nat} {pos : Nat} {D : Dr}
/-- the class has taken the token from pos -/
def CTk (d : Nat) (tx : List Nat) (pos : Nat) (D : Dr) (μ : Mem) : Prop := TxC tx μ ∧ gI μ 1 1 = nI (tk tx pos).2.2.2 ∧ gI μ 1 2 = nI (tk tx pos).1 ∧ gI μ 1 3 = nI (tk tx pos).2.1 ∧ (((tk tx pos).2.1 = 1 ∨ (tk tx pos).2.1 = 2) → gI μ 1 4 = nI (tk tx pos).2.2.1) ∧ DrC d μ D
theorem CTk_of {μ1 : Mem} (hd : 4 ≤ d) (hc : TxC tx μ) (hD : DrC d μ D) (h : RdC μ μ1 (tk tx pos)) : CTk d tx pos D μ1 := ⟨TxC_off h.1 hc, h.2.1, h.2.2.1, h.2.2.2.1, h.2.2.2.2.1, DrC_rd hd h hD⟩
def yn (X : Option (Int32 × Mem)) : Option (Int32 × Mem) := bW X (fun v μ => if v = 0 then some (0, μ) else some (1, μ))
def mGo (F : Nat) (c : Int32) (v : Int32) (μ : Mem) : Option Mem := bW (f_X9_due F μ 166 v) (fun _ μ1 => if gI μ1 166 18 = -9 then f_X9_readRow F μ1 166 c else some μ1)
def mItem (F : Nat) (n : Nat) (μ : Mem) : Option Mem := (f_X9_mayBe F μ 166 (gI μ 166 16) (nI n)).bind (fun v => mGo F (gI μ 166 16) v μ)
theorem readItem_c {c : Nat} (hc : c < 1000) (e3 : gI μ 1 3 = 1) (e4 : gI μ 1 4 = nI c) (x : Int32) : f_X4_readItem F μ 1 d x =
    if c = 98 then (if gI μ 1 5 = 0 then yn (f_X4_readBody F μ 1 d) else some (0, μ)) else if c = 101 then (if gI μ 1 6 = 0 then yn (f_X4_readError F μ 1 d) else some (0, μ)) else if c = 108 then (if gI μ d 1 < 8 then yn (f_X4_readLane F μ 1 d) else some (0, μ)) else if c = 110 then (if x = 0 then some (0, μ) else yn (f_X4_readPlaces F μ 1 d)) else if c = 112 then (if gI μ d 5 < 5 then yn (f_X4_readPerson F μ 1 d) else some (0, μ)) else some (0, μ) := by
  have hq : ∀ b : Nat, b < 1000 → (nI c = nI b) = (c = b) := fun b hb => propext (nI_eq (by omega) (by omega))
  unfold f_X4_readItem yn
  rw [e3, if_pos (rfl : (1 : Int32) = 1), e4]
  simp only [show (nI c = (98 : Int32)) = (c = 98) from hq 98 (by decide), show (nI c = (99 : Int32)) = (c = 99) from hq 99 (by decide), show (nI c = (100 : Int32)) = (c = 100) from hq 100 (by decide), show (nI c = (101 : Int32)) = (c = 101) from hq 101 (by decide), show (nI c = (102 : Int32)) = (c = 102) from hq 102 (by decide), show (nI c = (103 : Int32)) = (c = 103) from hq 103 (by decide), show (nI c = (104 : Int32)) = (c = 104) from hq 104 (by decide), show (nI c = (105 : Int32)) = (c = 105) from hq 105 (by decide), show (nI c = (106 : Int32)) = (c = 106) from hq 106 (by decide), show (nI c = (107 : Int32)) = (c = 107) from hq 107 (by decide), show (nI c = (108 : Int32)) = (c = 108) from hq 108 (by decide), show (nI c = (109 : Int32)) = (c = 109) from hq 109 (by decide), show (nI c = (110 : Int32)) = (c = 110) from hq 110 (by decide), show (nI c = (111 : Int32)) = (c = 111) from hq 111 (by decide), show (nI c = (112 : Int32)) = (c = 112) from hq 112 (by decide)]
  by_cases h1 : c = 98
  · rw [if_pos h1, if_pos h1]
  · rw [if_neg h1, if_neg h1]
    by_cases h2 : c = 101
    · rw [if_neg (show ¬ c = 99 by omega), if_neg (show ¬ c = 100 by omega), if_pos h2, if_pos h2]
    · by_cases h3 : c = 108
      · rw [if_neg (show ¬ c = 99 by omega), if_neg (show ¬ c = 100 by omega), if_neg h2, if_neg (show ¬ c = 102 by omega), if_neg (show ¬ c = 103 by omega), if_neg (show ¬ c = 104 by omega), if_neg (show ¬ c = 105 by omega), if_neg (show ¬ c = 106 by omega), if_neg (show ¬ c = 107 by omega), if_pos h3, if_neg h2, if_pos h3]
      · by_cases h4 : c = 110
        · rw [if_neg (show ¬ c = 99 by omega), if_neg (show ¬ c = 100 by omega), if_neg h2, if_neg (show ¬ c = 102 by omega), if_neg (show ¬ c = 103 by omega), if_neg (show ¬ c = 104 by omega), if_neg (show ¬ c = 105 by omega), if_neg (show ¬ c = 106 by omega), if_neg (show ¬ c = 107 by omega), if_neg h3, if_neg (show ¬ c = 109 by omega), if_pos h4, if_neg h2, if_neg h3, if_pos h4]
        · by_cases h5 : c = 112
          · rw [if_neg (show ¬ c = 99 by omega), if_neg (show ¬ c = 100 by omega), if_neg h2, if_neg (show ¬ c = 102 by omega), if_neg (show ¬ c = 103 by omega), if_neg (show ¬ c = 104 by omega), if_neg (show ¬ c = 105 by omega), if_neg (show ¬ c = 106 by omega), if_neg (show ¬ c = 107 by omega), if_neg h3, if_neg (show ¬ c = 109 by omega), if_neg h4, if_neg (show ¬ c = 111 by omega), if_pos h5, if_neg h2, if_neg h3, if_neg h4]
          · simp only [if_neg h2, if_neg h3, if_neg h4, if_neg h5, ite_self]
theorem mayBe_c {c n : Nat} (hc : c < 1000) : f_X9_mayBe F μ 166 (nI c) (nI n) =
    if c = 98 then (if gI μ 166 13 &&& 1 = 0 then some 1 else some 0) else if c = 101 then (if gI μ 166 13 &&& 2 = 0 then some 1 else some 0) else if c = 108 then (if gI μ 169 1 < 8 then some 1 else some 0) else if c = 110 then (if nI n = 0 then some 1 else some 0) else if c = 112 then (if gI μ 173 1 < 5 then some 1 else some 0) else some 0 := by
  have hq : ∀ b : Nat, b < 1000 → (nI c = nI b) = (c = b) := fun b hb => propext (nI_eq (by omega) (by omega))
  unfold f_X9_mayBe
  simp only [show (nI c = (98 : Int32)) = (c = 98) from hq 98 (by decide), show (nI c = (99 : Int32)) = (c = 99) from hq 99 (by decide), show (nI c = (100 : Int32)) = (c = 100) from hq 100 (by decide), show (nI c = (101 : Int32)) = (c = 101) from hq 101 (by decide), show (nI c = (102 : Int32)) = (c = 102) from hq 102 (by decide), show (nI c = (103 : Int32)) = (c = 103) from hq 103 (by decide), show (nI c = (104 : Int32)) = (c = 104) from hq 104 (by decide), show (nI c = (105 : Int32)) = (c = 105) from hq 105 (by decide), show (nI c = (106 : Int32)) = (c = 106) from hq 106 (by decide), show (nI c = (107 : Int32)) = (c = 107) from hq 107 (by decide), show (nI c = (108 : Int32)) = (c = 108) from hq 108 (by decide), show (nI c = (109 : Int32)) = (c = 109) from hq 109 (by decide), show (nI c = (110 : Int32)) = (c = 110) from hq 110 (by decide), show (nI c = (111 : Int32)) = (c = 111) from hq 111 (by decide), show (nI c = (112 : Int32)) = (c = 112) from hq 112 (by decide)]
  by_cases h1 : c = 98
  · rw [if_pos h1, if_pos h1]
  · rw [if_neg h1, if_neg h1]
    by_cases h2 : c = 101
    · rw [if_neg (show ¬ c = 99 by omega), if_neg (show ¬ c = 100 by omega), if_pos h2, if_pos h2]
    · by_cases h3 : c = 108
      · rw [if_neg (show ¬ c = 99 by omega), if_neg (show ¬ c = 100 by omega), if_neg h2, if_neg (show ¬ c = 102 by omega), if_neg (show ¬ c = 103 by omega), if_neg (show ¬ c = 104 by omega), if_neg (show ¬ c = 105 by omega), if_neg (show ¬ c = 106 by omega), if_neg (show ¬ c = 107 by omega), if_pos h3, if_neg h2, if_pos h3]
      · by_cases h4 : c = 110
        · rw [if_neg (show ¬ c = 99 by omega), if_neg (show ¬ c = 100 by omega), if_neg h2, if_neg (show ¬ c = 102 by omega), if_neg (show ¬ c = 103 by omega), if_neg (show ¬ c = 104 by omega), if_neg (show ¬ c = 105 by omega), if_neg (show ¬ c = 106 by omega), if_neg (show ¬ c = 107 by omega), if_neg h3, if_neg (show ¬ c = 109 by omega), if_pos h4, if_neg h2, if_neg h3, if_pos h4]
        · by_cases h5 : c = 112
          · rw [if_neg (show ¬ c = 99 by omega), if_neg (show ¬ c = 100 by omega), if_neg h2, if_neg (show ¬ c = 102 by omega), if_neg (show ¬ c = 103 by omega), if_neg (show ¬ c = 104 by omega), if_neg (show ¬ c = 105 by omega), if_neg (show ¬ c = 106 by omega), if_neg (show ¬ c = 107 by omega), if_neg h3, if_neg (show ¬ c = 109 by omega), if_neg h4, if_neg (show ¬ c = 111 by omega), if_pos h5, if_neg h2, if_neg h3, if_neg h4]
          · simp only [if_neg h2, if_neg h3, if_neg h4, if_neg h5, ite_self]
theorem it_no (ho : OkT tx) (hc : CTk d tx pos D μ) (hm : MSt tx pos D μ') (c : Int32) : ItemR d tx pos μ μ' (some (0, μ)) (mGo F c 0 μ') := by
  obtain ⟨m1, ⟨hp, q1, q2, q3, q4⟩, m3, m4⟩ := hm
  have h1 := ho.1
  obtain ⟨k1, k2, k3, k4, k5, k6, k7⟩ := tk_ok (tx := tx) hp
  right
  unfold mGo
  rw [M_dueF m3, bW_some, q2, if_neg (by rw [sI_eq]; exact nI_n9 (by omega))]
  exact ⟨(tk tx pos).1, μ, _, by omega, rfl, rfl, FrC_rfl d μ, FrM_sI (FrM_rfl μ') (by unfold Drf; omega) _, hc.2.2.1, sI_eq⟩
theorem it_go (hF : 5000 ≤ F) (ho : OkT tx) (hk : ¬ (tk tx pos).2.1 = 0) (hm : MSt tx pos D μ') (c : Int32) {X : Option (Int32 × Mem)} (hX : ∀ μ1, MSt tx (tk tx pos).2.2.2 D μ1 → ItemR d tx (tk tx pos).2.2.2 μ μ1 X (f_X9_readRow F μ1 166 c)) : ItemR d tx pos μ μ' (yn X) (mGo F c 1 μ') := by
  obtain ⟨m1, ⟨hp, q1, q2, q3, q4⟩, m3, m4⟩ := hm
  obtain ⟨k1, k2, k3, k4, k5, k6, k7⟩ := tk_ok (tx := tx) hp
  have k4 := k4 hk
  obtain ⟨μ1, f1, r1⟩ := M_dueT hF m1 ho k3 q1 m3
  have e8 : gI μ1 166 18 = -9 := by rw [r1.1.2.2 166 18 (by omega)]; exact m3
  have hM : MSt tx (tk tx pos).2.2.2 D μ1 := ⟨TxM_om r1.1 m1, MAt_of k3 r1, e8, DrM_om r1.1 m4⟩
  have fm := FrM_om r1.1
  unfold mGo yn
  rw [f1, bW_some, if_pos e8]
  rcases hX μ1 hM with ⟨D', p', μ2, μ3, x1, x2, x3, x4, x5, x6, x7, x8⟩ | ⟨s, μ2, μ3, x0, x1, x2, x3, x4, x5, x6⟩
  · left
    rw [x1, x2, bW_some, if_neg (show ¬ (1 : Int32) = 0 by decide)]
    exact ⟨D', p', μ2, μ3, rfl, rfl, x3, FrM_tr fm x4, by omega, x6, x7, x8⟩
  · right
    rw [x1, x2, bW_some, if_pos (rfl : (0 : Int32) = 0)]
    exact ⟨s, μ2, μ3, x0, rfl, rfl, x3, FrM_tr fm x4, x5, x6⟩
theorem bit_1 (bt et : Bool) : (nI ((if bt = true then 1 else 0) + (if et = true then 2 else 0)) &&& 1 = 0) = (bt = false) := by
  cases bt <;> cases et <;> decide +kernel
theorem bit_2 (bt et : Bool) : (nI ((if bt = true then 1 else 0) + (if et = true then 2 else 0)) &&& 2 = 0) = (et = false) := by
  cases bt <;> cases et <;> decide +kernel
theorem one_0 (bt : Bool) : ((if bt = true then (1 : Int32) else 0) = 0) = (bt = false) := by
  cases bt <;> decide +kernel
theorem item_two (hF : 5000 ≤ F) (hd : 4 ≤ d) (ho : OkT tx) (hk : ¬ (tk tx pos).2.1 = 0) (hc : CTk d tx pos D μ) (hm : MSt tx pos D μ') (hD : OkDr D) {n : Nat} (hn : n < 1000) (h0 : n = 0 → gN D.1 = 0 ∧ gM D.1 = 0) : ItemR d tx pos μ μ' (f_X4_readItem F μ 1 d (if n = 0 then 1 else 0)) (mItem F n μ') := by
  have hp := hm.2.1.1
  have q3 := hm.2.1.2.2.2.1
  obtain ⟨k1, k2, k3, k4, k5, k6, k7⟩ := tk_ok (tx := tx) hp
  have hkm := kM_lt hp
  have hA : CAt d tx (tk tx pos).2.2.2 D μ := ⟨hc.1, hc.2.1, hc.2.2.2.2.2⟩
  have e3 := hc.2.2.2.1
  unfold mItem
  rw [q3, mayBe_c hkm]
  by_cases h1 : (tk tx pos).2.1 = 1
  · have e4 := hc.2.2.2.2.1 (Or.inl h1)
    have hv := k6 h1
    have ek : kM (tk tx pos) = (tk tx pos).2.2.1 := by unfold kM; rw [if_neg hk, if_pos h1]
    rw [readItem_c (c := (tk tx pos).2.2.1) (by omega) (by rw [e3, h1]; rfl) e4, ek]
    generalize hcc : (tk tx pos).2.2.1 = c at hv ⊢
    by_cases c1 : c = 98
    · subst c1
      have b1 : gI μ 1 5 = (if D.2.2.1 = true then 1 else 0) := hc.2.2.2.2.2.2.2.1
      have b2 : gI μ' 166 13 = nI ((if D.2.2.1 = true then 1 else 0) + (if D.2.2.2 = true then 2 else 0)) := hm.2.2.2.2.2.2
      rw [if_pos rfl, if_pos rfl, b1, b2]
      simp only [bit_1, one_0]
      by_cases z : D.2.2.1 = false
      · rw [if_pos z, if_pos z, Option.bind_some]
        exact it_go hF ho hk hm (nI 98) (fun μ1 h => it_body hF hd ho hA h hD)
      · rw [if_neg z, if_neg z, Option.bind_some]
        exact it_no ho hc hm _
    · by_cases c2 : c = 101
      · subst c2
        have b1 : gI μ 1 6 = (if D.2.2.2 = true then 1 else 0) := hc.2.2.2.2.2.2.2.2
        have b2 : gI μ' 166 13 = nI ((if D.2.2.1 = true then 1 else 0) + (if D.2.2.2 = true then 2 else 0)) := hm.2.2.2.2.2.2
        rw [if_neg c1, if_neg c1, if_pos rfl, if_pos rfl, b1, b2]
        simp only [bit_2, one_0]
        by_cases z : D.2.2.2 = false
        · rw [if_pos z, if_pos z, Option.bind_some]
          exact it_go hF ho hk hm (nI 101) (fun μ1 h => it_error hF hd ho hA h hD)
        · rw [if_neg z, if_neg z, Option.bind_some]
          exact it_no ho hc hm _
      · by_cases c3 : c = 108
        · subst c3
          have b1 : gI μ d 1 = nI (gN D.1) := hc.2.2.2.2.2.1.2.1
          have b2 : gI μ' 169 1 = nI (gN D.1) := hm.2.2.2.1.2.1
          have b3 : gN D.1 ≤ 8 := hD.1.2.2.1
          rw [if_neg c1, if_neg c1, if_neg c2, if_neg c2, if_pos rfl, if_pos rfl, b1, b2]
          by_cases z : gN D.1 < 8
          · have z2 : nI (gN D.1) < (8 : Int32) := nI_lt z (by decide)
            rw [if_pos z2, if_pos z2, Option.bind_some]
            exact it_go hF ho hk hm (nI 108) (fun μ1 h => it_lane hF hd ho hA h hD z)
          · have z2 : ¬ nI (gN D.1) < (8 : Int32) := nI_nlt (b := 8) (by omega) (by omega)
            rw [if_neg z2, if_neg z2, Option.bind_some]
            exact it_no ho hc hm _
        · by_cases c4 : c = 110
          · subst c4
            rw [if_neg c1, if_neg c1, if_neg c2, if_neg c2, if_neg c3, if_neg c3, if_pos rfl, if_pos rfl]
            by_cases z : n = 0
            · obtain ⟨z3, z4⟩ := h0 z
              subst z
              rw [if_pos (rfl : (0 : Nat) = 0), if_neg (show ¬ (1 : Int32) = 0 by decide), if_pos (show nI 0 = 0 from rfl), Option.bind_some]
              exact it_go hF ho hk hm (nI 110) (fun μ1 h => it_places hF hd ho hA h hD z3 z4)
            · have z2 : ¬ nI n = 0 := fun y => z ((nI_eq (b := 0) (by omega) (by decide)).mp y)
              rw [if_neg z, if_pos (rfl : (0 : Int32) = 0), if_neg z2, Option.bind_some]
              exact it_no ho hc hm _
          · by_cases c5 : c = 112
            · subst c5
              have b1 : gI μ d 5 = nI (gM D.1) := hc.2.2.2.2.2.1.2.2.1
              have b2 : gI μ' 173 1 = nI (gM D.1) := hm.2.2.2.1.2.2.1
              have b3 : gM D.1 ≤ 5 := hD.1.2.2.2.1
              rw [if_neg c1, if_neg c1, if_neg c2, if_neg c2, if_neg c3, if_neg c3, if_neg c4, if_neg c4, if_pos rfl, if_pos rfl, b1, b2]
              by_cases z : gM D.1 < 5
              · have z2 : nI (gM D.1) < (5 : Int32) := nI_lt z (by decide)
                rw [if_pos z2, if_pos z2, Option.bind_some]
                exact it_go hF ho hk hm (nI 112) (fun μ1 h => it_person hF hd ho hA h hD z)
              · have z2 : ¬ nI (gM D.1) < (5 : Int32) := nI_nlt (b := 5) (by omega) (by omega)
                rw [if_neg z2, if_neg z2, Option.bind_some]
                exact it_no ho hc hm _
            · rw [if_neg c1, if_neg c1, if_neg c2, if_neg c2, if_neg c3, if_neg c3, if_neg c4, if_neg c4, if_neg c5, if_neg c5, Option.bind_some]
              exact it_no ho hc hm _
  · have e5 : ¬ gI μ 1 3 = 1 := by
      rw [e3]
      exact fun z => h1 ((nI_eq (b := 1) (by omega) (by decide)).mp z)
    have ek : kM (tk tx pos) < 5 := by
      unfold kM
      rw [if_neg hk, if_neg h1]
      split
      · omega
      · split <;> omega
    unfold f_X4_readItem
    rw [if_neg e5, if_neg (by omega), if_neg (by omega), if_neg (by omega), if_neg (by omega), if_neg (by omega), Option.bind_some]
    exact it_no ho hc hm _
end R67
