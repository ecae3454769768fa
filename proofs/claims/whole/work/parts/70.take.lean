section R70
variable {F : Nat} {μ : Mem}
/-- what the model changes when it takes a draft -/
def Tkn (q j : Nat) : Prop := ((q = 168 ∨ q = 169 ∨ q = 173 ∨ q = 176 ∨ q = 177) ∧ j = 0) ∨ ((q = 170 ∨ q = 171 ∨ q = 172) ∧ j < 8) ∨ (q = 178 ∧ j < 17) ∨ (q = 166 ∧ (j = 26 ∨ j = 2)) ∨ (q = 179 ∧ j < 2)
def FrT (μ μ' : Mem) : Prop := (∀ q j, gR μ' q j = gR μ q j) ∧ (∀ q, gL μ' q = gL μ q) ∧ ∀ q j, ¬ Tkn q j → gI μ' q j = gI μ q j
theorem FrT_rfl (μ : Mem) : FrT μ μ := ⟨fun _ _ => rfl, fun _ => rfl, fun _ _ _ => rfl⟩
theorem FrT_tr {μ μ1 μ2 : Mem} (h1 : FrT μ μ1) (h2 : FrT μ1 μ2) : FrT μ μ2 := ⟨fun q j => (h2.1 q j).trans (h1.1 q j), fun q => (h2.2.1 q).trans (h1.2.1 q), fun q j h => (h2.2.2 q j h).trans (h1.2.2 q j h)⟩
theorem FrT_sI {μ μ1 : Mem} (h : FrT μ μ1) {q j : Nat} (hq : Tkn q j) (x : Int32) : FrT μ (sI μ1 q j x) := ⟨h.1, h.2.1, fun a i z => by
  rw [gI_sI, if_neg (fun y => z (by rw [y.1, y.2]; exact hq))]
  exact h.2.2 a i z⟩
theorem vp0 : vp_nar .boolean 0 = 0 := by decide +kernel
theorem take_62 (hF : 5000 ≤ F) (kont : Int32 → Mem → Option Mem) : ∃ s, f_X9_takeDraft_L62 F 166 kont F 0 μ = kont 8 s ∧ (∀ q j, gR s q j = gR μ q j) ∧ (∀ q, gL s q = gL μ q) ∧ (∀ q j, ¬ ((q = 170 ∨ q = 171 ∨ q = 172) ∧ j < 8) → gI s q j = gI μ q j) ∧ ∀ l, l < 8 → gI s 170 l = gI μ 170 (8 + l) ∧ gI s 171 l = gI μ 171 (8 + l) ∧ gI s 172 l = gI μ 172 (8 + l) := by
  obtain ⟨s, ⟨h1, h2, h3, h4⟩, e⟩ := for_rel (S := Mem) (f := fun n s i => f_X9_takeDraft_L62 F 166 kont n (nI i) s) (N := 8) (k := fun s => kont 8 s) (fun i s => (∀ q j, gR s q j = gR μ q j) ∧ (∀ q, gL s q = gL μ q) ∧ (∀ q j, ¬ ((q = 170 ∨ q = 171 ∨ q = 172) ∧ j < 8) → gI s q j = gI μ q j) ∧ ∀ l, l < i → gI s 170 l = gI μ 170 (8 + l) ∧ gI s 171 l = gI μ 171 (8 + l) ∧ gI s 172 l = gI μ 172 (8 + l))
    (fun n i s hi hs => by
      obtain ⟨s1, s2, s3, s4⟩ := hs
      have j1 : ix (nI i) 16 = true := nI_ix (by omega) (by decide)
      have j2 : (nI i).toNatClampNeg = i := nI_clamp (by omega)
      have j3 : ix (nI (8 + i)) 16 = true := nI_ix (by omega) (by decide)
      have j4 : (nI (8 + i)).toNatClampNeg = 8 + i := nI_clamp (by omega)
      have e8 : (8 : Int32) + nI i = nI (8 + i) := nI_add 8 i
      have q1 := s3 170 (8 + i) (by omega)
      have q2 := s3 171 (8 + i) (by omega)
      have q3 := s3 172 (8 + i) (by omega)
      refine ⟨sI (sI (sI s 170 i (gI μ 170 (8 + i))) 171 i (gI μ 171 (8 + i))) 172 i (gI μ 172 (8 + i)), ⟨fun q j => s1 q j, fun q => s2 q, fun q j z => ?_, fun l hl => ?_⟩, ?_⟩
      · rw [sI_ne (by omega), sI_ne (by omega), sI_ne (by omega)]
        exact s3 q j z
      · by_cases c : l = i
        · subst c
          exact ⟨(sI_ne (by omega)).trans ((sI_ne (by omega)).trans sI_eq), (sI_ne (by omega)).trans sI_eq, sI_eq⟩
        · have z := s4 l (by omega)
          exact ⟨(sI_ne (by omega)).trans ((sI_ne (by omega)).trans ((sI_ne (by omega)).trans z.1)), (sI_ne (by omega)).trans ((sI_ne (by omega)).trans ((sI_ne (by omega)).trans z.2.1)), (sI_ne (by omega)).trans ((sI_ne (by omega)).trans ((sI_ne (by omega)).trans z.2.2))⟩
      · show f_X9_takeDraft_L62 F 166 kont (n + 1) (nI i) s = _
        rw [f_X9_takeDraft_L62, if_pos (show nI i < (8 : Int32) from nI_lt hi (by decide)), e8]
        simp only [j1, j2, j3, j4, if_true, lt_eq, nI_1]
        rw [sI_ne (show ¬ (166 + 5 = 166 + 4 ∧ 8 + i = i) by omega), sI_ne (show ¬ (166 + 6 = 166 + 5 ∧ 8 + i = i) by omega), sI_ne (show ¬ (166 + 6 = 166 + 4 ∧ 8 + i = i) by omega)]
        rw [show gI s (166 + 4) (8 + i) = _ from q1, show gI s (166 + 5) (8 + i) = _ from q2, show gI s (166 + 6) (8 + i) = _ from q3])
    (fun n s hs => by
      show f_X9_takeDraft_L62 F 166 kont (n + 1) (nI 8) s = _
      rw [f_X9_takeDraft_L62, if_neg (show ¬ nI 8 < (8 : Int32) from nI_nlt (Nat.le_refl _) (by decide))]
      rfl)
    8 F 0 μ (by omega) (by omega) ⟨fun _ _ => rfl, fun _ => rfl, fun _ _ _ => rfl, fun l hl => by omega⟩
  exact ⟨s, e, h1, h2, h3, h4⟩
theorem take_121 (hF : 5000 ≤ F) (kont : Int32 → Mem → Option Mem) : ∃ s, f_X9_takeDraft_L121 F 166 kont F 0 μ = kont 5 s ∧ (∀ q j, gR s q j = gR μ q j) ∧ (∀ q, gL s q = gL μ q) ∧ (∀ q j, ¬ (q = 178 ∧ j < 15) → gI s q j = gI μ q j) ∧ ∀ p, p < 5 → gI s 178 p = gI μ 175 p ∧ gI s 178 (5 + p) = gI μ 174 p ∧ gI s 178 (10 + p) = 0 := by
  obtain ⟨s, ⟨h1, h2, h3, h4⟩, e⟩ := for_rel (S := Mem) (f := fun n s i => f_X9_takeDraft_L121 F 166 kont n (nI i) s) (N := 5) (k := fun s => kont 5 s) (fun i s => (∀ q j, gR s q j = gR μ q j) ∧ (∀ q, gL s q = gL μ q) ∧ (∀ q j, ¬ (q = 178 ∧ j < 15) → gI s q j = gI μ q j) ∧ ∀ p, p < i → gI s 178 p = gI μ 175 p ∧ gI s 178 (5 + p) = gI μ 174 p ∧ gI s 178 (10 + p) = 0)
    (fun n i s hi hs => by
      obtain ⟨s1, s2, s3, s4⟩ := hs
      have j1 : ix (nI i) 5 = true := nI_ix (by omega) (by decide)
      have j2 : (nI i).toNatClampNeg = i := nI_clamp (by omega)
      have k1 : ix (nI (0 + i)) 531 = true := nI_ix (by omega) (by decide)
      have k2 : (nI (0 + i)).toNatClampNeg = 0 + i := nI_clamp (by omega)
      have k3 : ix (nI (5 + i)) 531 = true := nI_ix (by omega) (by decide)
      have k4 : (nI (5 + i)).toNatClampNeg = 5 + i := nI_clamp (by omega)
      have k5 : ix (nI (10 + i)) 531 = true := nI_ix (by omega) (by decide)
      have k6 : (nI (10 + i)).toNatClampNeg = 10 + i := nI_clamp (by omega)
      have e0 : (0 : Int32) + nI i = nI (0 + i) := nI_add 0 i
      have e5 : (5 : Int32) + nI i = nI (5 + i) := nI_add 5 i
      have e10 : (10 : Int32) + nI i = nI (10 + i) := nI_add 10 i
      have q1 := s3 175 i (by omega)
      have q2 := s3 174 i (by omega)
      refine ⟨sI (sI (sI s 178 (0 + i) (gI μ 175 i)) 178 (5 + i) (gI μ 174 i)) 178 (10 + i) 0, ⟨fun q j => s1 q j, fun q => s2 q, fun q j z => ?_, fun p hp => ?_⟩, ?_⟩
      · rw [sI_ne (by omega), sI_ne (by omega), sI_ne (by omega)]
        exact s3 q j z
      · by_cases c : p = i
        · subst c
          refine ⟨(sI_ne (by omega)).trans ((sI_ne (by omega)).trans ?_), (sI_ne (by omega)).trans sI_eq, sI_eq⟩
          rw [gI_sI, if_pos (by omega)]
        · have z := s4 p (by omega)
          exact ⟨(sI_ne (by omega)).trans ((sI_ne (by omega)).trans ((sI_ne (by omega)).trans z.1)), (sI_ne (by omega)).trans ((sI_ne (by omega)).trans ((sI_ne (by omega)).trans z.2.1)), (sI_ne (by omega)).trans ((sI_ne (by omega)).trans ((sI_ne (by omega)).trans z.2.2))⟩
      · show f_X9_takeDraft_L121 F 166 kont (n + 1) (nI i) s = _
        rw [f_X9_takeDraft_L121, if_pos (show nI i < (5 : Int32) from nI_lt hi (by decide)), e0, e5, e10]
        simp only [j1, j2, k1, k2, k3, k4, k5, k6, if_true, lt_eq, nI_1]
        rw [sI_ne (show ¬ (166 + 8 = 166 + 12 ∧ i = 0 + i) by omega)]
        rw [show gI s (166 + 9) i = _ from q1, show gI s (166 + 8) i = _ from q2])
    (fun n s hs => by
      show f_X9_takeDraft_L121 F 166 kont (n + 1) (nI 5) s = _
      rw [f_X9_takeDraft_L121, if_neg (show ¬ nI 5 < (5 : Int32) from nI_nlt (Nat.le_refl _) (by decide))]
      rfl)
    5 F 0 μ (by omega) (by omega) ⟨fun _ _ => rfl, fun _ => rfl, fun _ _ _ => rfl, fun l hl => by omega⟩
  exact ⟨s, e, h1, h2, h3, h4⟩
theorem take_ok (hF : 5000 ≤ F) : ∃ s, f_X9_takeDraft F μ 166 = some s ∧ FrT μ s ∧ (gI s 168 0 = gI μ 168 1 ∧ gI s 169 0 = gI μ 169 1 ∧ gI s 173 0 = gI μ 173 1 ∧ gI s 176 0 = gI μ 176 1 ∧ gI s 177 0 = gI μ 177 1) ∧ (∀ l, l < 8 → gI s 170 l = gI μ 170 (8 + l) ∧ gI s 171 l = gI μ 171 (8 + l) ∧ gI s 172 l = gI μ 172 (8 + l)) ∧ (∀ p, p < 5 → gI s 178 p = gI μ 175 p ∧ gI s 178 (5 + p) = gI μ 174 p ∧ gI s 178 (10 + p) = 0) ∧ gI s 178 15 = 0 ∧ gI s 178 16 = 0 ∧ gI s 166 26 = 0 ∧ ∀ i, i < 2 → gI s 179 i = 0 := by
  unfold f_X9_takeDraft
  obtain ⟨m1, h1⟩ : ∃ m, m = sI μ (166 + 2) 0 (gI μ (166 + 2) 1) := ⟨_, rfl⟩
  rw [lt_eq, ← h1]
  obtain ⟨m2, h2⟩ : ∃ m, m = sI m1 (166 + 3) 0 (gI m1 (166 + 3) 1) := ⟨_, rfl⟩
  rw [lt_eq, ← h2]
  obtain ⟨m3, h3⟩ : ∃ m, m = sI m2 (166 + 7) 0 (gI m2 (166 + 7) 1) := ⟨_, rfl⟩
  rw [lt_eq, ← h3]
  obtain ⟨m4, h4⟩ : ∃ m, m = sI m3 (166 + 10) 0 (gI m3 (166 + 10) 1) := ⟨_, rfl⟩
  rw [lt_eq, ← h4]
  obtain ⟨m5, h5⟩ : ∃ m, m = sI m4 (166 + 11) 0 (gI m4 (166 + 11) 1) := ⟨_, rfl⟩
  rw [lt_eq, ← h5]
  have f5 : FrT μ m5 := by
    subst h5 h4 h3 h2 h1
    exact FrT_sI (FrT_sI (FrT_sI (FrT_sI (FrT_sI (FrT_rfl μ) (by unfold Tkn; omega) _) (by unfold Tkn; omega) _) (by unfold Tkn; omega) _) (by unfold Tkn; omega) _) (by unfold Tkn; omega) _
  have n1 : ∀ {a i : Nat}, ¬ (a = 168 ∧ i = 0) → gI m1 a i = gI μ a i := fun z => by rw [h1]; exact sI_ne z
  have n2 : ∀ {a i : Nat}, ¬ (a = 169 ∧ i = 0) → gI m2 a i = gI m1 a i := fun z => by rw [h2]; exact sI_ne z
  have n3 : ∀ {a i : Nat}, ¬ (a = 173 ∧ i = 0) → gI m3 a i = gI m2 a i := fun z => by rw [h3]; exact sI_ne z
  have n4 : ∀ {a i : Nat}, ¬ (a = 176 ∧ i = 0) → gI m4 a i = gI m3 a i := fun z => by rw [h4]; exact sI_ne z
  have n5 : ∀ {a i : Nat}, ¬ (a = 177 ∧ i = 0) → gI m5 a i = gI m4 a i := fun z => by rw [h5]; exact sI_ne z
  have v1 : gI m1 168 0 = gI μ 168 1 := by rw [h1]; exact sI_eq
  have v2 : gI m2 169 0 = gI m1 169 1 := by rw [h2]; exact sI_eq
  have v3 : gI m3 173 0 = gI m2 173 1 := by rw [h3]; exact sI_eq
  have v4 : gI m4 176 0 = gI m3 176 1 := by rw [h4]; exact sI_eq
  have v5 : gI m5 177 0 = gI m4 177 1 := by rw [h5]; exact sI_eq
  have w1 : gI m5 168 0 = gI μ 168 1 := by rw [n5 (by omega), n4 (by omega), n3 (by omega), n2 (by omega), v1]
  have w2 : gI m5 169 0 = gI μ 169 1 := by rw [n5 (by omega), n4 (by omega), n3 (by omega), v2, n1 (by omega)]
  have w3 : gI m5 173 0 = gI μ 173 1 := by rw [n5 (by omega), n4 (by omega), v3, n2 (by omega), n1 (by omega)]
  have w4 : gI m5 176 0 = gI μ 176 1 := by rw [n5 (by omega), v4, n3 (by omega), n2 (by omega), n1 (by omega)]
  have w5 : gI m5 177 0 = gI μ 177 1 := by rw [v5, n4 (by omega), n3 (by omega), n2 (by omega), n1 (by omega)]
  clear h1 h2 h3 h4 h5 n1 n2 n3 n4 n5 v1 v2 v3 v4 v5
  obtain ⟨m6, e6, r6, l6, g6, a6⟩ := take_62 (μ := m5) hF (fun x1_9 μ_10 => f_X9_takeDraft_L121 F 166 (fun x1_14 μ_15 => lt (sI μ_15 (166 + 12) 15 0) (fun μ_16 => lt (sI μ_16 (166 + 12) 16 0) (fun μ_17 => lt (sI μ_17 166 26 0) (fun μ_18 => lt (sI μ_18 (166 + 13) 0 (vp_nar .boolean 0)) (fun μ_19 => lt (sI μ_19 (166 + 13) 1 (vp_nar .boolean 0)) (fun μ_20 => some μ_20)))))) F 0 μ_10)
  obtain ⟨m7, e7, r7, l7, g7, a7⟩ := take_121 (μ := m6) hF (fun x1_14 μ_15 => lt (sI μ_15 (166 + 12) 15 0) (fun μ_16 => lt (sI μ_16 (166 + 12) 16 0) (fun μ_17 => lt (sI μ_17 166 26 0) (fun μ_18 => lt (sI μ_18 (166 + 13) 0 (vp_nar .boolean 0)) (fun μ_19 => lt (sI μ_19 (166 + 13) 1 (vp_nar .boolean 0)) (fun μ_20 => some μ_20))))))
  rw [e6, e7]
  simp only [lt_eq, vp0]
  have f6 : FrT m5 m6 := ⟨r6, l6, fun q j z => g6 q j (fun y => z (by unfold Tkn; omega))⟩
  have f7 : FrT m6 m7 := ⟨r7, l7, fun q j z => g7 q j (fun y => z (by unfold Tkn; omega))⟩
  have f8 : FrT m7 (sI (sI (sI (sI (sI m7 178 15 0) 178 16 0) 166 26 0) 179 0 0) 179 1 0) := FrT_sI (FrT_sI (FrT_sI (FrT_sI (FrT_sI (FrT_rfl m7) (by unfold Tkn; omega) _) (by unfold Tkn; omega) _) (by unfold Tkn; omega) _) (by unfold Tkn; omega) _) (by unfold Tkn; omega) _
  have n8 : ∀ {a i : Nat}, ¬ (a = 178 ∧ i = 15) → ¬ (a = 178 ∧ i = 16) → ¬ (a = 166 ∧ i = 26) → ¬ (a = 179 ∧ i < 2) → gI (sI (sI (sI (sI (sI m7 178 15 0) 178 16 0) 166 26 0) 179 0 0) 179 1 0) a i = gI m7 a i := fun z1 z2 z3 z4 => by
    rw [sI_ne (by omega), sI_ne (by omega), sI_ne (by omega), sI_ne (by omega), sI_ne (by omega)]
  refine ⟨_, rfl, FrT_tr f5 (FrT_tr f6 (FrT_tr f7 f8)), ⟨?_, ?_, ?_, ?_, ?_⟩, fun l hl => ?_, fun p hp => ?_, ?_, ?_, ?_, fun i hi => ?_⟩
  · exact (n8 (by omega) (by omega) (by omega) (by omega)).trans ((g7 _ _ (by omega)).trans ((g6 _ _ (by omega)).trans w1))
  · exact (n8 (by omega) (by omega) (by omega) (by omega)).trans ((g7 _ _ (by omega)).trans ((g6 _ _ (by omega)).trans w2))
  · exact (n8 (by omega) (by omega) (by omega) (by omega)).trans ((g7 _ _ (by omega)).trans ((g6 _ _ (by omega)).trans w3))
  · exact (n8 (by omega) (by omega) (by omega) (by omega)).trans ((g7 _ _ (by omega)).trans ((g6 _ _ (by omega)).trans w4))
  · exact (n8 (by omega) (by omega) (by omega) (by omega)).trans ((g7 _ _ (by omega)).trans ((g6 _ _ (by omega)).trans w5))
  · have z := a6 l hl
    refine ⟨(n8 (by omega) (by omega) (by omega) (by omega)).trans ((g7 _ _ (by omega)).trans (z.1.trans ?_)), (n8 (by omega) (by omega) (by omega) (by omega)).trans ((g7 _ _ (by omega)).trans (z.2.1.trans ?_)), (n8 (by omega) (by omega) (by omega) (by omega)).trans ((g7 _ _ (by omega)).trans (z.2.2.trans ?_))⟩
    · exact f5.2.2 _ _ (by unfold Tkn; omega)
    · exact f5.2.2 _ _ (by unfold Tkn; omega)
    · exact f5.2.2 _ _ (by unfold Tkn; omega)
  · have z := a7 p hp
    have y1 : gI m6 175 p = gI μ 175 p := (g6 _ _ (by omega)).trans (f5.2.2 _ _ (by unfold Tkn; omega))
    have y2 : gI m6 174 p = gI μ 174 p := (g6 _ _ (by omega)).trans (f5.2.2 _ _ (by unfold Tkn; omega))
    exact ⟨(n8 (by omega) (by omega) (by omega) (by omega)).trans (z.1.trans y1), (n8 (by omega) (by omega) (by omega) (by omega)).trans (z.2.1.trans y2), (n8 (by omega) (by omega) (by omega) (by omega)).trans z.2.2⟩
  · rw [sI_ne (by omega), sI_ne (by omega), sI_ne (by omega), sI_ne (by omega), sI_eq]
  · rw [sI_ne (by omega), sI_ne (by omega), sI_ne (by omega), sI_eq]
  · rw [sI_ne (by omega), sI_ne (by omega), sI_eq]
  · rcases (show i = 0 ∨ i = 1 by omega) with rfl | rfl
    · rw [sI_ne (by omega), sI_eq]
    · exact sI_eq
end R70
