section R71
variable {F d : Nat} {μ μ1 : Mem} {tx : List Nat} {D : Dr} {σ : St}
theorem X3_begin_ok (hF : 5000 ≤ F) (μ : Mem) {t q : Nat} (hd : t + 5 < q) : ∃ s, f_X3_begin F μ q t = some s ∧ Off q (q + 4) μ s ∧ gI s q 3 = 0 ∧ ∀ p, p < 5 → gI s (q + 1) p = gI μ (t + 4) p ∧ gI s (q + 2) p = gI μ (t + 5) p ∧ gI s (q + 3) p = 0 := by
  unfold f_X3_begin
  obtain ⟨s, ⟨h1, h2⟩, e1⟩ := for_rel (S := Mem) (f := fun n s i => f_X3_begin_L2 F q t (fun x2_4 μ_5 => lt (sI μ_5 q 3 0) (fun μ_6 => some μ_6)) n (nI i) s) (N := 5) (k := fun s => some (sI s q 3 0)) (fun i s => Off q (q + 4) μ s ∧ ∀ p, p < i → gI s (q + 1) p = gI μ (t + 4) p ∧ gI s (q + 2) p = gI μ (t + 5) p ∧ gI s (q + 3) p = 0)
    (fun n i s hi hs => by
      obtain ⟨s1, s3⟩ := hs
      have j1 : ix (nI i) 5 = true := nI_ix (by omega) (by decide)
      have j2 : (nI i).toNatClampNeg = i := nI_clamp (by omega)
      have q1 := (s1 (t + 4) (by omega)).1 i
      have q2 := (s1 (t + 5) (by omega)).1 i
      refine ⟨sI (sI (sI s (q + 1) i (gI μ (t + 4) i)) (q + 2) i (gI μ (t + 5) i)) (q + 3) i 0, ⟨Off_sI (Off_sI (Off_sI s1 (by omega) _ _) (by omega) _ _) (by omega) _ _, fun p hp => ?_⟩, ?_⟩
      · by_cases e : p = i
        · subst e
          exact ⟨(sI_ne (by omega)).trans ((sI_ne (by omega)).trans sI_eq), (sI_ne (by omega)).trans sI_eq, sI_eq⟩
        · have z := s3 p (by omega)
          exact ⟨(sI_ne (by omega)).trans ((sI_ne (by omega)).trans ((sI_ne (by omega)).trans z.1)), (sI_ne (by omega)).trans ((sI_ne (by omega)).trans ((sI_ne (by omega)).trans z.2.1)), (sI_ne (by omega)).trans ((sI_ne (by omega)).trans ((sI_ne (by omega)).trans z.2.2))⟩
      · show f_X3_begin_L2 F q t _ (n + 1) (nI i) s = _
        rw [f_X3_begin_L2, if_pos (show nI i < (5 : Int32) from nI_lt hi (by decide))]
        simp only [j1, j2, if_true, lt_eq, nI_1]
        rw [sI_ne (show ¬ (t + 5 = q + 1 ∧ i = i) by omega), q1, q2])
    (fun n s hs => by
      show f_X3_begin_L2 F q t _ (n + 1) (nI 5) s = _
      rw [f_X3_begin_L2, if_neg (show ¬ nI 5 < (5 : Int32) from nI_nlt (Nat.le_refl _) (by decide)), lt_eq])
    5 F 0 μ (by omega) (by omega) ⟨Off_rfl _ _ μ, fun p hp => by omega⟩
  refine ⟨_, e1, Off_sI h1 (by omega) _ _, sI_eq, fun p hp => ?_⟩
  have z := h2 p hp
  exact ⟨(sI_ne (by omega)).trans z.1, (sI_ne (by omega)).trans z.2.1, (sI_ne (by omega)).trans z.2.2⟩
theorem L77_ok (v : Int32) (kont : Int32 → Mem → Option (Int32 × Mem)) (n : Nat) : f_X8_capital_L77 F 0 v kont (n + 3) (nI 0) μ = kont (nI 2) (sI (sI μ 63 0 0) 63 1 0) := by
  have j0 : ix (nI 0) 2 = true := nI_ix (by omega) (by decide)
  have j1 : ix (nI 1) 2 = true := nI_ix (by omega) (by decide)
  have i0 : (nI 0).toNatClampNeg = 0 := nI_clamp (by omega)
  have i1 : (nI 1).toNatClampNeg = 1 := nI_clamp (by omega)
  rw [f_X8_capital_L77, if_pos (show nI 0 < (2 : Int32) from nI_lt (b := 2) (by decide) (by decide)), if_pos j0, i0, vp0, lt_eq, nI_1, f_X8_capital_L77, if_pos (show nI (0 + 1) < (2 : Int32) from nI_lt (b := 2) (by decide) (by decide)), if_pos j1, i1, vp0, lt_eq, nI_1, f_X8_capital_L77, if_neg (show ¬ nI (0 + 1 + 1) < (2 : Int32) from nI_nlt (b := 2) (by decide) (by decide))]
def capC (F : Nat) (v : Int32) (μ : Mem) : Option (Int32 × Mem) := lt (sR μ 0 1 (gR μ 0 2)) (fun μ_7 => lt (sR μ_7 0 2 (gR μ 0 1)) (fun μ_8 => lt (sI μ_8 ((0 + 1) + 1) 1 0) (fun μ_9 => (f_X0_begin F μ_9 (0 + 16) (gR μ_9 0 1)).bind (fun μ_12 => lt (sI μ_12 (0 + 64) 2 0) (fun μ_14 => f_X8_capital_L77 F 0 v (fun _ μ_17 => some (v, μ_17)) F 0 μ_14)))))
/-- the state of a new capital -/
def fresh (D : Dr) (tr : Int64) : St := (D.1, ((D.2.1.1, D.2.1.2, fun _ => 0, 0), []), fun _ => none, [], [], tr)
theorem fresh_ok (hD : OkDr D) (tr : Int64) : OkS (fresh D tr) := ⟨hD.1, ⟨⟨hD.2, Nat.two_pow_pos (gN D.1)⟩, Nat.zero_le _, fun m hm => (by cases hm)⟩, fun i c hc => (by cases hc), ⟨Nat.zero_le _, fun x hx => (by cases hx)⟩, ⟨Nat.zero_le _, fun x hx => (by cases hx)⟩⟩
theorem succ_C (hF : 5000 ≤ F) (v : Int32) (hC : RcC σ μ) (hd : gR μ 0 2 = d) (fc : FrC d μ μ1) (hD : OkDr D) (hr : DrC d μ1 D) : ∃ μ2, capC F v μ1 = some (v, μ2) ∧ RcC (fresh D σ.2.2.2.2.2) μ2 ∧ HiS μ μ2 := by
  obtain ⟨⟨t, d', r1, r2, r3, r4⟩, p, c, k, x, a, l⟩ := hC
  obtain rfl : d' = d := r2.symm.trans hd
  have hd4 : 4 ≤ d' ∧ d' ≤ 10 := by omega
  have h5 : gM D.1 ≤ 5 := hD.1.2.2.2.1
  have s0 := fc 0 (by decide) (by omega)
  have R1 : gR μ1 0 1 = t := (s0.2.1 1).trans r1
  have R2 : gR μ1 0 2 = d' := (s0.2.1 2).trans r2
  unfold capC
  rw [lt_eq, lt_eq, lt_eq, R1, R2]
  obtain ⟨m3, h3⟩ : ∃ m, m = sI (sR (sR μ1 0 1 d') 0 2 t) (0 + 1 + 1) 1 0 := ⟨_, rfl⟩
  rw [← h3]
  have q1 : gR m3 0 1 = d' := by
    rw [h3, gR_sI, gR_sR, if_neg (by omega), gR_sR, if_pos ⟨rfl, rfl⟩]
  have q2 : gR m3 0 2 = t := by
    rw [h3, gR_sI, gR_sR, if_pos ⟨rfl, rfl⟩]
  have q3 : gI m3 2 1 = 0 := by rw [h3]; exact sI_eq
  have q4 : gL m3 0 = gL μ1 0 := by rw [h3]; rfl
  have f3 : ∀ a, a ≠ 0 → a ≠ 2 → Sm μ1 m3 a := fun a z1 z2 => by
    rw [h3]
    exact Sm_tr (Sm_tr (sR_off a z1) (sR_off a z1)) (sI_off a z2)
  clear h3
  obtain ⟨m4, e4, f4, q5, q6⟩ := X3_begin_ok hF m3 (t := d') (q := 17) (by omega)
  unfold f_X0_begin
  have e4 : f_X3_begin F m3 (0 + 16 + 1) (gR m3 0 1) = some m4 := by rw [q1]; exact e4
  obtain ⟨j, hj⟩ : ∃ j, F = j + 3 := ⟨F - 3, by omega⟩
  have e77 : ∀ μ, f_X8_capital_L77 F 0 v (fun _ μ_17 => some (v, μ_17)) F 0 μ = some (v, sI (sI μ 63 0 0) 63 1 0) := fun μ => by
    have z := L77_ok (F := F) (μ := μ) v (fun _ μ_17 => some (v, μ_17)) j
    rw [← hj, show nI 0 = 0 from rfl] at z
    exact z
  rw [e4, Option.bind_some, lt_eq, Option.bind_some, lt_eq, e77]
  have f5 : ∀ a, ¬ (a = 0 ∨ a = 2 ∨ (16 ≤ a ∧ a ≤ 20) ∨ a = 63 ∨ a = 64) → Sm μ1 (sI (sI (sI (sI m4 16 2 0) 64 2 0) 63 0 0) 63 1 0) a := fun a z => Sm_tr (f3 a (by omega) (by omega)) (Sm_tr (f4 a (by omega)) (Sm_tr (sI_off a (by omega)) (Sm_tr (sI_off a (by omega)) (Sm_tr (sI_off a (by omega)) (sI_off a (by omega))))))
  have n5 : ∀ {a i : Nat}, ¬ (a = 16 ∧ i = 2) → ¬ (a = 64 ∧ i = 2) → ¬ (a = 63 ∧ i < 2) → gI (sI (sI (sI (sI m4 16 2 0) 64 2 0) 63 0 0) 63 1 0) a i = gI m4 a i := fun z1 z2 z3 => by
    rw [sI_ne (by omega), sI_ne (by omega), sI_ne (by omega), sI_ne (by omega)]
  refine ⟨_, rfl, ⟨⟨d', t, ?_, ?_, ?_, ?_⟩, ?_, ⟨⟨?_, fun p hp => ?_⟩, ?_, Nat.zero_le _, fun i hi => absurd hi (Nat.not_lt_zero _)⟩, fun i hi => ⟨?_, ?_, ?_, fun c hc => by cases hc⟩, ⟨?_, fun i hi => absurd hi (Nat.not_lt_zero _)⟩, ⟨?_, fun i hi => absurd hi (Nat.not_lt_zero _)⟩, ?_⟩, fun q hq => ?_⟩
  · exact ((f4 0 (by omega)).2.1 1).trans q1
  · exact ((f4 0 (by omega)).2.1 2).trans q2
  · omega
  · exact CfgC_sm (fun k hk => f5 _ (by omega)) hr.1
  · exact PtC_sm (Sm_tr (fc 21 (by decide) (by omega)) (f5 21 (by omega))) p
  · exact (n5 (by omega) (by omega) (by omega)).trans q5
  · have hp : p < gM D.1 := hp
    have z := q6 p (by omega)
    have y := hr.2.1 p hp
    exact ⟨(n5 (by omega) (by omega) (by omega)).trans (z.1.trans (((f3 (d' + 4) (by omega) (by omega)).1 p).trans y.1)), (n5 (by omega) (by omega) (by omega)).trans (z.2.1.trans (((f3 (d' + 5) (by omega) (by omega)).1 p).trans y.2)), (n5 (by omega) (by omega) (by omega)).trans z.2.2⟩
  · rw [sI_ne (by omega), sI_ne (by omega), sI_ne (by omega), sI_eq]
    rfl
  · exact (((fc 62 (by decide) (by omega)).2.1 i).symm ▸ ((f5 62 (by omega)).2.1 i)).trans ((k i hi).1)
  · exact PtC_sm (Sm_tr (fc _ (by omega) (by omega)) (f5 _ (by omega))) (k i hi).2.1
  · show _ = (0 : Int32)
    rcases (show i = 0 ∨ i = 1 by omega) with rfl | rfl
    · rw [sI_ne (by omega), sI_eq]
    · exact sI_eq
  · exact (n5 (by omega) (by omega) (by omega)).trans (((f4 2 (by omega)).1 1).trans q3)
  · rw [sI_ne (by omega), sI_ne (by omega), sI_eq]
    rfl
  · exact ((f4 0 (by omega)).2.2).trans (q4.trans (s0.2.2.trans l))
  · have z := Sm_tr (fc q (by omega) (by omega)) (f5 q (by omega))
    exact ⟨fun j _ => z.1 j, z.2.1, z.2.2⟩
theorem RcC_fr (hC : RcC σ μ) (hd : gR μ 0 2 = d) (fc : FrC d μ μ1) : RcC σ μ1 ∧ HiS μ μ1 := by
  obtain ⟨⟨t, d', r1, r2, r3, r4⟩, p, c, k, x, a, l⟩ := hC
  obtain rfl : d' = d := r2.symm.trans hd
  have s0 := fc 0 (by decide) (by omega)
  refine ⟨⟨⟨t, d', (s0.2.1 1).trans r1, (s0.2.1 2).trans r2, r3, CfgC_sm (fun k hk => fc _ (by omega) (by omega)) r4⟩, PtC_sm (fc _ (by omega) (by omega)) p, CoC_sm (fun k hk => fc _ (by omega) (by omega)) p c, fun i hi => ?_, ?_, GaC_sm (fun k hk => fc _ (by omega) (by omega)) a, s0.2.2.trans l⟩, fun q hq => ?_⟩
  · obtain ⟨k1, k2, k3, k4⟩ := k i hi
    exact ⟨((fc 62 (by decide) (by omega)).2.1 i).trans k1, PtC_sm (fc _ (by omega) (by omega)) k2, ((fc 63 (by decide) (by omega)).1 i).trans k3, fun c hc => CoC_sm (fun k hk => fc _ (by omega) (by omega)) k2 (k4 c hc)⟩
  · exact ⟨((fc 2 (by decide) (by omega)).1 1).trans x.1, fun i hi => ((fc 3 (by decide) (by omega)).1 i).trans (x.2 i hi)⟩
  · have z := fc q (by omega) (by omega)
    exact ⟨fun j _ => z.1 j, z.2.1, z.2.2⟩
theorem RcM_fr (hO : OkG σ.1) (hM : RcM σ μ) (fm : FrM μ μ1) : RcM σ μ1 ∧ LoS μ μ1 := by
  obtain ⟨⟨r1, r2, r3, r4, r5, r6⟩, c, k, x, a, l⟩ := hM
  have h8 := hO.2.2.1
  have h5 := hO.2.2.2.1
  have n : ∀ {q j : Nat}, ¬ Drf q j → gI μ1 q j = gI μ q j := fun z => fm.2.2 _ _ z
  have n178 : ∀ j, gI μ1 178 j = gI μ 178 j := fun j => n (by unfold Drf; omega)
  refine ⟨⟨⟨(n (by unfold Drf; omega)).trans r1, (n (by unfold Drf; omega)).trans r2, (n (by unfold Drf; omega)).trans r3, (n (by unfold Drf; omega)).trans r4, (n (by unfold Drf; omega)).trans r5, fun l hl => ?_⟩, CoM_at h5 (fun k _ => n178 _) c, fun i hi => ?_, ⟨(n (by unfold Drf; omega)).trans x.1, fun i hi => by rw [n (by unfold Drf; omega)]; exact x.2 i hi⟩, ⟨(n (by unfold Drf; omega)).trans a.1, fun i hi => ?_⟩, (fm.2.1 166).trans l⟩, fun q hq => ⟨fun j _ => n (by unfold Drf; omega), fun j => fm.1 q j, fm.2.1 q⟩⟩
  · have z := r6 l hl
    exact ⟨(n (by unfold Drf; omega)).trans z.1, (n (by unfold Drf; omega)).trans z.2.1, (n (by unfold Drf; omega)).trans z.2.2⟩
  · obtain ⟨k1, k2⟩ := k i hi
    exact ⟨(n (by unfold Drf; omega)).trans k1, fun c hc => CoM_at h5 (fun k _ => n178 _) (k2 c hc)⟩
  · have z := a.2 i hi
    exact ⟨(n (by unfold Drf; omega)).trans z.1, (n (by unfold Drf; omega)).trans z.2⟩
end R71
