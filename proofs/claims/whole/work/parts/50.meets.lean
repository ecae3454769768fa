section R50
variable {F : Nat}
theorem mtg_lt (g : Cfg) (m : Mo) (p q l : Nat) : mtg g m p q l ≤ 5 := by
  unfold mtg
  split
  · omega
  · split
    · omega
    · split
      · omega
      · split
        · omega
        · split <;> omega
theorem met_G {m : Mo} {p q : Nat} (r : Nat) : mG m r = upn (upn m.2.2.1 p (mG m p)) q (mG m q) r := by
  unfold upn mG
  split
  · rename_i e; rw [e]
  · split
    · rename_i e; rw [e]
    · rfl
theorem met_A {m : Mo} {p q : Nat} (r : Nat) : mA m r = upn (upn m.2.1 p (mA m p)) q (mA m q) r := by
  unfold upn mA
  split
  · rename_i e; rw [e]
  · split
    · rename_i e; rw [e]
    · rfl
theorem met_A1 {m : Mo} {p q x : Nat} (h : p ≠ q) (r : Nat) : upn m.2.1 p x r = upn (upn m.2.1 p x) q (mA m q) r := by
  unfold upn mA
  by_cases e : r = q
  · subst e; rw [if_neg (fun z => h z.symm), if_pos rfl]
  · rw [if_neg e]
theorem met_G1 {m : Mo} {p q x : Nat} (h : p ≠ q) (r : Nat) : upn m.2.2.1 q x r = upn (upn m.2.2.1 p (mG m p)) q x r := by
  unfold upn mG
  by_cases e : r = q
  · rw [if_pos e, if_pos e]
  · rw [if_neg e, if_neg e]
    by_cases e2 : r = p
    · rw [if_pos e2, e2]
    · rw [if_neg e2]
theorem met_A2 {m : Mo} {p q x : Nat} (h : p ≠ q) (r : Nat) : upn m.2.1 q x r = upn (upn m.2.1 p (mA m p)) q x r := by
  unfold upn mA
  by_cases e : r = q
  · rw [if_pos e, if_pos e]
  · rw [if_neg e, if_neg e]
    by_cases e2 : r = p
    · rw [if_pos e2, e2]
    · rw [if_neg e2]
theorem met_G2 {m : Mo} {p q x : Nat} (h : p ≠ q) (r : Nat) : upn m.2.2.1 p x r = upn (upn m.2.2.1 p x) q (mG m q) r := by
  unfold upn mG
  by_cases e : r = q
  · subst e; rw [if_neg (fun z => h z.symm), if_pos rfl]
  · rw [if_neg e]
theorem S_meets (hF : 5000 ≤ F) {σ : St} {μ μ' : Mem} (ho : OkS σ) (hC : RcC σ μ) (hM : RcM σ μ') (a b c : Int32) : Stps μ μ' (f_X8_meets F μ 0 a b c) (f_X9_meets F μ' 166 a b c) := by
  have vC := RcC_VC ho hC
  have vM := RcM_VM ho hM
  have hg := ho.1
  have h5 := hg.2.2.2.1
  have h8 := hg.2.2.1
  have hP := hg.2.1
  unfold f_X8_meets f_X9_meets
  rw [C_noPerson vC, M_isPerson vM, Option.bind_some, Option.bind_some]
  by_cases ha : okN a (gM σ.1) = true
  · rw [if_pos ha, if_pos ha, if_pos (rfl : (0 : Int32) = 0), if_neg (show ¬ (1 : Int32) = 0 by decide), C_noPerson vC, M_isPerson vM, Option.bind_some, Option.bind_some]
    by_cases hb : okN b (gM σ.1) = true
    · rw [if_pos hb, if_pos hb, if_pos (rfl : (0 : Int32) = 0), if_neg (show ¬ (1 : Int32) = 0 by decide)]
      by_cases hab : a = b
      · rw [if_pos hab, if_pos hab]; exact Stps_same ho hC hM _
      · rw [if_neg hab, if_neg hab, C_noLane vC, M_isLane vM, Option.bind_some, Option.bind_some]
        by_cases hc : okN c (gN σ.1) = true
        · rw [if_pos hc, if_pos hc, if_pos (rfl : (0 : Int32) = 0), if_neg (show ¬ (1 : Int32) = 0 by decide)]
          obtain ⟨p, hp, rfl⟩ := okN_of (by omega) ha
          obtain ⟨q, hq, rfl⟩ := okN_of (by omega) hb
          obtain ⟨l, hl, rfl⟩ := okN_of (by omega) hc
          have hpq : p ≠ q := fun z => hab (by rw [z])
          obtain ⟨l1, l2⟩ := M_ixp (p := p) (b := 0) (by omega) (by decide)
          have l1 : ix (0 + nI p) 531 = true := l1
          have l2 : (0 + nI p).toNatClampNeg = 0 + p := l2
          obtain ⟨n1, n2⟩ := M_ixp (p := q) (b := 0) (by omega) (by decide)
          have n1 : ix (0 + nI q) 531 = true := n1
          have n2 : (0 + nI q).toNatClampNeg = 0 + q := n2
          obtain ⟨j1, j2⟩ := M_ixp (p := p) (b := 10) (by omega) (by decide)
          have j1 : ix (10 + nI p) 531 = true := j1
          have j2 : (10 + nI p).toNatClampNeg = 10 + p := j2
          obtain ⟨k1, k2⟩ := M_ixp (p := q) (b := 10) (by omega) (by decide)
          have k1 : ix (10 + nI q) 531 = true := k1
          have k2 : (10 + nI q).toNatClampNeg = 10 + q := k2
          have bp := vC.2.2.2.1 p hp
          have bq := vC.2.2.2.1 q hq
          have hout := mtg_lt σ.1 σ.2.1.1 p q l
          have hothp := oth_lt (v := mA σ.2.1.1 p) hg hl
          rw [C_outcome vC hp hq hl, M_outcome vM hp hq hl, Option.bind_some, Option.bind_some, if_pos l1, lt_eq, if_pos n1, lt_eq, l2, n2, M_at vM hp, M_at vM hq, both_ends vC hp hq hl, Option.bind_some, M_ends vM hl (by omega), Option.bind_some, M_other vM hl (by omega), Option.bind_some]
          generalize hk : mtg σ.1 σ.2.1.1 p q l = k at hout
          by_cases hk3 : 3 < k
          · rw [if_pos (show (3 : Int32) < nI k from nI_lt (a := 3) hk3 (by omega)), if_pos (show (3 : Int32) < nI k from nI_lt (a := 3) hk3 (by omega))]
            exact Stps_same ho hC hM _
          · rw [if_neg (show ¬ (3 : Int32) < nI k from nI_nlt (a := 3) (by omega) (by decide)), if_neg (show ¬ (3 : Int32) < nI k from nI_nlt (a := 3) (by omega) (by decide))]
            by_cases c1 : mA σ.2.1.1 p = gF σ.1 l ∨ mA σ.2.1.1 p = gS σ.1 l
            · by_cases c2 : oth σ.1 l (mA σ.2.1.1 p) = mA σ.2.1.1 q
              · have c2' : nI (oth σ.1 l (mA σ.2.1.1 p)) = nI (mA σ.2.1.1 q) := by rw [c2]
                rw [if_pos (show (mA σ.2.1.1 p = gF σ.1 l ∨ mA σ.2.1.1 p = gS σ.1 l) ∧ oth σ.1 l (mA σ.2.1.1 p) = mA σ.2.1.1 q from ⟨c1, c2⟩), if_neg (show ¬ (1 : Int32) = 0 by decide), if_pos c1, if_neg (show ¬ (1 : Int32) = 0 by decide), if_pos c2']
                have c3 : oth σ.1 l (mA σ.2.1.1 q) = mA σ.2.1.1 p := by
                  have g3 := (hg.2.2.2.2.2.2.2 l hl).2.2.1
                  unfold oth at c2 ⊢
                  split at c2 <;> split <;> omega
                obtain ⟨μ1, r1, o1, q1, d1⟩ := remember_ok hF h5 hC.2.1 hC.2.2.1
                obtain ⟨μ3, r3, o3, d3⟩ := M_know hF h5 hM.2.1
                have r1 : f_X0_remember F μ (0 + 16) = some μ1 := r1
                have o3 : Of8 0 177 μ' μ3 := Of8_wide o3 (by decide) (by decide)
                rw [r1, r3, Option.bind_some, Option.bind_some]
                have f1 : gI μ3 (166 + 12) (10 + p) = nI (mG σ.2.1.1 p) := by have := (d3.1.2 p hp).2.2; rwa [Nat.zero_add] at this
                have f2 : gI μ3 (166 + 12) (10 + q) = nI (mG σ.2.1.1 q) := by have := (d3.1.2 q hq).2.2; rwa [Nat.zero_add] at this
                have f3 : gI μ3 (166 + 12) 15 = nI (mC σ.2.1.1) := d3.1.1
                have w1 : ∀ x y, gI (sI (sI μ3 (166 + 12) (0 + p) x) (166 + 12) (0 + q) y) (166 + 12) (10 + p) = nI (mG σ.2.1.1 p) := fun x y => by rw [gI_sI, if_neg (by omega), gI_sI, if_neg (by omega)]; exact f1
                have w2 : ∀ x y z, gI (sI (sI (sI μ3 (166 + 12) (0 + p) x) (166 + 12) (0 + q) y) (166 + 12) (10 + p) z) (166 + 12) (10 + q) = nI (mG σ.2.1.1 q) := fun x y z => by rw [gI_sI, if_neg (by omega), gI_sI, if_neg (by omega), gI_sI, if_neg (by omega)]; exact f2
                have w3 : ∀ x y z w, gI (sI (sI (sI (sI μ3 (166 + 12) (0 + p) x) (166 + 12) (0 + q) y) (166 + 12) (10 + p) z) (166 + 12) (10 + q) w) (166 + 12) 15 = nI (mC σ.2.1.1) := fun x y z w => by rw [gI_sI, if_neg (by omega), gI_sI, if_neg (by omega), gI_sI, if_neg (by omega), gI_sI, if_neg (by omega)]; exact f3
                have hcn := vC.2.2.2.2
                have hor : mC σ.2.1.1 ||| 2 ^ l < 2 ^ gN σ.1 := Nat.or_lt_two_pow hcn (Nat.pow_lt_pow_right (by decide) hl)
                have fin : ∀ A1 A2 G1 G2 C1 μ2 v o o', A1 < gP σ.1 → A2 < gP σ.1 → C1 < 2 ^ gN σ.1 → Off 17 21 μ1 μ2 → MoC μ2 17 (gM σ.1) (met σ.2.1.1 p q A1 A2 G1 G2 C1) → o = some (v, μ2) → o' = some (v, sI (sI (sI (sI (sI μ3 (166 + 12) (0 + p) (nI A1)) (166 + 12) (0 + q) (nI A2)) (166 + 12) (10 + p) (nI G1)) (166 + 12) (10 + q) (nI G2)) (166 + 12) 15 (nI C1)) → Stps μ μ' o o' := fun A1 A2 G1 G2 C1 μ2 v o o' h1 h2 h3 h4 h5' h6 h7 => by
                  have hm := OkM_C (OkM_G (p := q) (x := G2) (OkM_G (p := p) (x := G1) (OkM_A (p := q) (OkM_A (p := p) vC.2.2.2 h1) h2))) h3
                  obtain ⟨z1, z2, z3, z4, z5⟩ := mvs (v := 0) ho hC hM (m' := met σ.2.1.1 p q A1 A2 G1 G2 C1) hm o1 q1 d1 h4 h5' o3 d3
                    (Of8_sI (Of8_sI (Of8_sI (Of8_sI (Of8_sI (Of8_rfl 0 16 μ3) (j := 0 + p) (by omega) (nI A1)) (j := 0 + q) (by omega) (nI A2)) (j := 10 + p) (by omega) (nI G1)) (j := 10 + q) (by omega) (nI G2)) (j := 15) (by omega) (nI C1))
                    (MoM_C h5 (MoM_G h5 (MoM_G h5 (MoM_A h5 (MoM_A h5 d3.1 (by omega) A1) (by omega) A2) (by omega) G1) (by omega) G2) C1)
                  exact ⟨v, _, _, _, h6, h7, z1, z2, z3, z4, z5⟩
                obtain ⟨t, t1, t2⟩ := told_off hC o1
                have a1 := bp.2
                have a2 := bq.2
                have cx1 := C_cross (F := F) hg vC.2.2.2 t1 t2 d1.1 hp hl
                rw [c2] at cx1
                have g1 : gI μ1 (0 + 16 + 1 + 3) p = nI (mG σ.2.1.1 p) := (d1.1.2 p hp).2.2
                have g3 : gI μ1 (0 + 16 + 1) 3 = nI (mC σ.2.1.1) := d1.1.1
                have mv1 : f_X8_moveOrYield F μ1 0 (nI p) (nI l) 1 = some (sI μ1 19 p (nI (mA σ.2.1.1 q))) := by
                  unfold f_X8_moveOrYield
                  rw [if_neg (show ¬ (1 : Int32) = 0 by decide), cx1, Option.bind_some]
                have mv0 : f_X8_moveOrYield F μ1 0 (nI p) (nI l) 0 = some (sI μ1 20 p (nI (mG σ.2.1.1 p + 1))) := by
                  unfold f_X8_moveOrYield
                  rw [if_pos (rfl : (0 : Int32) = 0), if_pos (ix5 hg hp), if_pos (ix5 hg hp), lt_eq, cl5 hg hp, g1, nI_1]
                rcases (show k = 0 ∨ k = 1 ∨ k = 2 ∨ k = 3 by omega) with rfl | rfl | rfl | rfl
                · have o20 : Off 17 21 μ1 (sI μ1 19 p (nI (mA σ.2.1.1 q))) := Off_sI (Off_rfl 17 21 μ1) (by decide) _ _
                  obtain ⟨t', t1', t2'⟩ := told_off hC (Off_tr o1 (Off_wide o20 (by decide) (by decide)))
                  have cx2 := C_cross (F := F) hg (OkM_A (p := p) vC.2.2.2 a2) t1' t2' (MoC_A d1.1 p (mA σ.2.1.1 q)) hq hl
                  have e7 : mA (seA σ.2.1.1 p (mA σ.2.1.1 q)) q = mA σ.2.1.1 q := if_neg (fun z => hpq z.symm)
                  rw [e7, c3] at cx2
                  have mv2 : f_X8_moveOrYield F (sI μ1 19 p (nI (mA σ.2.1.1 q))) 0 (nI q) (nI l) 1 = some (sI (sI μ1 19 p (nI (mA σ.2.1.1 q))) 19 q (nI (mA σ.2.1.1 p))) := by
                    unfold f_X8_moveOrYield
                    rw [if_neg (show ¬ (1 : Int32) = 0 by decide), cx2, Option.bind_some]
                  refine fin (mA σ.2.1.1 q) (mA σ.2.1.1 p) (mG σ.2.1.1 p) (mG σ.2.1.1 q) (mC σ.2.1.1) (sI (sI μ1 19 p (nI (mA σ.2.1.1 q))) 19 q (nI (mA σ.2.1.1 p))) (nI 0) _ _ a2 a1 hcn (Off_sI o20 (by decide) _ _) (MoC_ext (MoC_A (MoC_A d1.1 p _) q _) rfl (fun r hr => ⟨rfl, rfl, met_G r⟩)) ?_ ?_
                  · rw [if_neg (show ¬ nI 0 = 3 by decide), if_neg (show ¬ nI 0 = 2 by decide), mv1, Option.bind_some, if_neg (show ¬ nI 0 = 1 by decide), mv2, Option.bind_some]
                  · simp only [show nI 0 < 2 from by decide, show nI 0 = 0 from rfl, show ¬ (0 : Int32) = 1 by decide, show ¬ (0 : Int32) = 2 by decide, show ¬ (0 : Int32) = 3 by decide, show (0 : Int32) < 2 from by decide, l1, l2, n1, n2, j1, j2, k1, k2, lt_eq, w1, w2, w3, nI_1, Int32.add_zero, Int32.or_zero, ↓reduceIte]
                · have o20 : Off 17 21 μ1 (sI μ1 19 p (nI (mA σ.2.1.1 q))) := Off_sI (Off_rfl 17 21 μ1) (by decide) _ _
                  have e7 : gI (sI μ1 19 p (nI (mA σ.2.1.1 q))) (0 + 16 + 1 + 3) q = nI (mG σ.2.1.1 q) := by rw [gI_sI, if_neg (by omega)]; exact (d1.1.2 q hq).2.2
                  have mv2 : f_X8_moveOrYield F (sI μ1 19 p (nI (mA σ.2.1.1 q))) 0 (nI q) (nI l) 0 = some (sI (sI μ1 19 p (nI (mA σ.2.1.1 q))) 20 q (nI (mG σ.2.1.1 q + 1))) := by
                    unfold f_X8_moveOrYield
                    rw [if_pos (rfl : (0 : Int32) = 0), if_pos (ix5 hg hq), if_pos (ix5 hg hq), lt_eq, cl5 hg hq, e7, nI_1]
                  refine fin (mA σ.2.1.1 q) (mA σ.2.1.1 q) (mG σ.2.1.1 p) (mG σ.2.1.1 q + 1) (mC σ.2.1.1) (sI (sI μ1 19 p (nI (mA σ.2.1.1 q))) 20 q (nI (mG σ.2.1.1 q + 1))) (nI 1) _ _ a2 a2 hcn (Off_sI o20 (by decide) _ _) (MoC_ext (MoC_G (MoC_A d1.1 p _) q _) rfl (fun r hr => ⟨rfl, met_A1 hpq r, met_G1 hpq r⟩)) ?_ ?_
                  · rw [if_neg (show ¬ nI 1 = 3 by decide), if_neg (show ¬ nI 1 = 2 by decide), mv1, Option.bind_some, if_pos (show nI 1 = 1 from rfl), mv2, Option.bind_some]
                  · simp only [show nI 1 < 2 from by decide, show ¬ nI 1 = 0 by decide, show nI 1 = 1 from rfl, show ¬ (1 : Int32) = 0 by decide, show ¬ (1 : Int32) = 2 by decide, show ¬ (1 : Int32) = 3 by decide, show (1 : Int32) < 2 from by decide, l1, l2, n1, n2, j1, j2, k1, k2, lt_eq, w1, w2, w3, nI_1, Int32.add_zero, Int32.or_zero, ↓reduceIte]
                · have o20 : Off 17 21 μ1 (sI μ1 20 p (nI (mG σ.2.1.1 p + 1))) := Off_sI (Off_rfl 17 21 μ1) (by decide) _ _
                  obtain ⟨t', t1', t2'⟩ := told_off hC (Off_tr o1 (Off_wide o20 (by decide) (by decide)))
                  have cx2 := C_cross (F := F) hg (OkM_G (p := p) (x := mG σ.2.1.1 p + 1) vC.2.2.2) t1' t2' (MoC_G d1.1 p (mG σ.2.1.1 p + 1)) hq hl
                  have e7 : mA (seG σ.2.1.1 p (mG σ.2.1.1 p + 1)) q = mA σ.2.1.1 q := rfl
                  rw [e7, c3] at cx2
                  have mv2 : f_X8_moveOrYield F (sI μ1 20 p (nI (mG σ.2.1.1 p + 1))) 0 (nI q) (nI l) 1 = some (sI (sI μ1 20 p (nI (mG σ.2.1.1 p + 1))) 19 q (nI (mA σ.2.1.1 p))) := by
                    unfold f_X8_moveOrYield
                    rw [if_neg (show ¬ (1 : Int32) = 0 by decide), cx2, Option.bind_some]
                  refine fin (mA σ.2.1.1 p) (mA σ.2.1.1 p) (mG σ.2.1.1 p + 1) (mG σ.2.1.1 q) (mC σ.2.1.1) (sI (sI μ1 20 p (nI (mG σ.2.1.1 p + 1))) 19 q (nI (mA σ.2.1.1 p))) (nI 2) _ _ a1 a1 hcn (Off_sI o20 (by decide) _ _) (MoC_ext (MoC_A (MoC_G d1.1 p _) q _) rfl (fun r hr => ⟨rfl, met_A2 hpq r, met_G2 hpq r⟩)) ?_ ?_
                  · rw [if_neg (show ¬ nI 2 = 3 by decide), if_pos (show nI 2 = 2 from rfl), mv0, Option.bind_some, if_neg (show ¬ nI 2 = 1 by decide), mv2, Option.bind_some]
                  · simp only [show ¬ nI 2 < 2 by decide, show ¬ nI 2 = 0 by decide, show ¬ nI 2 = 1 by decide, show ¬ nI 2 = 3 by decide, show nI 2 = 2 from rfl, show ¬ (2 : Int32) = 0 by decide, show ¬ (2 : Int32) = 1 by decide, show ¬ (2 : Int32) = 3 by decide, show ¬ (2 : Int32) < 2 by decide, l1, l2, n1, n2, j1, j2, k1, k2, lt_eq, w1, w2, w3, nI_1, Int32.add_zero, Int32.or_zero, ↓reduceIte]
                · refine fin (mA σ.2.1.1 p) (mA σ.2.1.1 q) (mG σ.2.1.1 p) (mG σ.2.1.1 q) (mC σ.2.1.1 ||| 2 ^ l) (sI μ1 17 3 (nI (mC σ.2.1.1 ||| 2 ^ l))) (nI 3) _ _ a1 a2 hor (Off_sI (Off_rfl 17 21 μ1) (by decide) _ _) (MoC_ext (MoC_C d1.1 _) rfl (fun r hr => ⟨rfl, met_A r, met_G r⟩)) ?_ ?_
                  · unfold f_X3_close
                    rw [if_pos (show nI 3 = 3 from rfl), lt_eq, Option.bind_some, g3, one_shl l (by omega), fa_or]
                  · simp only [show ¬ nI 3 < 2 by decide, show ¬ nI 3 = 0 by decide, show ¬ nI 3 = 1 by decide, show ¬ nI 3 = 2 by decide, show nI 3 = 3 from rfl, show ¬ (3 : Int32) = 0 by decide, show ¬ (3 : Int32) = 1 by decide, show ¬ (3 : Int32) = 2 by decide, show ¬ (3 : Int32) < 2 by decide, l1, l2, n1, n2, j1, j2, k1, k2, lt_eq, w1, w2, w3, nI_1, Int32.add_zero, Int32.or_zero, ↓reduceIte, one_shl l (show l < 9 by omega), fa_or]
              · have c2' : ¬ nI (oth σ.1 l (mA σ.2.1.1 p)) = nI (mA σ.2.1.1 q) := fun z => c2 ((nI_eq (by omega) (by omega)).mp z)
                rw [if_neg (show ¬ ((mA σ.2.1.1 p = gF σ.1 l ∨ mA σ.2.1.1 p = gS σ.1 l) ∧ oth σ.1 l (mA σ.2.1.1 p) = mA σ.2.1.1 q) from fun z => c2 z.2), if_pos (rfl : (0 : Int32) = 0), if_pos c1, if_neg (show ¬ (1 : Int32) = 0 by decide), if_neg c2']
                exact Stps_same ho hC hM _
            · rw [if_neg (show ¬ ((mA σ.2.1.1 p = gF σ.1 l ∨ mA σ.2.1.1 p = gS σ.1 l) ∧ oth σ.1 l (mA σ.2.1.1 p) = mA σ.2.1.1 q) from fun z => c1 z.1), if_pos (rfl : (0 : Int32) = 0), if_neg c1, if_pos (rfl : (0 : Int32) = 0)]
              exact Stps_same ho hC hM _
        · rw [if_neg hc, if_neg hc, if_neg (show ¬ (1 : Int32) = 0 by decide), if_pos (rfl : (0 : Int32) = 0)]
          exact Stps_same ho hC hM _
    · rw [if_neg hb, if_neg hb, if_neg (show ¬ (1 : Int32) = 0 by decide), if_pos (rfl : (0 : Int32) = 0)]
      exact Stps_same ho hC hM _
  · rw [if_neg ha, if_neg ha, if_neg (show ¬ (1 : Int32) = 0 by decide), if_pos (rfl : (0 : Int32) = 0)]
    exact Stps_same ho hC hM _
end R50
