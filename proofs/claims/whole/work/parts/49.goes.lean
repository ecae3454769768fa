section R49
variable {F : Nat}
theorem C_cross {μ1 : Mem} {g : Cfg} {m : Mo} {t : Nat} (hg : OkG g) (hm : OkM g m) (ht : gR μ1 0 1 = t) (hc : CfgC μ1 t g) (h : MoC μ1 17 (gM g) m) {p l : Nat} (hp : p < gM g) (hl : l < gN g) : f_X8_cross F μ1 0 (nI p) (nI l) = some (sI μ1 19 p (nI (oth g l (mA m p)))) := by
  obtain ⟨i1, i2, i3⟩ := ix8 hg hl
  obtain ⟨c1, c2, -⟩ := hc.2.2.2.2.2 l hl
  have e1 : gI μ1 (0 + 16 + 1 + 2) p = nI (mA m p) := (h.2 p hp).2.1
  have hP := hg.2.1
  have a1 := (hm.1 p hp).2
  obtain ⟨g1, g2, g3, -⟩ := hg.2.2.2.2.2.2.2 l hl
  unfold f_X8_cross oth
  rw [ht]
  simp only [ix5 hg hp, cl5 hg hp, i1, i3, if_true, lt_eq, e1, c1, c2]
  by_cases e : mA m p = gF g l
  · rw [if_pos (by rw [e]), if_pos e.symm]
  · rw [if_neg (fun z => e ((nI_eq (by omega) (by omega)).mp z)), if_neg (fun z => e z.symm)]
/-- the told capital where the course alone changed -/
theorem told_off {σ : St} {μ μ1 : Mem} (hC : RcC σ μ) (h : Off 16 62 μ μ1) : ∃ t, gR μ1 0 1 = t ∧ CfgC μ1 t σ.1 := by
  obtain ⟨⟨t, d, r1, r2, r3, r4⟩, -⟩ := hC
  exact ⟨t, ((h 0 (by omega)).2.1 1).trans r1, CfgC_sm (fun k hk => h _ (by omega)) r4⟩
theorem M_canGo2 {μ : Mem} {g : Cfg} {m : Mo} (h : VM μ g m) {p l : Nat} (hp : p < gM g) (hl : l < gN g) : f_X9_canGo F μ 166 (nI p) (nI l) (nI (mC m)) = some (if alw g m p (mC m) l = true then 1 else 0) := by
  have hg := h.2.2.1
  have h8 := hg.2.2.1
  obtain ⟨i1, i2, i3⟩ := ix8 hg hl
  have eW : gI μ (166 + 6) l = nI (gW g l) := (h.1.2.2.2.2.2 l hl).2.2
  have w1 := wd_le hg h.2.2.2 hp
  have h9 := (hg.2.2.2.2.2.2.2 l hl).2.2.2.2
  unfold f_X9_canGo alw
  rw [bit_q _ (mC_lt hg h.2.2.2) l (by omega), M_wide h hp]
  by_cases b1 : (mC m).testBit l = true
  · simp [b1]
  · have b1' : (mC m).testBit l = false := by simpa using b1
    simp only [b1', if_false, if_true, Bool.false_eq_true, Option.bind_some, i2, i3, eW, Bool.not_false, Bool.true_and, decide_eq_true_eq]
    simp (disch := omega) only [nI_ltI]
    by_cases b2 : gW g l < wd g m p
    · rw [if_pos b2, if_neg (by omega)]
    · rw [if_neg b2, if_pos (by omega)]
theorem S_goes (hF : 5000 ≤ F) {σ : St} {μ μ' : Mem} (ho : OkS σ) (hC : RcC σ μ) (hM : RcM σ μ') (a b : Int32) : Stps μ μ' (f_X8_goes F μ 0 a b) (f_X9_goes F μ' 166 a b) := by
  have vC := RcC_VC ho hC
  have vM := RcM_VM ho hM
  have hg := ho.1
  have h5 := hg.2.2.2.1
  have h8 := hg.2.2.1
  have hP := hg.2.1
  unfold f_X8_goes f_X9_goes
  rw [C_noPerson vC, M_isPerson vM, Option.bind_some, Option.bind_some]
  by_cases ha : okN a (gM σ.1) = true
  · rw [C_noLane vC, M_isLane vM, Option.bind_some, Option.bind_some]
    by_cases hb : okN b (gN σ.1) = true
    · simp only [ha, hb, if_true, if_false, show ¬ (1 : Int32) = 0 by decide]
      obtain ⟨p, hp, rfl⟩ := okN_of (by omega) ha
      obtain ⟨l, hl, rfl⟩ := okN_of (by omega) hb
      obtain ⟨l1, l2⟩ := M_ixp (p := p) (b := 0) (by omega) (by decide)
      have l1 : ix (0 + nI p) 531 = true := l1
      have l2 : (0 + nI p).toNatClampNeg = 0 + p := l2
      have bp := vC.2.2.2.1 p hp
      have eC : gI μ' (166 + 12) 15 = nI (mC σ.2.1.1) := vM.2.1.1
      rw [C_atEnd vC hl hp, C_closed vC hl, C_narrow vC hl hp, if_pos l1, l2, M_at vM hp, M_ends vM hl (by omega), eC, M_canGo2 vM hp hl, Option.bind_some, Option.bind_some, Option.bind_some, Option.bind_some]
      by_cases c1 : mA σ.2.1.1 p = gF σ.1 l ∨ mA σ.2.1.1 p = gS σ.1 l
      · simp only [c1, if_true, show ¬ (1 : Int32) = 0 by decide, if_false]
        by_cases c2 : (mC σ.2.1.1).testBit l = true
        · have c3 : ¬ alw σ.1 σ.2.1.1 p (mC σ.2.1.1) l = true := by unfold alw; simp [c2]
          simp only [c2, c3, if_true, if_false, show ¬ (1 : Int32) = 0 by decide, Bool.false_eq_true]
          exact Stps_same ho hC hM _
        · by_cases c4 : gW σ.1 l < wd σ.1 σ.2.1.1 p
          · have c3 : ¬ alw σ.1 σ.2.1.1 p (mC σ.2.1.1) l = true := by unfold alw; simp; intro _; omega
            simp only [c2, c3, c4, if_true, if_false, show ¬ (1 : Int32) = 0 by decide, Bool.false_eq_true, Option.bind_some]
            exact Stps_same ho hC hM _
          · have c3 : alw σ.1 σ.2.1.1 p (mC σ.2.1.1) l = true := by
              unfold alw
              have : (mC σ.2.1.1).testBit l = false := by simpa using c2
              simp [this]; omega
            simp only [c2, c3, c4, if_true, if_false, show ¬ (1 : Int32) = 0 by decide, Bool.false_eq_true, Option.bind_some]
            obtain ⟨μ1, r1, o1, q1, d1⟩ := remember_ok hF h5 hC.2.1 hC.2.2.1
            obtain ⟨μ3, r3, o3, d3⟩ := M_know hF h5 hM.2.1
            have r1 : f_X0_remember F μ (0 + 16) = some μ1 := r1
            have o3 : Of8 0 177 μ' μ3 := Of8_wide o3 (by decide) (by decide)
            obtain ⟨t, t1, t2⟩ := told_off hC o1
            have vM3 : VM μ3 σ.1 σ.2.1.1 := ⟨(RcM_co h5 o3 hM d3).1, d3.1, hg, vM.2.2.2⟩
            have e3 : gI μ3 (166 + 12) (0 + p) = nI (mA σ.2.1.1 p) := M_at vM3 hp
            have hoth := oth_lt (v := mA σ.2.1.1 p) hg hl
            have g3 : gI (sI μ1 19 p (nI (oth σ.1 l (mA σ.2.1.1 p)))) (0 + 16 + 1 + 2) p = nI (oth σ.1 l (mA σ.2.1.1 p)) := by rw [gI_sI, if_pos ⟨rfl, rfl⟩]
            have g4 : gI (sI μ3 (166 + 12) (0 + p) (nI (oth σ.1 l (mA σ.2.1.1 p)))) (166 + 12) (0 + p) = nI (oth σ.1 l (mA σ.2.1.1 p)) := by rw [gI_sI, if_pos ⟨rfl, rfl⟩]
            rw [r1, r3, Option.bind_some, Option.bind_some, C_cross hg vC.2.2.2 t1 t2 d1.1 hp hl, Option.bind_some, if_pos (ix5 hg hp), cl5 hg hp, g3, e3, M_other vM3 hl (by omega), Option.bind_some, lt_eq, g4]
            obtain ⟨z1, z2, z3, z4, z5⟩ := mvs (v := 0) ho hC hM (m' := seA σ.2.1.1 p (oth σ.1 l (mA σ.2.1.1 p))) (OkM_A vC.2.2.2 hoth) o1 q1 d1 (Off_sI (Off_rfl 17 21 μ1) (q := 19) (by decide) p _) (MoC_A d1.1 p _) o3 d3 (Of8_sI (Of8_rfl 0 16 μ3) (j := 0 + p) (by omega) _) (MoM_A h5 d3.1 (by omega) _)
            exact ⟨_, _, _, _, rfl, (if_pos l1).trans ((if_pos l1).trans (if_pos l1)), z1, z2, z3, z4, z5⟩
      · simp only [c1, if_true, if_false]
        exact Stps_same ho hC hM _
    · simp only [ha, hb, if_true, if_false, show ¬ (1 : Int32) = 0 by decide, Bool.false_eq_true]
      exact Stps_same ho hC hM _
  · simp only [ha, if_true, if_false, show ¬ (1 : Int32) = 0 by decide, Bool.false_eq_true]
    exact Stps_same ho hC hM _
theorem MoC_ext {μ : Mem} {q n : Nat} {m m' : Mo} (h : MoC μ q n m) (hc : mC m = mC m') (he : ∀ p, p < n → mE m p = mE m' p ∧ mA m p = mA m' p ∧ mG m p = mG m' p) : MoC μ q n m' := ⟨hc ▸ h.1, fun p hp => by
  have e := he p hp
  rw [← e.1, ← e.2.1, ← e.2.2]
  exact h.2 p hp⟩
/-- how a meeting leaves them -/
def met (m : Mo) (p q a1 a2 g1 g2 c : Nat) : Mo := seC (seG (seG (seA (seA m p a1) q a2) p g1) q g2) c
theorem both_ends {μ : Mem} {g : Cfg} {m : Mo} (h : VC μ g m) {p q l : Nat} (hp : p < gM g) (hq : q < gM g) (hl : l < gN g) : f_X8_areAtBothEnds F μ 0 (nI p) (nI q) (nI l) = some (if (mA m p = gF g l ∨ mA m p = gS g l) ∧ oth g l (mA m p) = mA m q then 1 else 0) := by
  have hg := h.2.2.1
  have hP := hg.2.1
  have e1 : gI μ (0 + 16 + 1 + 2) p = nI (mA m p) := C_at h hp
  have e2 : gI μ (0 + 16 + 1 + 2) q = nI (mA m q) := C_at h hq
  have a1 := (h.2.2.2.1 p hp).2
  have a2 := (h.2.2.2.1 q hq).2
  obtain ⟨g1, g2, g3, -⟩ := hg.2.2.2.2.2.2.2 l hl
  unfold f_X8_areAtBothEnds
  rw [C_atEnd h hl hp, C_atEnd h hl hq, Option.bind_some, Option.bind_some]
  simp only [ix5 hg hp, cl5 hg hp, ix5 hg hq, cl5 hg hq, if_true, e1, e2]
  simp (disch := omega) only [nI_eq]
  by_cases c1 : mA m p = gF g l ∨ mA m p = gS g l
  · rw [if_pos c1, if_neg (show ¬ (1 : Int32) = 0 by decide)]
    by_cases c2 : mA m q = gF g l ∨ mA m q = gS g l
    · rw [if_pos c2, if_neg (show ¬ (1 : Int32) = 0 by decide)]
      by_cases c3 : mA m p = mA m q
      · rw [if_pos c3, if_neg]
        intro z
        have z2 := z.2
        unfold oth at z2
        split at z2 <;> omega
      · rw [if_neg c3, if_pos]
        refine ⟨c1, ?_⟩
        unfold oth
        split <;> omega
    · rw [if_neg c2, if_pos (rfl : (0 : Int32) = 0), if_neg]
      intro z
      have z2 := z.2
      unfold oth at z2
      split at z2 <;> omega
  · rw [if_neg c1, if_pos (rfl : (0 : Int32) = 0), if_neg (fun z => c1 z.1)]
end R49
