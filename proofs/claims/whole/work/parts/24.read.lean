/-! lanes, people, meetings, must -/
section R24
variable {F : Nat} {μ : Mem} {g : Cfg} {m : Mo}
theorem not_ok {p : Int32} {n : Nat} (h : ¬ okN p n = true) : (if okN p n = true then (1 : Int32) else 0) = 0 ∧ (if okN p n = true then (0 : Int32) else 1) = 1 := by simp [h]
theorem is_ok {p : Int32} {n : Nat} (h : okN p n = true) : (if okN p n = true then (1 : Int32) else 0) = 1 ∧ (if okN p n = true then (0 : Int32) else 1) = 0 := by simp [h]
theorem C_passable (hF : 5000 ≤ F) (h : VC μ g m) {p : Nat} (hp : p < gM g) : f_X8_passable F μ 0 (nI p) = some (nI (msk (alw g m p (mC m)) (gN g))) := by
  have hg := h.2.2.1
  have h8 := hg.2.2.1
  have hmc := h.2.2.2.2
  have eN : gI μ (gR μ 0 1) 1 = nI (gN g) := by obtain ⟨⟨t, ht, _, hc⟩, _⟩ := h; rw [ht]; exact hc.2.1
  have e : gI μ (0 + 16 + 1) 3 = nI (mC m) := h.2.1.1
  have hlt : ∀ f : Nat → Bool, msk f (gN g) < 256 := fun f => by
    have h1 := msk_lt f (gN g)
    have h2 : 2 ^ gN g ≤ 2 ^ 8 := Nat.pow_le_pow_right (by decide) h8
    omega
  have hop : f_X8_openLanes F μ 0 = some (nI (msk (fun l => !(mC m).testBit l) (gN g))) := by
    unfold f_X8_openLanes
    rw [eN, e, opn_q (gN g) (by omega) _ hmc]
  unfold f_X8_passable
  rw [hop, Option.bind_some]
  have hrun := for_run (S := Nat) (f := fun n s i => f_X8_passable_L7 F μ 0 (nI p) (fun x _ => some x) n (nI s) (nI i)) (N := gN g) (step := fun i s => if gW g i < wd g m p then clr s i else s) (k := fun s => some (nI s)) (fun i s => s < 256 ∧ ∀ j, j < 8 → s.testBit j = (decide (j < gN g) && !(mC m).testBit j && (decide (i ≤ j) || decide (wd g m p ≤ gW g j))))
    (fun n s i hi hs => by
      show f_X8_passable_L7 F μ 0 (nI p) (fun x _ => some x) (n + 1) (nI s) (nI i) = f_X8_passable_L7 F μ 0 (nI p) (fun x _ => some x) n (nI (if gW g i < wd g m p then clr s i else s)) (nI (i + 1))
      rw [f_X8_passable_L7, eN, if_pos (nI_lt hi (by omega)), C_narrow h hi hp, Option.bind_some, lt_eq, clr_q s hs.1 i (by omega), nI_1]
      by_cases hw : gW g i < wd g m p
      · simp [hw]
      · simp [hw])
    (fun i s hi hs => by
      by_cases hw : gW g i < wd g m p
      · simp only [hw, if_true]
        refine ⟨clr_lt s hs.1 i (by omega), fun j hj => ?_⟩
        rw [clr_bit s hs.1 i (by omega) j hj, hs.2 j hj]
        by_cases hji : j = i
        · subst hji
          have a1 : ¬ wd g m p ≤ gW g j := by omega
          have a2 : ¬ j + 1 ≤ j := by omega
          simp [a1]
        · have a1 : decide (i + 1 ≤ j) = decide (i ≤ j) := by simp; omega
          simp [hji, a1]
      · simp only [hw, if_false]
        refine ⟨hs.1, fun j hj => ?_⟩
        rw [hs.2 j hj]
        by_cases hji : j = i
        · subst hji
          have a1 : wd g m p ≤ gW g j := by omega
          simp [a1]
        · have a1 : decide (i + 1 ≤ j) = decide (i ≤ j) := by simp; omega
          simp [a1])
    (fun n s _ => by
      show f_X8_passable_L7 F μ 0 (nI p) (fun x _ => some x) (n + 1) (nI s) (nI (gN g)) = some (nI s)
      rw [f_X8_passable_L7, eN, if_neg (nI_nlt (Nat.le_refl _) (by omega))])
    (gN g) F 0 (msk (fun l => !(mC m).testBit l) (gN g)) (by omega) (by omega) ⟨hlt _, fun j hj => by rw [msk_bit]; simp⟩
  have hinv := fr_inv (step := fun i s => if gW g i < wd g m p then clr s i else s) (N := gN g) (fun i s => s < 256 ∧ ∀ j, j < 8 → s.testBit j = (decide (j < gN g) && !(mC m).testBit j && (decide (i ≤ j) || decide (wd g m p ≤ gW g j))))
    (fun i s hi hs => by
      by_cases hw : gW g i < wd g m p
      · simp only [hw, if_true]
        refine ⟨clr_lt s hs.1 i (by omega), fun j hj => ?_⟩
        rw [clr_bit s hs.1 i (by omega) j hj, hs.2 j hj]
        by_cases hji : j = i
        · subst hji
          have a1 : ¬ wd g m p ≤ gW g j := by omega
          simp [a1]
        · have a1 : decide (i + 1 ≤ j) = decide (i ≤ j) := by simp; omega
          simp [hji, a1]
      · simp only [hw, if_false]
        refine ⟨hs.1, fun j hj => ?_⟩
        rw [hs.2 j hj]
        by_cases hji : j = i
        · subst hji
          have a1 : wd g m p ≤ gW g j := by omega
          simp [a1]
        · have a1 : decide (i + 1 ≤ j) = decide (i ≤ j) := by simp; omega
          simp [a1])
    (gN g) 0 (msk (fun l => !(mC m).testBit l) (gN g)) (by omega) ⟨hlt _, fun j hj => by rw [msk_bit]; simp⟩
  refine hrun.trans (congrArg (fun x => some (nI x)) (ext8 hinv.1 (hlt _) (fun j hj => ?_)))
  rw [hinv.2 j hj, msk_bit, Nat.zero_add]
  unfold alw
  by_cases hjn : j < gN g
  · have a1 : ¬ gN g ≤ j := by omega
    simp [hjn, a1]
  · simp [hjn]
theorem msk8 (hg : OkG g) (f : Nat → Bool) : msk f (gN g) < 256 := by
  have h1 := msk_lt f (gN g)
  have h2 : 2 ^ gN g ≤ 2 ^ 8 := Nat.pow_le_pow_right (by decide) hg.2.2.1
  omega
theorem C_joined_msk (hF : 5000 ≤ F) (h : VC μ g m) (f : Nat → Bool) {a : Nat} (ha : a < gP g) : f_X7_joined F μ (gR μ 0 1) (nI (msk f (gN g))) (nI a) = some (nI (clo g f a)) := by
  rw [C_joined hF h (msk8 h.2.2.1 f) ha]
  rw [clo_cong (al2 := f) (fun l hl => by rw [msk_bit]; simp [hl]) a]
theorem C_at (h : VC μ g m) {p : Nat} (hp : p < gM g) : gI μ 19 p = nI (mA m p) := (h.2.1.2 p hp).2.1
theorem C_el (h : VC μ g m) {p : Nat} (hp : p < gM g) : gI μ 18 p = nI (mE m p) := (h.2.1.2 p hp).1
theorem C_gv (h : VC μ g m) {p : Nat} (hp : p < gM g) : gI μ 20 p = nI (mG m p) := (h.2.1.2 p hp).2.2
theorem M_el (h : VM μ g m) {p : Nat} (hp : p < gM g) : gI μ (166 + 12) (5 + p) = nI (mE m p) := by have := (h.2.1.2 p hp).1; rwa [Nat.zero_add] at this
theorem M_at (h : VM μ g m) {p : Nat} (hp : p < gM g) : gI μ (166 + 12) (0 + p) = nI (mA m p) := (h.2.1.2 p hp).2.1
theorem M_gv (h : VM μ g m) {p : Nat} (hp : p < gM g) : gI μ (166 + 12) (10 + p) = nI (mG m p) := by have := (h.2.1.2 p hp).2.2; rwa [Nat.zero_add] at this
theorem ix5 (hg : OkG g) {p : Nat} (hp : p < gM g) : ix (nI p) 5 = true := nI_ix (by have := hg.2.2.2.1; omega) (by decide)
theorem cl5 (hg : OkG g) {p : Nat} (hp : p < gM g) : (nI p).toNatClampNeg = p := nI_clamp (by have := hg.2.2.2.1; omega)
theorem ix8 (hg : OkG g) {l : Nat} (hl : l < gN g) : ix (nI l) 8 = true ∧ ix (nI l) 16 = true ∧ (nI l).toNatClampNeg = l := by
  have := hg.2.2.1
  exact ⟨nI_ix (by omega) (by decide), nI_ix (by omega) (by decide), nI_clamp (by omega)⟩
theorem C_reach (hF : 5000 ≤ F) (h : VC μ g m) {p : Nat} (hp : p < gM g) : f_X8_reach F μ 0 (nI p) = some (nI (clo g (alw g m p (mC m)) (mA m p))) := by
  have e1 : gI μ (0 + 16 + 1 + 2) p = nI (mA m p) := C_at h hp
  unfold f_X8_reach
  rw [C_passable hF h hp, Option.bind_some, if_pos (ix5 h.2.2.1 hp), cl5 h.2.2.1 hp, e1, C_joined_msk hF h _ (h.2.2.2.1 p hp).2]; rfl
theorem S_lane (hC : VC μ g m) (hM : VM μ g m) (a b : Int32) : ∃ v, f_X8_lane F μ 0 a b = some v ∧ f_X9_lane F μ 166 a b = some v := by
  unfold f_X8_lane f_X9_lane
  rw [C_noLane hC, M_isLane hM, Option.bind_some, Option.bind_some]
  by_cases ha : okN a (gN g) = true
  · have hg := hC.2.2.1
    have h8 := hg.2.2.1
    obtain ⟨l, hl, rfl⟩ := okN_of (by omega) ha
    obtain ⟨i1, i2, i3⟩ := ix8 hg hl
    have eb : f_X9_in F μ b 0 3 = some (if okN b 4 = true then 1 else 0) := in_ok F μ b 4 (by decide)
    rw [eb, C_closed hC hl, M_closed hM hl]
    simp only [ha, i1, i2, i3, if_true, Option.bind_some, show ¬ (1 : Int32) = 0 by decide, if_false]
    obtain ⟨⟨t, ht, _, hc⟩, _⟩ := hC
    obtain ⟨c1, c2, c3⟩ := hc.2.2.2.2.2 l hl
    obtain ⟨d1, d2, d3⟩ := hM.1.2.2.2.2.2 l hl
    have d1 : gI μ (166 + 4) l = _ := d1
    have d2 : gI μ (166 + 5) l = _ := d2
    have d3 : gI μ (166 + 6) l = _ := d3
    rw [ht, c1, c2, c3, d1, d2, d3]
    by_cases hb : okN b 4 = true
    · obtain ⟨w, hw, rfl⟩ := okN_of (by decide) hb
      simp only [hb, if_true, show ¬ (1 : Int32) = 0 by decide, if_false]
      rcases (show w = 0 ∨ w = 1 ∨ w = 2 ∨ w = 3 by omega) with rfl | rfl | rfl | rfl
      · exact ⟨_, rfl, rfl⟩
      · exact ⟨_, rfl, rfl⟩
      · exact ⟨_, rfl, rfl⟩
      · by_cases hcl : (mC m).testBit l = true
        · simp only [hcl, if_true]; exact ⟨_, rfl, rfl⟩
        · simp only [hcl, if_false]; exact ⟨_, rfl, rfl⟩
    · have n0 : ¬ b = 0 := fun z => hb (by rw [z]; decide)
      have n1 : ¬ b = 1 := fun z => hb (by rw [z]; decide)
      have n2 : ¬ b = 2 := fun z => hb (by rw [z]; decide)
      have n3 : ¬ b = 3 := fun z => hb (by rw [z]; decide)
      simp only [hb, n0, n1, n2, n3, if_false, if_true]
      exact ⟨_, rfl, rfl⟩
  · simp only [ha, if_false, show ¬ (1 : Int32) = 0 by decide, if_true]
    exact ⟨_, rfl, rfl⟩
theorem S_person (hF : 5000 ≤ F) (hC : VC μ g m) (hM : VM μ g m) (a b : Int32) : ∃ v, f_X8_person F μ 0 a b = some v ∧ f_X9_person F μ 166 a b = some v := by
  unfold f_X8_person f_X9_person
  rw [C_noPerson hC, M_isPerson hM, Option.bind_some, Option.bind_some]
  have hg := hC.2.2.1
  have h5 := hg.2.2.2.1
  by_cases ha : okN a (gM g) = true
  · obtain ⟨p, hp, rfl⟩ := okN_of (by omega) ha
    have ec : gI μ (166 + 12) 15 = nI (mC m) := hM.2.1.1
    obtain ⟨i1, i2⟩ := M_ixp (p := p) (b := 5) (by omega) (by decide)
    obtain ⟨j1, j2⟩ := M_ixp (p := p) (b := 0) (by omega) (by decide)
    obtain ⟨k1, k2⟩ := M_ixp (p := p) (b := 10) (by omega) (by decide)
    have i1 : ix (5 + nI p) 531 = true := i1
    have i2 : (5 + nI p).toNatClampNeg = 5 + p := i2
    have j1 : ix (0 + nI p) 531 = true := j1
    have j2 : (0 + nI p).toNatClampNeg = 0 + p := j2
    have k1 : ix (10 + nI p) 531 = true := k1
    have k2 : (10 + nI p).toNatClampNeg = 10 + p := k2
    have e1 : gI μ (0 + 16 + 1 + 1) p = nI (mE m p) := C_el hC hp
    have e2 : gI μ (0 + 16 + 1 + 2) p = nI (mA m p) := C_at hC hp
    have e3 : gI μ (0 + 16 + 1 + 3) p = nI (mG m p) := C_gv hC hp
    rw [C_wide hC hp, M_wide hM hp, C_reach hF hC hp, ec, M_reach hF hM hp (mC_lt hg hC.2.2.2)]
    simp only [ha, i1, i2, j1, j2, k1, k2, ix5 hg hp, cl5 hg hp, e1, e2, e3, M_el hM hp, M_at hM hp, M_gv hM hp, if_true, Option.bind_some, show ¬ (1 : Int32) = 0 by decide, if_false]
    by_cases h0 : b = 0
    · simp only [h0, if_true]; exact ⟨_, rfl, rfl⟩
    · by_cases h1 : b = 1
      · simp only [h1, if_true, show ¬ (1 : Int32) = 0 by decide, if_false]; exact ⟨_, rfl, rfl⟩
      · by_cases h2 : b = 2
        · simp only [h0, h1, h2, if_true, if_false, show ¬ (2 : Int32) = 0 by decide, show ¬ (2 : Int32) = 1 by decide]; exact ⟨_, rfl, rfl⟩
        · by_cases h3 : b = 3
          · simp only [h3, if_true, if_false, show ¬ (3 : Int32) = 0 by decide, show ¬ (3 : Int32) = 1 by decide, show ¬ (3 : Int32) = 2 by decide]; exact ⟨_, rfl, rfl⟩
          · by_cases h4 : b = 4
            · simp only [h4, if_true, if_false, show ¬ (4 : Int32) = 0 by decide, show ¬ (4 : Int32) = 1 by decide, show ¬ (4 : Int32) = 2 by decide, show ¬ (4 : Int32) = 3 by decide]; exact ⟨_, rfl, rfl⟩
            · simp only [h0, h1, h2, h3, h4, if_false]; exact ⟨_, rfl, rfl⟩
  · simp only [ha, if_false, show ¬ (1 : Int32) = 0 by decide, if_true]
    exact ⟨_, rfl, rfl⟩
/-- what comes of a meeting -/
def mtg (g : Cfg) (m : Mo) (p q l : Nat) : Nat :=
  if (mC m).testBit l = true then 5 else if gW g l < wd g m p ∨ gW g l < wd g m q then 4 else if wd g m p + wd g m q ≤ gW g l then 0 else if mE m q < mE m p then 1 else if mE m p < mE m q then 2 else 3
theorem sub_cmp {a b : Nat} (ha : a < 1000) (hb : b < 1000) : ((nI a - nI b = 0) ↔ a = b) ∧ ((0 : Int32) < nI a - nI b ↔ b < a) := by
  have h1 : (nI a - nI b).toInt = (a : Int) - b := by
    rw [Int32.toInt_sub, nI_toInt (by omega), nI_toInt (by omega)]
    rw [Int.bmod_eq_of_le] <;> omega
  constructor
  · constructor
    · intro h
      rw [h, Int32.toInt_zero] at h1
      omega
    · intro h
      subst h
      exact Int32.sub_self _
  · rw [Int32.lt_iff_toInt_lt, h1, Int32.toInt_zero]
    omega
theorem C_outcome (h : VC μ g m) {p q l : Nat} (hp : p < gM g) (hq : q < gM g) (hl : l < gN g) : f_X8_outcome F μ 0 (nI p) (nI q) (nI l) = some (nI (mtg g m p q l)) := by
  have hg := h.2.2.1
  have w1 := wd_le hg h.2.2.2 hp
  have w2 := wd_le hg h.2.2.2 hq
  have h9 := (hg.2.2.2.2.2.2.2 l hl).2.2.2.2
  obtain ⟨i1, i2, i3⟩ := ix8 hg hl
  have e1 : gI μ (0 + 16 + 1 + 1) p = nI (mE m p) := C_el h hp
  have e2 : gI μ (0 + 16 + 1 + 1) q = nI (mE m q) := C_el h hq
  have a1 := (h.2.2.2.1 p hp).1
  have a2 := (h.2.2.2.1 q hq).1
  unfold f_X8_outcome
  rw [C_closed h hl, C_narrow h hl hp, C_narrow h hl hq, C_wide h hp, C_wide h hq]
  have eW : gI μ (gR μ 0 1 + 3) l = nI (gW g l) := by obtain ⟨⟨t, ht, _, hc⟩, _⟩ := h; rw [ht]; exact (hc.2.2.2.2.2 l hl).2.2
  simp only [Option.bind_some, i1, i3, ix5 hg hp, ix5 hg hq, cl5 hg hp, cl5 hg hq, eW, e1, e2, if_true, nI_add, lt_eq]
  obtain ⟨s1, s2⟩ := sub_cmp (a := mE m p) (b := mE m q) (by omega) (by omega)
  unfold mtg
  by_cases b1 : (mC m).testBit l = true
  · simp only [b1, if_true, show ¬ (1 : Int32) = 0 by decide, if_false]; rfl
  · by_cases b2 : gW g l < wd g m p
    · simp only [b1, b2, true_or, if_true, show ¬ (1 : Int32) = 0 by decide, if_false]; rfl
    · by_cases b3 : gW g l < wd g m q
      · simp only [b1, b2, b3, or_true, if_true, show ¬ (1 : Int32) = 0 by decide, if_false]; rfl
      · simp only [b1, b2, b3, or_self, if_true, if_false, Bool.false_eq_true]
        by_cases b4 : wd g m p + wd g m q ≤ gW g l
        · rw [if_neg (nI_nlt b4 (by omega)), if_pos b4]; rfl
        · rw [if_pos (nI_lt (by omega) (by omega)), if_neg b4]
          simp only [s1, s2]
          by_cases b5 : mE m q < mE m p
          · rw [if_neg (by omega), if_pos b5, if_pos b5]; rfl
          · by_cases b6 : mE m p < mE m q
            · rw [if_neg (by omega), if_neg b5, if_neg b5, if_pos b6]; rfl
            · rw [if_pos (by omega), if_neg b5, if_neg b6]; rfl
theorem M_outcome (h : VM μ g m) {p q l : Nat} (hp : p < gM g) (hq : q < gM g) (hl : l < gN g) : f_X9_outcome F μ 166 (nI p) (nI q) (nI l) = some (nI (mtg g m p q l)) := by
  have hg := h.2.2.1
  have h5 := hg.2.2.2.1
  have w1 := wd_le hg h.2.2.2 hp
  have w2 := wd_le hg h.2.2.2 hq
  have h9 := (hg.2.2.2.2.2.2.2 l hl).2.2.2.2
  obtain ⟨i1, i2, i3⟩ := ix8 hg hl
  obtain ⟨j1, j2⟩ := M_ixp (p := p) (b := 5) (by omega) (by decide)
  obtain ⟨k1, k2⟩ := M_ixp (p := q) (b := 5) (by omega) (by decide)
  have j1 : ix (5 + nI p) 531 = true := j1
  have j2 : (5 + nI p).toNatClampNeg = 5 + p := j2
  have k1 : ix (5 + nI q) 531 = true := k1
  have k2 : (5 + nI q).toNatClampNeg = 5 + q := k2
  have a1 := (h.2.2.2.1 p hp).1
  have a2 := (h.2.2.2.1 q hq).1
  have eW : gI μ (166 + 6) l = nI (gW g l) := (h.1.2.2.2.2.2 l hl).2.2
  unfold f_X9_outcome
  rw [M_closed h hl, M_wide h hp, M_wide h hq]
  simp only [Option.bind_some, i2, i3, j1, j2, k1, k2, eW, M_el h hp, M_el h hq, if_true, nI_add, lt_eq]
  unfold mtg
  by_cases b1 : (mC m).testBit l = true
  · simp only [b1, if_true, show ¬ (1 : Int32) = 0 by decide, if_false]; rfl
  · simp only [b1, if_true, if_false, Bool.false_eq_true]
    simp (disch := omega) only [nI_ltI]
    by_cases b2 : gW g l < wd g m p
    · simp only [b2, true_or, if_true]; rfl
    · by_cases b3 : gW g l < wd g m q
      · simp only [b2, b3, or_true, if_true, if_false]; rfl
      · simp only [b2, b3, or_self, if_false]
        by_cases b4 : wd g m p + wd g m q ≤ gW g l
        · rw [if_neg (by omega), if_pos b4]; rfl
        · rw [if_pos (by omega), if_neg b4]
          by_cases b5 : mE m q < mE m p
          · rw [if_pos b5, if_pos b5]; rfl
          · by_cases b6 : mE m p < mE m q
            · rw [if_neg b5, if_pos b6, if_neg b5, if_pos b6]; rfl
            · rw [if_neg b5, if_neg b6, if_neg b5, if_neg b6]; rfl
theorem S_meeting (hC : VC μ g m) (hM : VM μ g m) (a b c : Int32) : ∃ v, f_X8_meeting F μ 0 a b c = some v ∧ f_X9_meeting F μ 166 a b c = some v := by
  unfold f_X8_meeting f_X9_meeting
  have hg := hC.2.2.1
  have h5 := hg.2.2.2.1
  have h8 := hg.2.2.1
  simp only [C_noPerson hC, C_noLane hC, M_isPerson hM, M_isLane hM, Option.bind_some]
  by_cases ha : okN a (gM g) = true
  · by_cases hb : okN b (gM g) = true
    · by_cases hab : a = b
      · simp only [ha, hb, hab, if_true, if_false, show ¬ (1 : Int32) = 0 by decide]
        exact ⟨_, rfl, rfl⟩
      · by_cases hc : okN c (gN g) = true
        · obtain ⟨p, hp, rfl⟩ := okN_of (by omega) ha
          obtain ⟨q, hq, rfl⟩ := okN_of (by omega) hb
          obtain ⟨l, hl, rfl⟩ := okN_of (by omega) hc
          rw [C_outcome hC hp hq hl, M_outcome hM hp hq hl]
          simp only [ha, hb, hab, hc, if_true, if_false, show ¬ (1 : Int32) = 0 by decide]
          exact ⟨_, rfl, rfl⟩
        · simp only [ha, hb, hab, hc, if_true, if_false, show ¬ (1 : Int32) = 0 by decide]
          exact ⟨_, rfl, rfl⟩
    · simp only [ha, hb, if_true, if_false, show ¬ (1 : Int32) = 0 by decide]
      exact ⟨_, rfl, rfl⟩
  · simp only [ha, if_true, if_false, show ¬ (1 : Int32) = 0 by decide]
    exact ⟨_, rfl, rfl⟩
end R24
