/-! small questions: the class's answers, the model's -/
def bcI (p1 : Int32) : Int32 := lt (p1 - (((p1.toUInt32 >>> ((1 : Int32).toUInt32 &&& Int32.toUInt32 31)).toInt32) &&& 1431655765)) (fun x0_1 => lt ((x0_1 &&& 858993459) + (((x0_1.toUInt32 >>> ((2 : Int32).toUInt32 &&& Int32.toUInt32 31)).toInt32) &&& 858993459)) (fun x0_2 => lt ((x0_2 + ((x0_2.toUInt32 >>> ((4 : Int32).toUInt32 &&& Int32.toUInt32 31)).toInt32)) &&& 252645135) (fun x0_3 => lt (x0_3 + ((x0_3.toUInt32 >>> ((8 : Int32).toUInt32 &&& Int32.toUInt32 31)).toInt32)) (fun x0_4 => lt (x0_4 + ((x0_4.toUInt32 >>> ((16 : Int32).toUInt32 &&& Int32.toUInt32 31)).toInt32)) (fun x0_5 => x0_5 &&& 63)))))
theorem bcI_q : ∀ x, x < 256 → bcI (nI x) = nI (pc8 x) := by decide +kernel
theorem bitCount_ok (F : Nat) (μ : Mem) {x : Nat} (h : x < 256) : f_J_bitCount F μ (nI x) = some (nI (pc8 x)) := by
  have e : f_J_bitCount F μ (nI x) = some (bcI (nI x)) := rfl
  rw [e, bcI_q x h]
def moI (v : Int32) : Int32 := 0 + ((v >>> (nI 0 &&& 31)) &&& 1) + ((v >>> (nI 1 &&& 31)) &&& 1) + ((v >>> (nI 2 &&& 31)) &&& 1) + ((v >>> (nI 3 &&& 31)) &&& 1) + ((v >>> (nI 4 &&& 31)) &&& 1) + ((v >>> (nI 5 &&& 31)) &&& 1) + ((v >>> (nI 6 &&& 31)) &&& 1) + ((v >>> (nI 7 &&& 31)) &&& 1)
theorem moI_q : ∀ x, x < 256 → moI (nI x) = nI (pc8 x) := by decide +kernel
theorem manyOf_ok {F : Nat} (hF : 5000 ≤ F) (μ : Mem) {x : Nat} (h : x < 256) : f_X9_manyOf F μ (nI x) = some (nI (pc8 x)) := by
  have e := for_run (S := Int32) (f := fun n s i => f_X9_manyOf_L4 F μ (nI x) (fun a _ => some a) n s (nI i)) (N := 8) (step := fun i s => s + ((nI x >>> (nI i &&& 31)) &&& 1)) (k := fun s => some s) (fun _ _ => True)
    (fun n s i hi _ => by
      show f_X9_manyOf_L4 F μ (nI x) (fun a _ => some a) (n + 1) s (nI i) = f_X9_manyOf_L4 F μ (nI x) (fun a _ => some a) n _ (nI (i + 1))
      rw [f_X9_manyOf_L4, if_pos (show nI i < (8 : Int32) from nI_lt (b := 8) hi (by decide)), nI_1]; rfl)
    (fun _ _ _ _ => trivial)
    (fun n s _ => by
      show f_X9_manyOf_L4 F μ (nI x) (fun a _ => some a) (n + 1) s (nI 8) = some s
      rw [f_X9_manyOf_L4, if_neg (show ¬ nI 8 < (8 : Int32) from nI_nlt (a := 8) (b := 8) (Nat.le_refl _) (by decide))])
    8 F 0 0 rfl (by omega) trivial
  unfold f_X9_manyOf
  rw [← moI_q x h]
  exact e
theorem no_gen (p : Int32) (n : Nat) : (if p < 0 then some (1 : Int32) else (if p < nI n then some 0 else some 1)) = some (if okN p n = true then 0 else 1) := by
  by_cases h1 : p < 0
  · have : ¬ okN p n = true := by simp [okN, h1]
    rw [if_pos h1, if_neg this]
  · by_cases h2 : p < nI n
    · have : okN p n = true := by simp [okN, h1, h2]
      rw [if_neg h1, if_pos h2, if_pos this]
    · have : ¬ okN p n = true := by simp [okN, h1, h2]
      rw [if_neg h1, if_neg h2, if_neg this]
section READ
variable {F : Nat} {μ : Mem} {g : Cfg} {m : Mo}
theorem C_noPerson (h : VC μ g m) (p : Int32) : f_X8_noPerson F μ 0 p = some (if okN p (gM g) = true then 0 else 1) := by
  obtain ⟨⟨t, ht, _, hc⟩, _⟩ := h
  unfold f_X8_noPerson
  rw [ht, hc.2.2.1]
  exact no_gen p _
theorem C_noPlace (h : VC μ g m) (p : Int32) : f_X8_noPlace F μ 0 p = some (if okN p (gP g) = true then 0 else 1) := by
  obtain ⟨⟨t, ht, _, hc⟩, _⟩ := h
  unfold f_X8_noPlace
  rw [ht, hc.1]
  exact no_gen p _
theorem C_noLane (h : VC μ g m) (p : Int32) : f_X8_noLane F μ 0 p = some (if okN p (gN g) = true then 0 else 1) := by
  obtain ⟨⟨t, ht, _, hc⟩, _⟩ := h
  unfold f_X8_noLane
  rw [ht, hc.2.1]
  exact no_gen p _
theorem M_isPerson (h : VM μ g m) (p : Int32) : f_X9_isPerson F μ 166 p = some (if okN p (gM g) = true then 1 else 0) := by
  have e : gI μ (166 + 7) 0 = nI (gM g) := h.1.2.2.1
  have := h.2.2.1.2.2.2.1
  unfold f_X9_isPerson
  rw [e, in_ok F μ p _ (by omega)]; rfl
theorem M_isLane (h : VM μ g m) (p : Int32) : f_X9_isLane F μ 166 p = some (if okN p (gN g) = true then 1 else 0) := by
  have e : gI μ (166 + 3) 0 = nI (gN g) := h.1.2.1
  have := h.2.2.1.2.2.1
  unfold f_X9_isLane
  rw [e, in_ok F μ p _ (by omega)]; rfl
theorem M_isPlace (h : VM μ g m) (p : Int32) : f_X9_isPlace F μ 166 p = some (if okN p (gP g) = true then 1 else 0) := by
  have e : gI μ (166 + 2) 0 = nI (gP g) := h.1.1
  have := h.2.2.1.2.1
  unfold f_X9_isPlace
  rw [e, in_ok F μ p _ (by omega)]; rfl
theorem C_wide (h : VC μ g m) {p : Nat} (hp : p < gM g) : f_X8_wideness F μ 0 (nI p) = some (nI (wd g m p)) := by
  obtain ⟨⟨t, ht, _, hc⟩, hm, hg, hmo⟩ := h
  have h5 := hg.2.2.2.1
  have e1 : gI μ (0 + 16 + 1 + 1) p = nI (mE m p) := (hm.2 p hp).1
  unfold f_X8_wideness
  rw [if_pos (nI_ix (by omega) (by decide)), nI_clamp (by omega), ht, hc.2.2.2.1, e1, lit_nI, nI_mul, nI_add]; rfl
theorem M_ixp {p b : Nat} (h : p < 5) (hb : b ≤ 20) : ix (nI b + nI p) 531 = true ∧ (nI b + nI p).toNatClampNeg = b + p := by
  rw [nI_add]
  exact ⟨nI_ix (by omega) (by decide), nI_clamp (by omega)⟩
theorem M_wide (h : VM μ g m) {p : Nat} (hp : p < gM g) : f_X9_wide F μ 166 (nI p) = some (nI (wd g m p)) := by
  obtain ⟨hc, hm, hg, hmo⟩ := h
  have h5 := hg.2.2.2.1
  have e1 : gI μ (166 + 12) (5 + p) = nI (mE m p) := by have := (hm.2 p hp).1; rwa [Nat.zero_add] at this
  have e2 : gI μ (166 + 10) 0 = nI (gB g) := hc.2.2.2.1
  obtain ⟨i1, i2⟩ := M_ixp (p := p) (b := 5) (by omega) (by decide)
  unfold f_X9_wide
  rw [lit_nI, if_pos i1, i2, e1, e2, lit_nI, nI_mul, nI_add]; rfl
theorem C_closed (h : VC μ g m) {l : Nat} (hl : l < gN g) : f_X8_isClosed F μ 0 (nI l) = some (if (mC m).testBit l = true then 1 else 0) := by
  have h8 := h.2.2.1.2.2.1
  have e : gI μ (0 + 16 + 1) 3 = nI (mC m) := h.2.1.1
  have hc := mC_lt h.2.2.1 h.2.2.2
  unfold f_X8_isClosed
  rw [e, bit_q _ hc l (by omega)]
  by_cases hb : (mC m).testBit l = true
  · simp [hb]
  · simp [hb]
theorem M_closed (h : VM μ g m) {l : Nat} (hl : l < gN g) : f_X9_isClosed F μ 166 (nI l) = some (if (mC m).testBit l = true then 1 else 0) := by
  have h8 := h.2.2.1.2.2.1
  have e : gI μ (166 + 12) 15 = nI (mC m) := h.2.1.1
  have hc := mC_lt h.2.2.1 h.2.2.2
  unfold f_X9_isClosed
  rw [e, bit_q _ hc l (by omega)]
  by_cases hb : (mC m).testBit l = true
  · simp [hb]
  · simp [hb]
theorem C_narrow (h : VC μ g m) {l p : Nat} (hl : l < gN g) (hp : p < gM g) : f_X8_isTooNarrow F μ 0 (nI l) (nI p) = some (if gW g l < wd g m p then 1 else 0) := by
  have hw := wd_le h.2.2.1 h.2.2.2 hp
  have e0 := C_wide (F := F) h hp
  obtain ⟨⟨t, ht, _, hc⟩, hm, hg, hmo⟩ := h
  have h8 := hg.2.2.1
  have h9 := (hg.2.2.2.2.2.2.2 l hl).2.2.2.2
  unfold f_X8_isTooNarrow
  rw [e0, Option.bind_some, if_pos (nI_ix (by omega) (by decide)), nI_clamp (by omega), ht, (hc.2.2.2.2.2 l hl).2.2]
  by_cases hb : gW g l < wd g m p
  · rw [if_pos (nI_lt hb (by omega)), if_pos hb]
  · rw [if_neg (nI_nlt (by omega) (by omega)), if_neg hb]
theorem C_atEnd (h : VC μ g m) {l p : Nat} (hl : l < gN g) (hp : p < gM g) : f_X8_isAtEnd F μ 0 (nI p) (nI l) = some (if mA m p = gF g l ∨ mA m p = gS g l then 1 else 0) := by
  obtain ⟨⟨t, ht, _, hc⟩, hm, hg, hmo⟩ := h
  have h5 := hg.2.2.2.1
  have h8 := hg.2.2.1
  have h1 := (hmo.1 p hp).2
  have h2 := hg.2.1
  have h3 := hg.2.2.2.2.2.2.2 l hl
  have e1 : gI μ (0 + 16 + 1 + 2) p = nI (mA m p) := (hm.2 p hp).2.1
  unfold f_X8_isAtEnd
  rw [if_pos (nI_ix (by omega) (by decide)), nI_clamp (by omega), nI_clamp (by omega), lt_eq, if_pos (nI_ix (by omega) (by decide)), if_pos (nI_ix (by omega) (by decide)), ht, e1, (hc.2.2.2.2.2 l hl).1, (hc.2.2.2.2.2 l hl).2.1]
  by_cases a : mA m p = gF g l
  · rw [if_pos (by rw [a]), if_pos (Or.inl a)]
  · rw [if_neg (fun z => a (nI_inj (by omega) (by omega) z))]
    by_cases b : mA m p = gS g l
    · rw [if_pos (by rw [b]), if_pos (Or.inr b)]
    · rw [if_neg (fun z => b (nI_inj (by omega) (by omega) z)), if_neg (by intro z; rcases z with z | z; exact a z; exact b z)]
theorem M_ends (h : VM μ g m) {l a : Nat} (hl : l < gN g) (ha : a < 2 ^ 31) : f_X9_ends F μ 166 (nI l) (nI a) = some (if a = gF g l ∨ a = gS g l then 1 else 0) := by
  obtain ⟨hc, hm, hg, hmo⟩ := h
  have h8 := hg.2.2.1
  have h2 := hg.2.1
  have h3 := hg.2.2.2.2.2.2.2 l hl
  have e1 : gI μ (166 + 4) l = nI (gF g l) := (hc.2.2.2.2.2 l hl).1
  have e2 : gI μ (166 + 5) l = nI (gS g l) := (hc.2.2.2.2.2 l hl).2.1
  unfold f_X9_ends
  rw [if_pos (nI_ix (by omega) (by decide)), nI_clamp (by omega), if_pos (nI_ix (by omega) (by decide)), e1, e2]
  by_cases b : a = gF g l
  · rw [if_pos (by rw [b]), if_pos (Or.inl b)]
  · rw [if_neg (fun z => b (nI_inj (by omega) (by omega) z.symm))]
    by_cases c : a = gS g l
    · rw [if_pos (by rw [c]), if_pos (Or.inr c)]
    · rw [if_neg (fun z => c (nI_inj (by omega) (by omega) z.symm)), if_neg (by intro z; rcases z with z | z; exact b z; exact c z)]
/-- the other end of a lane -/
def oth (g : Cfg) (l a : Nat) : Nat := if gF g l = a then gS g l else gF g l
theorem M_other (h : VM μ g m) {l a : Nat} (hl : l < gN g) (ha : a < 2 ^ 31) : f_X9_other F μ 166 (nI l) (nI a) = some (nI (oth g l a)) := by
  obtain ⟨hc, hm, hg, hmo⟩ := h
  have h8 := hg.2.2.1
  have h2 := hg.2.1
  have h3 := hg.2.2.2.2.2.2.2 l hl
  have e1 : gI μ (166 + 4) l = nI (gF g l) := (hc.2.2.2.2.2 l hl).1
  have e2 : gI μ (166 + 5) l = nI (gS g l) := (hc.2.2.2.2.2 l hl).2.1
  unfold f_X9_other oth
  rw [if_pos (nI_ix (by omega) (by decide)), nI_clamp (by omega), if_pos (nI_ix (by omega) (by decide)), e1, e2]
  by_cases b : gF g l = a
  · rw [if_pos (by rw [b]), if_pos b]
  · rw [if_neg (fun z => b (nI_inj (by omega) (by omega) z)), if_neg b, if_pos (nI_ix (by omega) (by decide))]
theorem C_closedLanes (h : VC μ g m) : f_X8_closedLanes F μ 0 = some (nI (pc8 (mC m))) := by
  have e : gI μ (0 + 16 + 1) 3 = nI (mC m) := h.2.1.1
  unfold f_X8_closedLanes
  rw [e, bitCount_ok F μ (mC_lt h.2.2.1 h.2.2.2)]; rfl
theorem C_ends (h : VC μ g m) {l : Nat} (hl : l < gN g) : f_X7_ends F μ (gR μ 0 1) (nI l) = some (nI (2 ^ gF g l ||| 2 ^ gS g l)) := by
  obtain ⟨⟨t, ht, _, hc⟩, hm, hg, hmo⟩ := h
  have h8 := hg.2.2.1
  have h2 := hg.2.1
  have h3 := hg.2.2.2.2.2.2.2 l hl
  unfold f_X7_ends
  rw [if_pos (nI_ix (by omega) (by decide)), if_pos (nI_ix (by omega) (by decide)), nI_clamp (by omega), ht, (hc.2.2.2.2.2 l hl).1, (hc.2.2.2.2.2 l hl).2.1, one_shl _ (by omega), one_shl _ (by omega), fa_or]
end READ
