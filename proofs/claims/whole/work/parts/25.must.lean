/-! must; narrow; order -/
section R25
variable {F : Nat} {μ : Mem} {g : Cfg} {m : Mo}
def rs (g : Cfg) (al : Nat → Bool) (a b : Nat) : Bool := (clo g al a).testBit b
theorem C_joins {by_ a b : Nat} (hF : 5000 ≤ F) (h : VC μ g m) (al : Nat → Bool) (hby : by_ < 256) (hal : ∀ l, l < gN g → by_.testBit l = al l) (ha : a < gP g) (hb : b < gP g) : f_X7_joins F μ (gR μ 0 1) (nI by_) (nI a) (nI b) = some (if rs g al a b = true then 1 else 0) := by
  have hg := h.2.2.1
  have h2 := hg.2.1
  unfold f_X7_joins
  rw [C_joined hF h hby ha, Option.bind_some, clo_cong (al2 := al) hal a, bit_q _ (clo_lt hg ha) b (by omega)]
  unfold rs
  by_cases hc : (clo g al a).testBit b = true
  · simp [hc]
  · simp [hc]
theorem M_reaches (hF : 5000 ≤ F) (h : VM μ g m) {p b sh : Nat} (hp : p < gM g) (hb : b < gP g) (hsh : sh < 256) : f_X9_reaches F μ 166 (nI p) (nI b) (nI sh) = some (if rs g (alw g m p sh) (mA m p) b = true then 1 else 0) := by
  have hg := h.2.2.1
  have h2 := hg.2.1
  unfold f_X9_reaches
  rw [M_reach hF h hp hsh, Option.bind_some, bit_q _ (clo_lt hg (h.2.2.2.1 p hp).2) b (by omega)]
  unfold rs
  by_cases hc : (clo g (alw g m p sh) (mA m p)).testBit b = true
  · simp [hc]
  · simp [hc]
theorem rs_cong {al al2 : Nat → Bool} (h : ∀ l, l < gN g → al l = al2 l) (a b : Nat) : rs g al a b = rs g al2 a b := by
  unfold rs
  rw [clo_cong h]
def mst (g : Cfg) (m : Mo) (p b : Nat) (l s : Nat) : Nat := if rs g (fun x => alw g m p (mC m) x && !decide (x = l)) (mA m p) b = true then s else s ||| 2 ^ l
def mustN (g : Cfg) (m : Mo) (p b : Nat) : Nat := if rs g (alw g m p (mC m)) (mA m p) b = true then fr (mst g m p b) (gN g) 0 0 else 0
theorem C_must (hF : 5000 ≤ F) (h : VC μ g m) {p b : Nat} (hp : p < gM g) (hb : b < gP g) : f_X8_must F μ 0 (nI p) (nI b) = some (nI (mustN g m p b)) := by
  have hg := h.2.2.1
  have h8 := hg.2.2.1
  have hat := (h.2.2.2.1 p hp).2
  have e1 : gI μ (0 + 16 + 1 + 2) p = nI (mA m p) := C_at h hp
  have eN : gI μ (gR μ 0 1) 1 = nI (gN g) := by obtain ⟨⟨t, ht, _, hc⟩, _⟩ := h; rw [ht]; exact hc.2.1
  have hbit : ∀ l, l < gN g → (msk (alw g m p (mC m)) (gN g)).testBit l = alw g m p (mC m) l := fun l hl => by rw [msk_bit]; simp [hl]
  unfold f_X8_must mustN
  rw [C_noPerson h, C_noPlace h, okN_nI hp (by have := hg.2.2.2.1; omega), okN_nI hb (by have := hg.2.1; omega)]
  simp only [if_true, Option.bind_some, ix5 hg hp, cl5 hg hp, e1, lt_eq]
  rw [C_passable hF h hp, Option.bind_some, C_joins hF h (alw g m p (mC m)) (msk8 hg _) hbit hat hb, Option.bind_some]
  by_cases hr : rs g (alw g m p (mC m)) (mA m p) b = true
  · simp only [hr, if_true, show ¬ (1 : Int32) = 0 by decide, if_false]
    exact for_run (S := Nat) (f := fun n s i => f_X8_must_L60 F μ 0 (nI b) (nI (mA m p)) (nI (msk (alw g m p (mC m)) (gN g))) (fun x _ => some x) n (nI s) (nI i)) (N := gN g) (step := mst g m p b) (k := fun s => some (nI s)) (fun _ _ => True)
      (fun n s i hi _ => by
        show f_X8_must_L60 F μ 0 (nI b) (nI (mA m p)) (nI (msk (alw g m p (mC m)) (gN g))) (fun x _ => some x) (n + 1) (nI s) (nI i) = f_X8_must_L60 F μ 0 (nI b) (nI (mA m p)) (nI (msk (alw g m p (mC m)) (gN g))) (fun x _ => some x) n (nI (mst g m p b i s)) (nI (i + 1))
        have hb2 : ∀ l, l < gN g → (clr (msk (alw g m p (mC m)) (gN g)) i).testBit l = (alw g m p (mC m) l && !decide (l = i)) := fun l hl => by
          rw [clr_bit _ (msk8 hg _) i (by omega) l (by omega), hbit l hl]
        rw [f_X8_must_L60, eN, if_pos (nI_lt hi (by omega)), clr_q _ (msk8 hg _) i (by omega), C_joins hF h (fun l => alw g m p (mC m) l && !decide (l = i)) (clr_lt _ (msk8 hg _) i (by omega)) hb2 hat hb, Option.bind_some, one_shl i (by omega), fa_or, nI_1]
        unfold mst
        by_cases hc : rs g (fun l => alw g m p (mC m) l && !decide (l = i)) (mA m p) b = true
        · simp only [hc, if_true, show ¬ (1 : Int32) = 0 by decide, if_false]
        · simp only [hc, if_false, if_true, Bool.false_eq_true])
      (fun _ _ _ _ => trivial)
      (fun n s _ => by
        show f_X8_must_L60 F μ 0 (nI b) (nI (mA m p)) (nI (msk (alw g m p (mC m)) (gN g))) (fun x _ => some x) (n + 1) (nI s) (nI (gN g)) = some (nI s)
        rw [f_X8_must_L60, eN, if_neg (nI_nlt (Nat.le_refl _) (by omega))])
      (gN g) F 0 0 (by omega) (by omega) trivial
  · simp only [hr, if_false, if_true, Bool.false_eq_true]; rfl
theorem alw_or (g : Cfg) (m : Mo) (p : Nat) {c l : Nat} (x : Nat) : alw g m p (c ||| 2 ^ l) x = (alw g m p c x && !decide (x = l)) := by
  unfold alw
  rw [Nat.testBit_or, Nat.testBit_two_pow]
  by_cases h : x = l
  · subst h; simp
  · have h2 : ¬ l = x := fun z => h z.symm
    simp [h, h2]
theorem M_must (hF : 5000 ≤ F) (h : VM μ g m) {p b : Nat} (hp : p < gM g) (hb : b < gP g) : f_X9_must F μ 166 (nI p) (nI b) = some (nI (mustN g m p b)) := by
  have hg := h.2.2.1
  have h8 := hg.2.2.1
  have hat := (h.2.2.2.1 p hp).2
  have hmc := mC_lt hg h.2.2.2
  have eN : gI μ (166 + 3) 0 = nI (gN g) := h.1.2.1
  have ec : gI μ (166 + 12) 15 = nI (mC m) := h.2.1.1
  unfold f_X9_must mustN
  rw [M_isPerson h, M_isPlace h, okN_nI hp (by have := hg.2.2.2.1; omega), okN_nI hb (by have := hg.2.1; omega)]
  simp only [if_true, Option.bind_some, show ¬ (1 : Int32) = 0 by decide, if_false]
  have e := for_run (S := Nat) (f := fun n s i => f_X9_must_L23 F μ 166 (nI p) (nI b) (fun x3_10 x4_11 => (f_X9_reaches F μ 166 (nI p) (nI b) (gI μ (166 + 12) 15)).bind (fun v_12 => (if v_12 = 0 then some 0 else some x3_10))) n (nI s) (nI i)) (N := gN g) (step := mst g m p b) (k := fun s => some (nI (if rs g (alw g m p (mC m)) (mA m p) b = true then s else 0))) (fun _ _ => True)
      (fun n s i hi _ => by
        show f_X9_must_L23 F μ 166 (nI p) (nI b) (fun x3_10 x4_11 => (f_X9_reaches F μ 166 (nI p) (nI b) (gI μ (166 + 12) 15)).bind (fun v_12 => (if v_12 = 0 then some 0 else some x3_10))) (n + 1) (nI s) (nI i) = f_X9_must_L23 F μ 166 (nI p) (nI b) (fun x3_10 x4_11 => (f_X9_reaches F μ 166 (nI p) (nI b) (gI μ (166 + 12) 15)).bind (fun v_12 => (if v_12 = 0 then some 0 else some x3_10))) n (nI (mst g m p b i s)) (nI (i + 1))
        rw [f_X9_must_L23, eN, if_pos (nI_lt hi (by omega)), ec, one_shl i (by omega), fa_or, M_reaches hF h hp hb (or_lt8 hmc (pow_lt8 (by omega))), Option.bind_some, fa_or, nI_1, rs_cong (fun l _ => alw_or g m p l)]
        unfold mst
        by_cases hc : rs g (fun l => alw g m p (mC m) l && !decide (l = i)) (mA m p) b = true
        · simp only [hc, if_true, show ¬ (1 : Int32) = 0 by decide, if_false]
          rw [show nI s ||| 0 = nI s from by rw [show (0 : Int32) = nI 0 from rfl, fa_or, Nat.or_zero]]
        · simp only [hc, if_false, if_true, Bool.false_eq_true])
      (fun _ _ _ _ => trivial)
      (fun n s _ => by
        show f_X9_must_L23 F μ 166 (nI p) (nI b) (fun x3_10 x4_11 => (f_X9_reaches F μ 166 (nI p) (nI b) (gI μ (166 + 12) 15)).bind (fun v_12 => (if v_12 = 0 then some 0 else some x3_10))) (n + 1) (nI s) (nI (gN g)) = _
        rw [f_X9_must_L23, eN, if_neg (nI_nlt (Nat.le_refl _) (by omega)), ec, M_reaches hF h hp hb hmc, Option.bind_some]
        by_cases hc : rs g (alw g m p (mC m)) (mA m p) b = true
        · simp only [hc, if_true, show ¬ (1 : Int32) = 0 by decide, if_false]
        · simp only [hc, if_false, if_true, Bool.false_eq_true]; rfl)
      (gN g) F 0 0 (by omega) (by omega) trivial
  exact e
theorem S_must (hF : 5000 ≤ F) (hC : VC μ g m) (hM : VM μ g m) (a b : Int32) : ∃ v, f_X8_must F μ 0 a b = some v ∧ f_X9_must F μ 166 a b = some v := by
  have hg := hC.2.2.1
  have h5 := hg.2.2.2.1
  have h2 := hg.2.1
  by_cases ha : okN a (gM g) = true
  · by_cases hb : okN b (gP g) = true
    · obtain ⟨p, hp, rfl⟩ := okN_of (by omega) ha
      obtain ⟨q, hq, rfl⟩ := okN_of (by omega) hb
      exact ⟨_, C_must hF hC hp hq, M_must hF hM hp hq⟩
    · unfold f_X8_must f_X9_must
      simp only [C_noPerson hC, C_noPlace hC, M_isPerson hM, M_isPlace hM, Option.bind_some, ha, hb, if_true, if_false, show ¬ (1 : Int32) = 0 by decide]
      exact ⟨_, rfl, rfl⟩
  · unfold f_X8_must f_X9_must
    simp only [C_noPerson hC, M_isPerson hM, Option.bind_some, ha, if_true, if_false, show ¬ (1 : Int32) = 0 by decide]
    exact ⟨_, rfl, rfl⟩
/-! narrow -/
def wst (g : Cfg) (m : Mo) (c p s : Nat) : Nat := s + (if c.testBit p = true then gB g else wd g m p)
def wsum (g : Cfg) (m : Mo) (c : Nat) : Nat := fr (wst g m c) (gM g) 0 0
theorem wsum_le (hg : OkG g) (hm : OkM g m) (c : Nat) : wsum g m c ≤ 135 := by
  have h := fr_inv (step := wst g m c) (N := gM g) (fun i s => s ≤ i * 27) (fun i s hi h => by
    have h1 := wd_le hg hm hi
    have h2 := hg.2.2.2.2.2.1
    unfold wst
    split <;> omega) (gM g) 0 0 (by omega) (by omega)
  have h5 := hg.2.2.2.1
  unfold wsum
  omega
theorem C_without (hF : 5000 ≤ F) (h : VC μ g m) {c : Nat} (hc : c < 256) : f_X8_widenessWithout F μ 0 (nI c) = some (nI (wsum g m c)) := by
  have hg := h.2.2.1
  have h5 := hg.2.2.2.1
  have eM : gI μ (gR μ 0 1) 5 = nI (gM g) := by obtain ⟨⟨t, ht, _, hc⟩, _⟩ := h; rw [ht]; exact hc.2.2.1
  have eB : gI μ (gR μ 0 1) 8 = nI (gB g) := by obtain ⟨⟨t, ht, _, hc⟩, _⟩ := h; rw [ht]; exact hc.2.2.2.1
  exact for_run (S := Nat) (f := fun n s i => f_X8_widenessWithout_L4 F μ 0 (nI c) (fun x _ => some x) n (nI s) (nI i)) (N := gM g) (step := wst g m c) (k := fun s => some (nI s)) (fun _ _ => True)
    (fun n s i hi _ => by
      show f_X8_widenessWithout_L4 F μ 0 (nI c) (fun x _ => some x) (n + 1) (nI s) (nI i) = f_X8_widenessWithout_L4 F μ 0 (nI c) (fun x _ => some x) n (nI (wst g m c i s)) (nI (i + 1))
      rw [f_X8_widenessWithout_L4, eM, if_pos (nI_lt hi (by omega)), bit_q c hc i (by omega), C_wide h hi, Option.bind_some, eB, nI_add, nI_add, nI_1]
      unfold wst
      by_cases hb : c.testBit i = true
      · simp only [hb, if_true, show ¬ (1 : Int32) = 0 by decide, if_false]
      · simp only [hb, if_true, if_false, Bool.false_eq_true])
    (fun _ _ _ _ => trivial)
    (fun n s _ => by
      show f_X8_widenessWithout_L4 F μ 0 (nI c) (fun x _ => some x) (n + 1) (nI s) (nI (gM g)) = _
      rw [f_X8_widenessWithout_L4, eM, if_neg (nI_nlt (Nat.le_refl _) (by omega))])
    (gM g) F 0 0 (by omega) (by omega) trivial
theorem M_without (hF : 5000 ≤ F) (h : VM μ g m) {c : Nat} (hc : c < 256) (x1 x2 : Int32) (k : Int32 → Int32 → Option Int32) : f_X9_narrow_L33 F μ 166 x1 x2 (nI c) k F 0 0 = k (nI (wsum g m c)) (nI (gM g)) := by
  have hg := h.2.2.1
  have h5 := hg.2.2.2.1
  have eM : gI μ (166 + 7) 0 = nI (gM g) := h.1.2.2.1
  have eB : gI μ (166 + 10) 0 = nI (gB g) := h.1.2.2.2.1
  exact for_run (S := Nat) (f := fun n s i => f_X9_narrow_L33 F μ 166 x1 x2 (nI c) k n (nI s) (nI i)) (N := gM g) (step := wst g m c) (k := fun s => k (nI s) (nI (gM g))) (fun _ _ => True)
    (fun n s i hi _ => by
      show f_X9_narrow_L33 F μ 166 x1 x2 (nI c) k (n + 1) (nI s) (nI i) = f_X9_narrow_L33 F μ 166 x1 x2 (nI c) k n (nI (wst g m c i s)) (nI (i + 1))
      rw [f_X9_narrow_L33, eM, if_pos (nI_lt hi (by omega)), bit_q c hc i (by omega), M_wide h hi, Option.bind_some, eB, nI_add, nI_add, nI_1]
      unfold wst
      by_cases hb : c.testBit i = true
      · simp only [hb, if_true]
      · simp only [hb, if_true, if_false, Bool.false_eq_true, show ¬ (0 : Int32) = 1 by decide])
    (fun _ _ _ _ => trivial)
    (fun n s _ => by
      show f_X9_narrow_L33 F μ 166 x1 x2 (nI c) k (n + 1) (nI s) (nI (gM g)) = _
      rw [f_X9_narrow_L33, eM, if_neg (nI_nlt (Nat.le_refl _) (by omega))])
    (gM g) F 0 0 (by omega) (by omega) trivial
def encN (s : Option Nat) : Int32 := match s with
  | none => -9
  | some b => nI b
theorem encN_no {b : Nat} (h : b < 2 ^ 31) : ¬ nI b = -9 := by
  intro z
  have h1 := nI_toInt h
  rw [z] at h1
  have : (-9 : Int32).toInt = -9 := by decide +kernel
  omega
def nst (g : Cfg) (m : Mo) (l c : Nat) (s : Option Nat) : Option Nat := if gW g l < wsum g m c then s else match s with
  | none => some c
  | some b => if pc8 c < pc8 b then some c else some b
def nwN (g : Cfg) (m : Mo) (l : Nat) : Option Nat := fr (nst g m l) (2 ^ gM g) 0 none
def Pn (g : Cfg) (s : Option Nat) : Prop := match s with
  | none => True
  | some b => b < 2 ^ gM g
theorem p2M (hg : OkG g) : 2 ^ gM g ≤ 32 := Nat.pow_le_pow_right (n := 2) (by decide) hg.2.2.2.1
theorem nst_P {l c : Nat} {s : Option Nat} (hc : c < 2 ^ gM g) (h : Pn g s) : Pn g (nst g m l c s) := by
  unfold nst
  split
  · exact h
  · cases s with
    | none => exact hc
    | some b =>
      show Pn g (if pc8 c < pc8 b then some c else some b)
      split
      · exact hc
      · exact h
theorem nst_no {l c : Nat} {s : Option Nat} (h : gW g l < wsum g m c) : nst g m l c s = s := if_pos h
theorem nst_none {l c : Nat} (h : ¬ gW g l < wsum g m c) : nst g m l c none = some c := if_neg h
theorem nst_less {l c b : Nat} (h : ¬ gW g l < wsum g m c) (h2 : pc8 c < pc8 b) : nst g m l c (some b) = some c := by
  unfold nst
  rw [if_neg h]
  exact if_pos h2
theorem nst_more {l c b : Nat} (h2 : ¬ pc8 c < pc8 b) : nst g m l c (some b) = some b := by
  unfold nst
  split
  · rfl
  · exact if_neg h2
set_option maxRecDepth 20000 in
theorem C_narrowN (hF : 5000 ≤ F) (h : VC μ g m) {l : Nat} (hl : l < gN g) : f_X8_narrow F μ 0 (nI l) = some (encN (nwN g m l)) := by
  have hg := h.2.2.1
  have h5 := hg.2.2.2.1
  have h32 := p2M hg
  obtain ⟨i1, i2, i3⟩ := ix8 hg hl
  have h9 := (hg.2.2.2.2.2.2.2 l hl).2.2.2.2
  have eM : gI μ (gR μ 0 1) 5 = nI (gM g) := by obtain ⟨⟨t, ht, _, hc⟩, _⟩ := h; rw [ht]; exact hc.2.2.1
  have eW : gI μ (gR μ 0 1 + 3) l = nI (gW g l) := by obtain ⟨⟨t, ht, _, hc⟩, _⟩ := h; rw [ht]; exact (hc.2.2.2.2.2 l hl).2.2
  unfold f_X8_narrow
  rw [C_noLane h, okN_nI hl (by have := hg.2.2.1; omega), if_pos rfl, Option.bind_some, if_pos rfl]
  exact for_run (S := Option Nat) (f := fun n s i => f_X8_narrow_L15 F μ 0 (nI l) (fun x _ => some x) n (encN s) (nI i)) (N := 2 ^ gM g) (step := nst g m l) (k := fun s => some (encN s)) (fun _ s => Pn g s)
    (fun n s i hi hs => by
      have hw := wsum_le hg h.2.2.2 i
      have hp1 := pc8_lt i (by omega)
      cases s with
      | none =>
        show f_X8_narrow_L15 F μ 0 (nI l) (fun x _ => some x) (n + 1) (-9) (nI i) = f_X8_narrow_L15 F μ 0 (nI l) (fun x _ => some x) n (encN (nst g m l i none)) (nI (i + 1))
        rw [f_X8_narrow_L15, eM, one_shl _ (by omega), if_pos (nI_lt hi (by omega)), C_without hF h (by omega), bitCount_ok F μ (x := i) (by omega), i1, i3, eW, nI_1, if_pos (rfl : (-9 : Int32) = -9)]
        simp only [Option.bind_some, if_true]
        by_cases c0 : gW g l < wsum g m i
        · rw [if_pos (nI_lt c0 (by omega)), nst_no c0]; rfl
        · rw [if_neg (nI_nlt (by omega) (by omega)), nst_none c0]; rfl
      | some b =>
        have hb : b < 2 ^ gM g := hs
        have hp2 := pc8_lt b (by omega)
        show f_X8_narrow_L15 F μ 0 (nI l) (fun x _ => some x) (n + 1) (nI b) (nI i) = f_X8_narrow_L15 F μ 0 (nI l) (fun x _ => some x) n (encN (nst g m l i (some b))) (nI (i + 1))
        rw [f_X8_narrow_L15, eM, one_shl _ (by omega), if_pos (nI_lt hi (by omega)), C_without hF h (by omega), bitCount_ok F μ (x := i) (by omega), i1, i3, eW, nI_1, bitCount_ok F μ (x := b) (by omega)]
        simp only [Option.bind_some, if_true, encN_no (show b < 2 ^ 31 by omega), if_false]
        by_cases c1 : pc8 i < pc8 b
        · have d1 : nI (pc8 i) < nI (pc8 b) := nI_lt c1 (by omega)
          simp only [d1, if_true]
          by_cases c0 : gW g l < wsum g m i
          · rw [if_pos (nI_lt c0 (by omega)), nst_no c0]; rfl
          · rw [if_neg (nI_nlt (by omega) (by omega)), nst_less c0 c1]; rfl
        · have d1 : ¬ nI (pc8 i) < nI (pc8 b) := nI_nlt (by omega) (by omega)
          simp only [d1, if_false, ite_self]
          rw [nst_more c1]; rfl)
    (fun i s hi hs => nst_P hi hs)
    (fun n s _ => by
      show f_X8_narrow_L15 F μ 0 (nI l) (fun x _ => some x) (n + 1) (encN s) (nI (2 ^ gM g)) = _
      rw [f_X8_narrow_L15, eM, one_shl _ (by omega), if_neg (nI_nlt (Nat.le_refl _) (by omega))])
    (2 ^ gM g) F 0 none (by omega) (by omega) trivial
set_option maxRecDepth 20000 in
theorem M_narrowN (hF : 5000 ≤ F) (h : VM μ g m) {l : Nat} (hl : l < gN g) : f_X9_narrow F μ 166 (nI l) = some (encN (nwN g m l)) := by
  have hg := h.2.2.1
  have h5 := hg.2.2.2.1
  have h32 := p2M hg
  obtain ⟨i1, i2, i3⟩ := ix8 hg hl
  have h9 := (hg.2.2.2.2.2.2.2 l hl).2.2.2.2
  have eM : gI μ (166 + 7) 0 = nI (gM g) := h.1.2.2.1
  have eW : gI μ (166 + 6) l = nI (gW g l) := (h.1.2.2.2.2.2 l hl).2.2
  unfold f_X9_narrow
  rw [M_isLane h, okN_nI hl (by have := hg.2.2.1; omega)]
  simp only [if_true, Option.bind_some, show ¬ (1 : Int32) = 0 by decide, if_false]
  exact for_run (S := Option Nat) (f := fun n s i => f_X9_narrow_L15 F μ 166 (nI l) (fun x _ => some x) n (encN s) (nI i)) (N := 2 ^ gM g) (step := nst g m l) (k := fun s => some (encN s)) (fun _ s => Pn g s)
    (fun n s i hi hs => by
      have hw := wsum_le hg h.2.2.2 i
      have hp1 := pc8_lt i (by omega)
      cases s with
      | none =>
        show f_X9_narrow_L15 F μ 166 (nI l) (fun x _ => some x) (n + 1) (-9) (nI i) = f_X9_narrow_L15 F μ 166 (nI l) (fun x _ => some x) n (encN (nst g m l i none)) (nI (i + 1))
        rw [f_X9_narrow_L15, eM, one_shl _ (by omega), if_pos (nI_lt hi (by omega)), M_without hF h (by omega), manyOf_ok hF μ (x := i) (by omega), i2, i3, eW, nI_1, if_pos (rfl : (-9 : Int32) = -9)]
        simp only [Option.bind_some, if_true]
        by_cases c0 : gW g l < wsum g m i
        · rw [if_pos (nI_lt c0 (by omega)), nst_no c0]; rfl
        · rw [if_neg (nI_nlt (by omega) (by omega)), nst_none c0]; rfl
      | some b =>
        have hb : b < 2 ^ gM g := hs
        have hp2 := pc8_lt b (by omega)
        show f_X9_narrow_L15 F μ 166 (nI l) (fun x _ => some x) (n + 1) (nI b) (nI i) = f_X9_narrow_L15 F μ 166 (nI l) (fun x _ => some x) n (encN (nst g m l i (some b))) (nI (i + 1))
        rw [f_X9_narrow_L15, eM, one_shl _ (by omega), if_pos (nI_lt hi (by omega)), M_without hF h (by omega), manyOf_ok hF μ (x := i) (by omega), i2, i3, eW, nI_1, manyOf_ok hF μ (x := b) (by omega)]
        simp only [Option.bind_some, if_true, encN_no (show b < 2 ^ 31 by omega), if_false]
        by_cases c1 : pc8 i < pc8 b
        · have d1 : nI (pc8 i) < nI (pc8 b) := nI_lt c1 (by omega)
          simp only [d1, if_true]
          by_cases c0 : gW g l < wsum g m i
          · rw [if_pos (nI_lt c0 (by omega)), nst_no c0]; rfl
          · rw [if_neg (nI_nlt (by omega) (by omega)), nst_less c0 c1]; rfl
        · have d1 : ¬ nI (pc8 i) < nI (pc8 b) := nI_nlt (by omega) (by omega)
          simp only [d1, if_false, ite_self]
          rw [nst_more c1]; rfl)
    (fun i s hi hs => nst_P hi hs)
    (fun n s _ => by
      show f_X9_narrow_L15 F μ 166 (nI l) (fun x _ => some x) (n + 1) (encN s) (nI (2 ^ gM g)) = _
      rw [f_X9_narrow_L15, eM, one_shl _ (by omega), if_neg (nI_nlt (Nat.le_refl _) (by omega))])
    (2 ^ gM g) F 0 none (by omega) (by omega) trivial
theorem S_narrow (hF : 5000 ≤ F) (hC : VC μ g m) (hM : VM μ g m) (a : Int32) : ∃ v, f_X8_narrow F μ 0 a = some v ∧ f_X9_narrow F μ 166 a = some v := by
  have hg := hC.2.2.1
  have h8 := hg.2.2.1
  by_cases ha : okN a (gN g) = true
  · obtain ⟨l, hl, rfl⟩ := okN_of (by omega) ha
    exact ⟨_, C_narrowN hF hC hl, M_narrowN hF hM hl⟩
  · unfold f_X8_narrow f_X9_narrow
    simp only [C_noLane hC, M_isLane hM, Option.bind_some, ha, if_true, if_false, show ¬ (1 : Int32) = 0 by decide]
    exact ⟨_, rfl, rfl⟩
end R25
