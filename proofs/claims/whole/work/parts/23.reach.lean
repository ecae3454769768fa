/-! where one can go: both sides sweep over the lanes till nothing comes -/
def em (g : Cfg) (l : Nat) : Nat := 2 ^ gF g l ||| 2 ^ gS g l
def swp (g : Cfg) (al : Nat → Bool) (l s : Nat) : Nat := if al l = true ∧ ¬ (s &&& em g l) = 0 then s ||| em g l else s
def swe (g : Cfg) (al : Nat → Bool) (s : Nat) : Nat := fr (swp g al) (gN g) 0 s
def it {S : Type} (f : S → S) : Nat → S → S
  | 0, s => s
  | n + 1, s => it f n (f s)
theorem it_add {S : Type} (f : S → S) : ∀ (a b : Nat) (s : S), it f (a + b) s = it f b (it f a s)
  | 0, b, s => by rw [Nat.zero_add]; rfl
  | a + 1, b, s => by rw [show a + 1 + b = a + b + 1 by omega, it, it_add f a b]; rfl
theorem it_fix {S : Type} {f : S → S} {s : S} (h : f s = s) : ∀ n, it f n s = s
  | 0 => rfl
  | n + 1 => by rw [it, h, it_fix h n]
def clo (g : Cfg) (al : Nat → Bool) (a : Nat) : Nat := it (swe g al) 8 (2 ^ a)
section REACH
variable {F : Nat} {μ : Mem} {g : Cfg} {m : Mo} {al : Nat → Bool}
theorem em_lt (hg : OkG g) {l : Nat} (hl : l < gN g) : em g l < 2 ^ gP g := by
  have h := hg.2.2.2.2.2.2.2 l hl
  exact Nat.or_lt_two_pow (Nat.pow_lt_pow_right (by decide) h.1) (Nat.pow_lt_pow_right (by decide) h.2.1)
theorem pw8 (hg : OkG g) {s : Nat} (h : s < 2 ^ gP g) : s < 256 := by
  have : 2 ^ gP g ≤ 2 ^ 8 := Nat.pow_le_pow_right (by decide) hg.2.1
  omega
theorem swp_lt (hg : OkG g) {l s : Nat} (hl : l < gN g) (hs : s < 2 ^ gP g) : swp g al l s < 2 ^ gP g := by
  unfold swp
  split
  · exact Nat.or_lt_two_pow hs (em_lt hg hl)
  · exact hs
theorem swp_pc (hg : OkG g) {l s : Nat} (hl : l < gN g) (hs : s < 2 ^ gP g) : swp g al l s = s ∨ pc8 s < pc8 (swp g al l s) := by
  have h := hg.2.2.2.2.2.2.2 l hl
  have h2 := hg.2.1
  unfold swp
  split
  · exact or_pc s (pw8 hg hs) _ (by omega) _ (by omega)
  · exact Or.inl rfl
theorem swe_ok (hg : OkG g) {s : Nat} (hs : s < 2 ^ gP g) : swe g al s < 2 ^ gP g ∧ (swe g al s = s ∨ pc8 s < pc8 (swe g al s)) := by
  have h := fr_inv (step := swp g al) (N := gN g) (fun _ s' => s' < 2 ^ gP g ∧ (s' = s ∨ pc8 s < pc8 s')) (fun i s' hi h => ⟨swp_lt hg hi h.1, by
    rcases swp_pc (al := al) hg hi h.1 with e | e
    · rw [e]; exact h.2
    · rcases h.2 with e2 | e2
      · rw [e2] at e; rw [e2]; exact Or.inr e
      · exact Or.inr (by omega)⟩) (gN g) 0 s (by omega) ⟨hs, Or.inl rfl⟩
  exact h
theorem it_lt (hg : OkG g) : ∀ (n s : Nat), s < 2 ^ gP g → it (swe g al) n s < 2 ^ gP g
  | 0, _, h => h
  | n + 1, s, h => it_lt hg n _ (swe_ok hg h).1
theorem it_pc (hg : OkG g) : ∀ (n s : Nat), s < 2 ^ gP g → (swe g al (it (swe g al) n s) = it (swe g al) n s ∨ pc8 s + n < pc8 (swe g al (it (swe g al) n s)))
  | 0, s, h => by
    rcases (swe_ok (al := al) hg h).2 with e | e
    · exact Or.inl e
    · exact Or.inr e
  | n + 1, s, h => by
    rcases (swe_ok (al := al) hg h).2 with e | e
    · refine Or.inl ?_
      rw [it, e, it_fix e, e]
    · rcases it_pc hg n _ (swe_ok (al := al) hg h).1 with e2 | e2
      · exact Or.inl e2
      · refine Or.inr ?_
        rw [it]
        omega
theorem it_stab (hg : OkG g) {a : Nat} (ha : a < gP g) (d : Nat) : it (swe g al) (gP g - 1 + d) (2 ^ a) = it (swe g al) (gP g - 1) (2 ^ a) := by
  have hs : 2 ^ a < 2 ^ gP g := Nat.pow_lt_pow_right (by decide) ha
  have h2 := hg.2.1
  have h1 := pc_one a (by omega)
  rw [it_add]
  rcases it_pc (al := al) hg (gP g - 1) _ hs with e | e
  · exact it_fix e d
  · exfalso
    have h3 := pc_pow (gP g) (by omega) _ (swe_ok (al := al) hg (it_lt (al := al) hg (gP g - 1) _ hs)).1
    omega
theorem C_joined_in (hF : 5000 ≤ F) (h : VC μ g m) {by_ : Nat} (hby : by_ < 256) (x4 x5 : Int32) (k : Int32 → Int32 → Option Int32) {s : Nat} (hs : s < 2 ^ gP g) : f_X7_joined_L22 F μ (gR μ 0 1) (nI by_) x4 x5 k F (nI s) 0 = k (nI (swe g (fun l => by_.testBit l) s)) (nI (gN g)) := by
  have hg := h.2.2.1
  have h8 := hg.2.2.1
  have eN : gI μ (gR μ 0 1) 1 = nI (gN g) := by obtain ⟨⟨t, ht, _, hc⟩, _⟩ := h; rw [ht]; exact hc.2.1
  exact for_run (S := Nat) (f := fun n s i => f_X7_joined_L22 F μ (gR μ 0 1) (nI by_) x4 x5 k n (nI s) (nI i)) (N := gN g) (step := swp g (fun l => by_.testBit l)) (k := fun s => k (nI s) (nI (gN g))) (fun _ s => s < 2 ^ gP g)
    (fun n s i hi hs => by
      have hs8 := pw8 hg hs
      have hem := pw8 hg (em_lt hg hi)
      show f_X7_joined_L22 F μ (gR μ 0 1) (nI by_) x4 x5 k (n + 1) (nI s) (nI i) = f_X7_joined_L22 F μ (gR μ 0 1) (nI by_) x4 x5 k n (nI (swp g (fun l => by_.testBit l) i s)) (nI (i + 1))
      rw [f_X7_joined_L22, eN, if_pos (nI_lt hi (by omega)), bit_q _ hby i (by omega), C_ends h hi]
      unfold swp
      show (if (if by_.testBit i = true then (1 : Int32) else 0) = 0 then _ else _) = _
      by_cases hb : by_.testBit i = true
      · simp only [hb, if_true, Option.bind_some, true_and, show ¬ (1 : Int32) = 0 by decide, if_false]
        rw [show (2 ^ gF g i ||| 2 ^ gS g i) = em g i from rfl, fa_and]
        by_cases hz : s &&& em g i = 0
        · rw [if_pos (by rw [hz]; rfl), if_neg (fun z => z hz), nI_1]
        · rw [if_neg (show ¬ nI (s &&& em g i) = (0 : Int32) from fun z => hz (nI_inj (a := s &&& em g i) (b := 0) (by have := Nat.and_le_left (n := s) (m := em g i); omega) (by omega) z)), if_pos hz, fa_or, nI_1]
      · simp only [hb, if_false, false_and, if_true, nI_1]; rfl)
    (fun i s hi hs => swp_lt hg hi hs)
    (fun n s _ => by
      show f_X7_joined_L22 F μ (gR μ 0 1) (nI by_) x4 x5 k (n + 1) (nI s) (nI (gN g)) = _
      rw [f_X7_joined_L22, eN, if_neg (nI_nlt (Nat.le_refl _) (by omega))])
    (gN g) F 0 s (by omega) (by omega) hs
theorem C_joined_out (hF : 5000 ≤ F) (h : VC μ g m) {by_ : Nat} (hby : by_ < 256) : ∀ (c n r s : Nat), r + c = gP g → 1 ≤ r → c < n → s < 2 ^ gP g → f_X7_joined_L7 F μ (gR μ 0 1) (nI by_) (fun x _ => some x) n (nI s) (nI r) = some (nI (it (swe g (fun l => by_.testBit l)) c s))
  | 0, n, r, s, hr, h1, hn, hs => by
    obtain ⟨j, rfl⟩ : ∃ j, n = j + 1 := ⟨n - 1, by omega⟩
    have h2 := h.2.2.1.2.1
    have eP : gI μ (gR μ 0 1) 0 = nI (gP g) := by obtain ⟨⟨t, ht, _, hc⟩, _⟩ := h; rw [ht]; exact hc.1
    rw [f_X7_joined_L7, eP, if_neg (nI_nlt (by omega) (by omega))]; rfl
  | c + 1, n, r, s, hr, h1, hn, hs => by
    obtain ⟨j, rfl⟩ : ∃ j, n = j + 1 := ⟨n - 1, by omega⟩
    have hg := h.2.2.1
    have h2 := hg.2.1
    have eP : gI μ (gR μ 0 1) 0 = nI (gP g) := by obtain ⟨⟨t, ht, _, hc⟩, _⟩ := h; rw [ht]; exact hc.1
    have hs2 := (swe_ok (al := fun l => by_.testBit l) hg hs).1
    have a1 := pw8 hg hs
    have a2 := pw8 hg hs2
    rw [f_X7_joined_L7, eP, if_pos (nI_lt (by omega) (by omega)), C_joined_in hF h hby _ _ _ hs]
    by_cases e : swe g (fun l => by_.testBit l) s = s
    · rw [if_pos (by rw [e]), it, e, it_fix e]
    · rw [if_neg (fun z => e (nI_inj (by omega) (by omega) z)), nI_1, it]
      exact C_joined_out hF h hby c j (r + 1) _ (by omega) (by omega) (by omega) hs2
theorem C_joined (hF : 5000 ≤ F) (h : VC μ g m) {by_ a : Nat} (hby : by_ < 256) (ha : a < gP g) : f_X7_joined F μ (gR μ 0 1) (nI by_) (nI a) = some (nI (clo g (fun l => by_.testBit l) a)) := by
  have hg := h.2.2.1
  have h2 := hg.2.1
  unfold f_X7_joined
  rw [one_shl a (by omega)]
  have e := C_joined_out hF h hby (gP g - 1) F 1 (2 ^ a) (by omega) (by omega) (by omega) (Nat.pow_lt_pow_right (by decide) ha)
  have e2 := it_stab (al := fun l => by_.testBit l) hg ha (9 - gP g)
  rw [show gP g - 1 + (9 - gP g) = 8 by omega] at e2
  unfold clo
  rw [e2]
  exact e
theorem M_canGo (h : VM μ g m) {l p sh : Nat} (hl : l < gN g) (hp : p < gM g) (hsh : sh < 256) : f_X9_canGo F μ 166 (nI p) (nI l) (nI sh) = some (if sh.testBit l = false ∧ wd g m p ≤ gW g l then 1 else 0) := by
  have hw := wd_le h.2.2.1 h.2.2.2 hp
  have h8 := h.2.2.1.2.2.1
  have h9 := (h.2.2.1.2.2.2.2.2.2.2 l hl).2.2.2.2
  have e1 : gI μ (166 + 6) l = nI (gW g l) := (h.1.2.2.2.2.2 l hl).2.2
  unfold f_X9_canGo
  rw [bit_q _ hsh l (by omega), M_wide h hp, Option.bind_some, if_pos (nI_ix (by omega) (by decide)), nI_clamp (by omega), e1]
  by_cases hb : sh.testBit l = true
  · simp [hb]
  · by_cases hc : gW g l < wd g m p
    · have h1 : nI (gW g l) < nI (wd g m p) := nI_lt hc (by omega)
      have h2 : ¬ wd g m p ≤ gW g l := by omega
      simp [hb, h1, h2]
    · have h1 : ¬ nI (gW g l) < nI (wd g m p) := nI_nlt (by omega) (by omega)
      have h2 : wd g m p ≤ gW g l := by omega
      simp only [hb, h2, and_true, if_true, if_false, Option.bind_some]
      rw [if_neg h1]
      simp [Bool.eq_false_iff, hb]
/-- the lanes by which a person can go, some being shut -/
def alw (g : Cfg) (m : Mo) (p sh l : Nat) : Bool := !sh.testBit l && decide (wd g m p ≤ gW g l)
theorem M_reach_in (hF : 5000 ≤ F) (h : VM μ g m) {p sh : Nat} (hp : p < gM g) (hsh : sh < 256) (x4 : Int32) (k : Int32 → Int32 → Option Int32) {s : Nat} (hs : s < 2 ^ gP g) : f_X9_reach_L24 F μ 166 (nI p) (nI sh) x4 k F (nI s) 0 = k (nI (swe g (alw g m p sh) s)) (nI (gN g)) := by
  have hg := h.2.2.1
  have h8 := hg.2.2.1
  have eN : gI μ (166 + 3) 0 = nI (gN g) := h.1.2.1
  exact for_run (S := Nat) (f := fun n s i => f_X9_reach_L24 F μ 166 (nI p) (nI sh) x4 k n (nI s) (nI i)) (N := gN g) (step := swp g (alw g m p sh)) (k := fun s => k (nI s) (nI (gN g))) (fun _ s => s < 2 ^ gP g)
    (fun n s i hi hs => by
      have hs8 := pw8 hg hs
      have hf := hg.2.2.2.2.2.2.2 i hi
      have h2 := hg.2.1
      have e1 : gI μ (166 + 4) i = nI (gF g i) := (h.1.2.2.2.2.2 i hi).1
      have e2 : gI μ (166 + 5) i = nI (gS g i) := (h.1.2.2.2.2.2 i hi).2.1
      have hor := or_bit s hs8 (gF g i) (by omega) (gS g i) (by omega)
      show f_X9_reach_L24 F μ 166 (nI p) (nI sh) x4 k (n + 1) (nI s) (nI i) = f_X9_reach_L24 F μ 166 (nI p) (nI sh) x4 k n (nI (swp g (alw g m p sh) i s)) (nI (i + 1))
      rw [f_X9_reach_L24, eN, if_pos (nI_lt hi (by omega)), M_canGo h hi hp hsh, Option.bind_some]
      have hix : ix (nI i) 16 = true := nI_ix (by omega) (by decide)
      simp only [hix, if_true]
      rw [nI_clamp (by omega), e1, e2, bit_q s hs8 _ (by omega), bit_q s hs8 _ (by omega), lt_eq, one_shl _ (by omega), one_shl _ (by omega), fa_or, fa_or, nI_1]
      unfold swp alw
      rw [show (2 ^ gF g i ||| 2 ^ gS g i) = em g i from rfl] at hor ⊢
      by_cases hb : sh.testBit i = false ∧ wd g m p ≤ gW g i
      · simp only [hb, and_self, if_true, show ¬ (1 : Int32) = 0 by decide, if_false, Bool.not_false, decide_true, Bool.and_true, true_and]
        by_cases hc : s.testBit (gF g i) = s.testBit (gS g i)
        · rw [if_pos hc] at hor
          rw [if_pos (by rw [hc]), hor]
        · rw [if_neg hc] at hor
          rw [if_neg (by intro z; apply hc; revert z; cases s.testBit (gF g i) <;> cases s.testBit (gS g i) <;> simp), if_pos hor]
      · rw [if_neg hb, if_pos rfl, if_neg]
        intro z
        apply hb
        simpa using z.1)
    (fun i s hi hs => swp_lt hg hi hs)
    (fun n s _ => by
      show f_X9_reach_L24 F μ 166 (nI p) (nI sh) x4 k (n + 1) (nI s) (nI (gN g)) = _
      rw [f_X9_reach_L24, eN, if_neg (nI_nlt (Nat.le_refl _) (by omega))])
    (gN g) F 0 s (by omega) (by omega) hs
theorem M_reach_out (hF : 5000 ≤ F) (h : VM μ g m) {p sh : Nat} (hp : p < gM g) (hsh : sh < 256) : ∀ (c n r s : Nat), r + c = 8 → c < n → s < 2 ^ gP g → f_X9_reach_L14 F μ 166 (nI p) (nI sh) (fun x _ => some x) n (nI s) (nI r) = some (nI (it (swe g (alw g m p sh)) c s))
  | 0, n, r, s, hr, hn, hs => by
    obtain ⟨j, rfl⟩ : ∃ j, n = j + 1 := ⟨n - 1, by omega⟩
    have e : r = 8 := by omega
    subst e
    rw [f_X9_reach_L14, if_neg (show ¬ nI 8 < (8 : Int32) from nI_nlt (a := 8) (b := 8) (Nat.le_refl _) (by decide))]; rfl
  | c + 1, n, r, s, hr, hn, hs => by
    obtain ⟨j, rfl⟩ : ∃ j, n = j + 1 := ⟨n - 1, by omega⟩
    rw [f_X9_reach_L14, if_pos (show nI r < (8 : Int32) from nI_lt (b := 8) (by omega) (by decide)), M_reach_in hF h hp hsh _ _ hs, nI_1, it]
    exact M_reach_out hF h hp hsh c j (r + 1) _ (by omega) (by omega) (swe_ok h.2.2.1 hs).1
theorem M_reach (hF : 5000 ≤ F) (h : VM μ g m) {p sh : Nat} (hp : p < gM g) (hsh : sh < 256) : f_X9_reach F μ 166 (nI p) (nI sh) = some (nI (clo g (alw g m p sh) (mA m p))) := by
  have hg := h.2.2.1
  have h2 := hg.2.1
  have h5 := hg.2.2.2.1
  have ha := (h.2.2.2.1 p hp).2
  obtain ⟨i1, i2⟩ := M_ixp (p := p) (b := 0) (by omega) (by decide)
  have e1 : gI μ (166 + 12) (0 + p) = nI (mA m p) := (h.2.1.2 p hp).2.1
  unfold f_X9_reach
  rw [lit_nI, if_pos i1, i2, e1, lt_eq, one_shl _ (by omega)]
  exact M_reach_out hF h hp hsh 8 F 0 _ rfl (by omega) (Nat.pow_lt_pow_right (by decide) ha)
theorem swe_cong {al2 : Nat → Bool} (h : ∀ l, l < gN g → al l = al2 l) : swe g al = swe g al2 := by
  funext s
  exact fr_cong (N := gN g) (fun i s hi => by unfold swp; rw [h i hi]) (gN g) 0 s (by omega)
theorem clo_cong {al2 : Nat → Bool} (h : ∀ l, l < gN g → al l = al2 l) (a : Nat) : clo g al a = clo g al2 a := by
  unfold clo
  rw [swe_cong h]
theorem clo_lt (hg : OkG g) {a : Nat} (ha : a < gP g) : clo g al a < 256 := pw8 hg (it_lt hg 8 _ (Nat.pow_lt_pow_right (by decide) ha))
end REACH
