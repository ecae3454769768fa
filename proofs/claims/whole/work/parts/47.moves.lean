/-! calls that change the course -/
def seE (m : Mo) (p x : Nat) : Mo := (upn m.1 p x, m.2)
def seA (m : Mo) (p x : Nat) : Mo := (m.1, upn m.2.1 p x, m.2.2)
def seG (m : Mo) (p x : Nat) : Mo := (m.1, m.2.1, upn m.2.2.1 p x, m.2.2.2)
def seC (m : Mo) (x : Nat) : Mo := (m.1, m.2.1, m.2.2.1, x)
theorem MoC_E {μ : Mem} {q n : Nat} {m : Mo} (h : MoC μ q n m) (p x : Nat) : MoC (sI μ (q + 1) p (nI x)) q n (seE m p x) := by
  refine ⟨by rw [gI_sI, if_neg (by omega)]; exact h.1, fun r hr => ?_⟩
  have := h.2 r hr
  rw [gI_sI, gI_sI, gI_sI, if_neg (show ¬ (q + 2 = q + 1 ∧ r = p) by omega), if_neg (show ¬ (q + 3 = q + 1 ∧ r = p) by omega)]
  refine ⟨?_, this.2.1, this.2.2⟩
  show _ = nI (upn m.1 p x r)
  unfold upn
  by_cases e : r = p
  · rw [if_pos ⟨rfl, e⟩, if_pos e]
  · rw [if_neg (fun z => e z.2), if_neg e]; exact this.1
theorem MoC_A {μ : Mem} {q n : Nat} {m : Mo} (h : MoC μ q n m) (p x : Nat) : MoC (sI μ (q + 2) p (nI x)) q n (seA m p x) := by
  refine ⟨by rw [gI_sI, if_neg (by omega)]; exact h.1, fun r hr => ?_⟩
  have := h.2 r hr
  rw [gI_sI, gI_sI, gI_sI, if_neg (show ¬ (q + 1 = q + 2 ∧ r = p) by omega), if_neg (show ¬ (q + 3 = q + 2 ∧ r = p) by omega)]
  refine ⟨this.1, ?_, this.2.2⟩
  show _ = nI (upn m.2.1 p x r)
  unfold upn
  by_cases e : r = p
  · rw [if_pos ⟨rfl, e⟩, if_pos e]
  · rw [if_neg (fun z => e z.2), if_neg e]; exact this.2.1
theorem MoC_G {μ : Mem} {q n : Nat} {m : Mo} (h : MoC μ q n m) (p x : Nat) : MoC (sI μ (q + 3) p (nI x)) q n (seG m p x) := by
  refine ⟨by rw [gI_sI, if_neg (by omega)]; exact h.1, fun r hr => ?_⟩
  have := h.2 r hr
  rw [gI_sI, gI_sI, gI_sI, if_neg (show ¬ (q + 1 = q + 3 ∧ r = p) by omega), if_neg (show ¬ (q + 2 = q + 3 ∧ r = p) by omega)]
  refine ⟨this.1, this.2.1, ?_⟩
  show _ = nI (upn m.2.2.1 p x r)
  unfold upn
  by_cases e : r = p
  · rw [if_pos ⟨rfl, e⟩, if_pos e]
  · rw [if_neg (fun z => e z.2), if_neg e]; exact this.2.2
theorem MoC_C {μ : Mem} {q n : Nat} {m : Mo} (h : MoC μ q n m) (x : Nat) : MoC (sI μ q 3 (nI x)) q n (seC m x) := by
  refine ⟨by rw [gI_sI, if_pos ⟨rfl, rfl⟩]; rfl, fun r hr => ?_⟩
  have := h.2 r hr
  rw [gI_sI, gI_sI, gI_sI, if_neg (by omega), if_neg (by omega), if_neg (by omega)]
  exact this
theorem MoM_E {μ : Mem} {n : Nat} {m : Mo} (hn : n ≤ 5) (h : MoM μ 0 n m) {p : Nat} (hp : p < 5) (x : Nat) : MoM (sI μ 178 (5 + p) (nI x)) 0 n (seE m p x) := by
  refine ⟨by rw [gI_sI, if_neg (by omega)]; exact h.1, fun r hr => ?_⟩
  have := h.2 r hr
  rw [gI_sI, gI_sI, gI_sI, if_neg (show ¬ (178 = 178 ∧ 0 + r = 5 + p) by omega), if_neg (show ¬ (178 = 178 ∧ 0 + 10 + r = 5 + p) by omega)]
  refine ⟨?_, this.2.1, this.2.2⟩
  show _ = nI (upn m.1 p x r)
  unfold upn
  by_cases e : r = p
  · rw [if_pos (by omega), if_pos e]
  · rw [if_neg (by omega), if_neg e]; exact this.1
theorem MoM_A {μ : Mem} {n : Nat} {m : Mo} (hn : n ≤ 5) (h : MoM μ 0 n m) {p : Nat} (hp : p < 5) (x : Nat) : MoM (sI μ 178 (0 + p) (nI x)) 0 n (seA m p x) := by
  refine ⟨by rw [gI_sI, if_neg (by omega)]; exact h.1, fun r hr => ?_⟩
  have := h.2 r hr
  rw [gI_sI, gI_sI, gI_sI, if_neg (show ¬ (178 = 178 ∧ 0 + 5 + r = 0 + p) by omega), if_neg (show ¬ (178 = 178 ∧ 0 + 10 + r = 0 + p) by omega)]
  refine ⟨this.1, ?_, this.2.2⟩
  show _ = nI (upn m.2.1 p x r)
  unfold upn
  by_cases e : r = p
  · rw [if_pos (by omega), if_pos e]
  · rw [if_neg (by omega), if_neg e]; exact this.2.1
theorem MoM_G {μ : Mem} {n : Nat} {m : Mo} (hn : n ≤ 5) (h : MoM μ 0 n m) {p : Nat} (hp : p < 5) (x : Nat) : MoM (sI μ 178 (10 + p) (nI x)) 0 n (seG m p x) := by
  refine ⟨by rw [gI_sI, if_neg (by omega)]; exact h.1, fun r hr => ?_⟩
  have := h.2 r hr
  rw [gI_sI, gI_sI, gI_sI, if_neg (show ¬ (178 = 178 ∧ 0 + 5 + r = 10 + p) by omega), if_neg (show ¬ (178 = 178 ∧ 0 + r = 10 + p) by omega)]
  refine ⟨this.1, this.2.1, ?_⟩
  show _ = nI (upn m.2.2.1 p x r)
  unfold upn
  by_cases e : r = p
  · rw [if_pos (by omega), if_pos e]
  · rw [if_neg (by omega), if_neg e]; exact this.2.2
theorem MoM_C {μ : Mem} {n : Nat} {m : Mo} (hn : n ≤ 5) (h : MoM μ 0 n m) (x : Nat) : MoM (sI μ 178 15 (nI x)) 0 n (seC m x) := by
  refine ⟨by rw [gI_sI, if_pos (by omega)]; rfl, fun r hr => ?_⟩
  have := h.2 r hr
  rw [gI_sI, gI_sI, gI_sI, if_neg (by omega), if_neg (by omega), if_neg (by omega)]
  exact this
theorem CoC_now {μ μ' : Mem} {n : Nat} {m m' : Mo} {l : List Mo} (h : Off 17 21 μ μ') (hp : PtC μ 16) (hc : CoC μ 16 n (m, l)) (hm : MoC μ' 17 n m') : PtC μ' 16 ∧ CoC μ' 16 n (m', l) := by
  obtain ⟨c1, c2, c3, c4⟩ := hc
  refine ⟨PtC_sm (h _ (by omega)) hp, hm, ((h 16 (by omega)).1 2).trans c2, c3, fun i hi => ?_⟩
  have h4 := c4 i hi
  have c3 : l.length ≤ 10 := c3
  have hi : i < l.length := hi
  obtain ⟨π, p1, -⟩ := hp
  rw [(h 21 (by omega)).2.1 i]
  rw [(p1 i (by omega)).1] at h4 ⊢
  exact MoC_sm (fun k hk => h _ (by omega)) h4
theorem CoM_now {μ μ' : Mem} {n : Nat} {m m' : Mo} {l : List Mo} (hn : n ≤ 5) (h : Of8 0 16 μ μ') (hc : CoM μ 0 n (m, l)) (hm : MoM μ' 0 n m') : CoM μ' 0 n (m', l) := by
  obtain ⟨c1, c2, c3, c4⟩ := hc
  exact ⟨hm, (h.2.2 178 _ (by omega)).trans c2, c3, fun i hi => MoM_at hn (fun k hk => h.2.2 178 _ (by omega)) (c4 i hi)⟩
theorem RcC_co {σ : St} {μ μ' : Mem} {c' : Co} (h : Off 16 62 μ μ') (hr : RcC σ μ) (hp : PtC μ' 16) (hc : CoC μ' 16 (gM σ.1) c') : RcC (σ.1, c', σ.2.2) μ' := by
  obtain ⟨⟨t, d, r1, r2, r3, r4⟩, p, c, k, x, a, l⟩ := hr
  have s0 := h 0 (by omega)
  refine ⟨⟨t, d, (s0.2.1 1).trans r1, (s0.2.1 2).trans r2, r3, CfgC_sm (fun k hk => h _ (by omega)) r4⟩, hp, hc, fun i hi => ?_, ?_, GaC_sm (fun k hk => h _ (by omega)) a, s0.2.2.trans l⟩
  · obtain ⟨k1, k2, k3, k4⟩ := k i hi
    exact ⟨((h 62 (by omega)).2.1 i).trans k1, PtC_sm (h _ (by omega)) k2, ((h 63 (by omega)).1 i).trans k3, fun c hc => CoC_sm (fun k hk => h _ (by omega)) k2 (k4 c hc)⟩
  · exact ⟨((h 2 (by omega)).1 1).trans x.1, fun i hi => ((h 3 (by omega)).1 i).trans (x.2 i hi)⟩
theorem RcM_co {σ : St} {μ μ' : Mem} {c' : Co} (h5 : gM σ.1 ≤ 5) (h : Of8 0 177 μ μ') (hr : RcM σ μ) (hc : CoM μ' 0 (gM σ.1) c') : RcM (σ.1, c', σ.2.2) μ' := by
  obtain ⟨r, c, k, x, a, l⟩ := hr
  have s : ∀ a, a ≠ 178 → Sm μ μ' a := fun a ha => ⟨fun j => h.2.2 a j (by omega), h.1 a, h.2.1 a⟩
  refine ⟨CfgM_sm (fun k h1 h2 => s k ?_) r, hc, fun i hi => ?_, ?_, GaM_sm ((s 166 (by decide)).1 26) (s _ (by decide)) (s _ (by decide)) a, (s 166 (by decide)).2.2.trans l⟩
  · omega
  · obtain ⟨k1, k2⟩ := k i hi
    exact ⟨((s 179 (by decide)).1 i).trans k1, fun c hc => CoM_at h5 (fun k _ => h.2.2 178 _ (by omega)) (k2 c hc)⟩
  · exact ⟨((s 166 (by decide)).1 2).trans x.1, fun i hi => by rw [(s 167 (by decide)).1 i]; exact x.2 i hi⟩
theorem OkC_psh {g : Cfg} {m m' : Mo} {l : List Mo} (h : OkC g (m, l)) (hm : OkM g m') : OkC g (m', psh l m) := by
  obtain ⟨h1, h2, h3⟩ := h
  have h2 : l.length ≤ 10 := h2
  have h3 : ∀ x ∈ l, OkM g x := h3
  refine ⟨hm, ?_, fun x hx => ?_⟩
  · show (psh l m).length ≤ 10
    unfold psh
    split
    · simp; omega
    · simp; omega
  · have hx : x ∈ psh l m := hx
    unfold psh at hx
    split at hx
    · rcases List.mem_append.mp hx with z | z
      · exact h3 x z
      · have := List.mem_singleton.mp z; subst this; exact h1
    · rcases List.mem_append.mp hx with z | z
      · exact h3 x (List.mem_of_mem_tail z)
      · have := List.mem_singleton.mp z; subst this; exact h1
theorem OkS_co {σ : St} {c' : Co} (ho : OkS σ) (h : OkC σ.1 c') : OkS (σ.1, c', σ.2.2) := ⟨ho.1, h, ho.2.2⟩
section R47
variable {F : Nat}
/-- the tail of every call that moves: both know one moment more, and now is m' -/
theorem mvs {σ : St} {μ μ' : Mem} (ho : OkS σ) (hC : RcC σ μ) (hM : RcM σ μ') {m' : Mo} {v : Int32} {μ1 μ2 μ3 μ4 : Mem} (hm : OkM σ.1 m')
    (o1 : Off 16 62 μ μ1) (q1 : PtC μ1 16) (c1 : CoC μ1 16 (gM σ.1) (σ.2.1.1, psh σ.2.1.2 σ.2.1.1)) (o2 : Off 17 21 μ1 μ2) (m2 : MoC μ2 17 (gM σ.1) m')
    (o3 : Of8 0 177 μ' μ3) (c3 : CoM μ3 0 (gM σ.1) (σ.2.1.1, psh σ.2.1.2 σ.2.1.1)) (o4 : Of8 0 16 μ3 μ4) (m4 : MoM μ4 0 (gM σ.1) m') : OkS (σ.1, (m', psh σ.2.1.2 σ.2.1.1), σ.2.2) ∧ RcC (σ.1, (m', psh σ.2.1.2 σ.2.1.1), σ.2.2) μ2 ∧ RcM (σ.1, (m', psh σ.2.1.2 σ.2.1.1), σ.2.2) μ4 ∧ HiS μ μ2 ∧ LoS μ' μ4 := by
  have h5 := ho.1.2.2.2.1
  obtain ⟨p2, k2⟩ := CoC_now o2 q1 c1 m2
  have k4 := CoM_now h5 o4 c3 m4
  have o12 := Off_tr o1 (Off_wide o2 (by decide) (by decide))
  have o34 := Of8_tr o3 (Of8_wide o4 (by decide) (by decide))
  exact ⟨OkS_co ho (OkC_psh ho.2.1 hm), RcC_co o12 hC p2 k2, RcM_co h5 o34 hM k4, Off_hi o12 (by decide), Of8_lo o34⟩
theorem xor_q : ∀ x, x < 256 → ∀ l, l < 8 → nI x ^^^ ((1 : Int32) <<< (nI l &&& 31)) = nI (if x.testBit l = true then clr x l else x ||| 2 ^ l) := by decide +kernel
theorem clr_le (x l : Nat) : clr x l ≤ x := by
  unfold clr
  split
  · exact Nat.sub_le _ _
  · exact Nat.le_refl _
theorem S_shuts (hF : 5000 ≤ F) {σ : St} {μ μ' : Mem} (ho : OkS σ) (hC : RcC σ μ) (hM : RcM σ μ') (a b : Int32) : Stps μ μ' (f_X8_shuts F μ 0 a b) (f_X9_shuts F μ' 166 a b) := by
  have vC := RcC_VC ho hC
  have vM := RcM_VM ho hM
  have hg := ho.1
  have h8 := hg.2.2.1
  have h5 := hg.2.2.2.1
  unfold f_X8_shuts f_X9_shuts
  rw [C_noLane vC, M_isLane vM, Option.bind_some, Option.bind_some]
  by_cases ha : okN a (gN σ.1) = true
  · simp only [ha, if_true, if_false, show ¬ (1 : Int32) = 0 by decide]
    obtain ⟨l, hl, rfl⟩ := okN_of (by omega) ha
    have eb : f_X9_in F μ' b 0 1 = some (if okN b 2 = true then 1 else 0) := in_ok F μ' b 2 (by decide)
    rw [eb, Option.bind_some]
    by_cases hb : okN b 2 = true
    · obtain ⟨j, hj, rfl⟩ := okN_of (by omega) hb
      rw [if_neg (nI_pos (by omega)), if_neg (show ¬ (1 : Int32) < nI j from nI_nlt (b := j) (a := 1) (by omega) (by decide)), if_pos hb, if_neg (show ¬ (1 : Int32) = 0 by decide)]
      have hc8 := mC_lt hg vC.2.2.2
      have hcn := vC.2.2.2.2
      have eC : gI μ' (166 + 12) 15 = nI (mC σ.2.1.1) := vM.2.1.1
      rw [C_closed vC hl, Option.bind_some, eC, bit_q _ hc8 l (by omega)]
      obtain ⟨μ1, e1, o1, q1, c1⟩ := remember_ok hF h5 hC.2.1 hC.2.2.1
      obtain ⟨μ3, e3, o3, c3⟩ := M_know hF h5 hM.2.1
      have e1 : f_X0_remember F μ (0 + 16) = some μ1 := e1
      have eC1 : gI μ1 (0 + 16 + 1) 3 = nI (mC σ.2.1.1) := c1.1.1
      have eC3 : gI μ3 (166 + 12) 15 = nI (mC σ.2.1.1) := c3.1.1
      have o1 : Off 16 62 μ μ1 := o1
      have o3 : Of8 0 177 μ' μ3 := Of8_wide o3 (by decide) (by decide)
      have fin : ∀ x, x < 2 ^ gN σ.1 → ∀ o o', o = some (nI (pc8 x), sI μ1 17 3 (nI x)) → o' = some (nI (pc8 x), sI μ3 178 15 (nI x)) → Stps μ μ' o o' := fun x hx o o' h1 h2 => by
        obtain ⟨z1, z2, z3, z4, z5⟩ := mvs (v := 0) ho hC hM (m' := seC σ.2.1.1 x) ⟨fun p hp => vC.2.2.2.1 p hp, hx⟩ o1 q1 c1 (Off_sI (Off_rfl 17 21 μ1) (q := 17) (by decide) 3 (nI x)) (MoC_C c1.1 x) o3 c3 (Of8_sI (Of8_rfl 0 16 μ3) (j := 15) (by decide) (nI x)) (MoM_C h5 c3.1 x)
        exact ⟨_, _, _, _, h1, h2, z1, z2, z3, z4, z5⟩
      have clo8 : ∀ x, x < 2 ^ gN σ.1 → f_X8_closedLanes F (sI μ1 17 3 (nI x)) 0 = some (nI (pc8 x)) := fun x hx => by
        obtain ⟨z1, z2, z3, z4, z5⟩ := mvs (v := 0) ho hC hM (m' := seC σ.2.1.1 x) ⟨fun p hp => vC.2.2.2.1 p hp, hx⟩ o1 q1 c1 (Off_sI (Off_rfl 17 21 μ1) (q := 17) (by decide) 3 (nI x)) (MoC_C c1.1 x) o3 c3 (Of8_sI (Of8_rfl 0 16 μ3) (j := 15) (by decide) (nI x)) (MoM_C h5 c3.1 x)
        exact C_closedLanes (RcC_VC z1 z2)
      have e15 : ∀ x, gI (sI μ3 (166 + 12) 15 (nI x)) (166 + 12) 15 = nI x := fun x => by rw [gI_sI, if_pos ⟨rfl, rfl⟩]
      have lt8 : ∀ x, x < 2 ^ gN σ.1 → x < 256 := fun x hx => lt256 hg hx
      rw [e1, e3, Option.bind_some, Option.bind_some, eC3, lt_eq, xor_q _ hc8 l (by omega), e15]
      unfold f_X3_close f_X3_open
      rw [eC1, lt_eq, lt_eq, one_shl l (by omega), fa_or, ← one_shl l (by omega), clr_q _ hc8 l (by omega), Option.bind_some, Option.bind_some]
      have hor : mC σ.2.1.1 ||| 2 ^ l < 2 ^ gN σ.1 := Nat.or_lt_two_pow hcn (Nat.pow_lt_pow_right (by decide) hl)
      have hcl : clr (mC σ.2.1.1) l < 2 ^ gN σ.1 := Nat.lt_of_le_of_lt (clr_le _ _) hcn
      by_cases hbit : (mC σ.2.1.1).testBit l = true
      · simp only [hbit, if_true]
        rcases (show j = 0 ∨ j = 1 by omega) with rfl | rfl
        · rw [if_neg (show ¬ nI 0 = 1 by decide), if_neg (show ¬ (1 : Int32) = 0 by decide), if_neg (show ¬ nI 0 = 1 by decide), if_neg (show ¬ (1 : Int32) = nI 0 by decide)]
          refine fin _ hcl _ _ ?_ ?_
          · rw [show (0 + 16 + 1 : Nat) = 17 from rfl, clo8 _ hcl, Option.bind_some]
          · rw [manyOf_ok hF _ (lt8 _ hcl), Option.bind_some]
        · rw [if_pos (show nI 1 = 1 by decide), if_pos (show (1 : Int32) = nI 1 by decide)]
          exact Stps_same ho hC hM _
      · simp only [hbit, if_false, Bool.false_eq_true]
        rcases (show j = 0 ∨ j = 1 by omega) with rfl | rfl
        · rw [if_neg (show ¬ nI 0 = 1 by decide), if_pos True.intro, if_pos (show (0 : Int32) = nI 0 by decide)]
          exact Stps_same ho hC hM _
        · rw [if_pos (show nI 1 = 1 by decide), if_neg (show ¬ (0 : Int32) = 1 by decide), if_pos (show nI 1 = 1 by decide), if_neg (show ¬ (0 : Int32) = nI 1 by decide)]
          refine fin _ hor _ _ ?_ ?_
          · rw [show (0 + 16 + 1 : Nat) = 17 from rfl, clo8 _ hor, Option.bind_some]
          · rw [manyOf_ok hF _ (lt8 _ hor), Option.bind_some]
    · simp only [hb, if_false, if_true, Bool.false_eq_true]
      rcases rng (by decide) (by decide) hb with z | z
      · rw [if_pos z]; exact Stps_same ho hC hM _
      · have z : (1 : Int32) < b := z
        rw [if_pos z]
        by_cases y : b < 0
        · rw [if_pos y]; exact Stps_same ho hC hM _
        · rw [if_neg y]; exact Stps_same ho hC hM _
  · simp only [ha, if_true, if_false, show ¬ (1 : Int32) = 0 by decide, Bool.false_eq_true]
    exact Stps_same ho hC hM _
end R47
