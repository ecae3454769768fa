/-! courses: now and what is known of before, the oldest first -/
def Sm (μ μ' : Mem) (a : Nat) : Prop := (∀ j, gI μ' a j = gI μ a j) ∧ (∀ j, gR μ' a j = gR μ a j) ∧ gL μ' a = gL μ a
def Off (s e : Nat) (μ μ' : Mem) : Prop := ∀ a, ¬ (s ≤ a ∧ a < e) → Sm μ μ' a
theorem Sm_rfl (μ : Mem) (a : Nat) : Sm μ μ a := ⟨fun _ => rfl, fun _ => rfl, rfl⟩
theorem Sm_tr {μ μ1 μ2 : Mem} {a : Nat} (h1 : Sm μ μ1 a) (h2 : Sm μ1 μ2 a) : Sm μ μ2 a := ⟨fun j => (h2.1 j).trans (h1.1 j), fun j => (h2.2.1 j).trans (h1.2.1 j), h2.2.2.trans h1.2.2⟩
theorem Off_rfl (s e : Nat) (μ : Mem) : Off s e μ μ := fun a _ => Sm_rfl μ a
theorem Off_tr {s e : Nat} {μ μ1 μ2 : Mem} (h1 : Off s e μ μ1) (h2 : Off s e μ1 μ2) : Off s e μ μ2 := fun a h => Sm_tr (h1 a h) (h2 a h)
theorem Off_wide {s e s' e' : Nat} {μ μ1 : Mem} (h : Off s e μ μ1) (h1 : s' ≤ s) (h2 : e ≤ e') : Off s' e' μ μ1 := fun a ha => h a (by omega)
theorem Off_sI {s e : Nat} {μ μ1 : Mem} (h : Off s e μ μ1) {q : Nat} (hq : s ≤ q ∧ q < e) (j : Nat) (x : Int32) : Off s e μ (sI μ1 q j x) := fun a ha => Sm_tr (h a ha) (sI_off a (fun z => ha (z ▸ hq)))
theorem Off_sR {s e : Nat} {μ μ1 : Mem} (h : Off s e μ μ1) {q : Nat} (hq : s ≤ q ∧ q < e) (j : Nat) (x : Nat) : Off s e μ (sR μ1 q j x) := fun a ha => Sm_tr (h a ha) (sR_off a (fun z => ha (z ▸ hq)))
theorem MoC_sm {μ μ' : Mem} {q n : Nat} {m : Mo} (h : ∀ k, k < 4 → Sm μ μ' (q + k)) (hc : MoC μ q n m) : MoC μ' q n m := by
  have e0 := (h 0 (by decide)).1
  have e1 := (h 1 (by decide)).1
  have e2 := (h 2 (by decide)).1
  have e3 := (h 3 (by decide)).1
  have e0 : ∀ j, gI μ' q j = gI μ q j := e0
  unfold MoC
  simp only [e0, e1, e2, e3]
  exact hc
/-- the pointers of a course's past -/
def PtC (μ : Mem) (q : Nat) : Prop := ∃ π : Nat → Nat, (∀ i, i < 10 → gR μ (q + 5) i = q + 6 + 4 * π i ∧ π i < 10) ∧ ∀ i j, i < 10 → j < 10 → π i = π j → i = j
def CoC (μ : Mem) (q n : Nat) (c : Co) : Prop := MoC μ (q + 1) n c.1 ∧ gI μ q 2 = nI c.2.length ∧ c.2.length ≤ 10 ∧ ∀ i (h : i < c.2.length), MoC μ (gR μ (q + 5) i) n c.2[i]
theorem PtC_sm {μ μ' : Mem} {q : Nat} (h : Sm μ μ' (q + 5)) (hp : PtC μ q) : PtC μ' q := by
  obtain ⟨π, h1, h2⟩ := hp
  exact ⟨π, fun i hi => ⟨(h.2.1 i).trans (h1 i hi).1, (h1 i hi).2⟩, h2⟩
theorem CoC_sm {μ μ' : Mem} {q n : Nat} {c : Co} (h : ∀ k, k < 46 → Sm μ μ' (q + k)) (hp : PtC μ q) (hc : CoC μ q n c) : CoC μ' q n c := by
  obtain ⟨h1, h2, h3, h4⟩ := hc
  refine ⟨MoC_sm (fun k hk => by rw [Nat.add_assoc]; exact h (1 + k) (by omega)) h1, ((h 0 (by decide)).1 2).trans h2, h3, fun i hi => ?_⟩
  obtain ⟨π, p1, -⟩ := hp
  have e := p1 i (by omega)
  rw [(h 5 (by decide)).2.1 i]
  have h4i := h4 i hi
  rw [e.1] at h4i ⊢
  exact MoC_sm (fun k hk => by rw [show q + 6 + 4 * π i + k = q + (6 + 4 * π i + k) by omega]; exact h _ (by omega)) h4i
section R44
variable {F : Nat}
theorem X3_copy_ok (hF : 5000 ≤ F) (μ : Mem) {t q : Nat} (hd : t + 3 < q ∨ q + 3 < t) : ∃ μ', f_X3_copy F μ t q = some μ' ∧ Off t (t + 4) μ μ' ∧ (∀ a j, gR μ' a j = gR μ a j) ∧ ∀ n m, n ≤ 5 → MoC μ q n m → MoC μ' t n m := by
  unfold f_X3_copy
  obtain ⟨μ1, ⟨h1, h2, h3⟩, e1⟩ := for_rel (S := Mem) (f := fun n i s => f_X3_copy_L2 F t q (fun x2_4 μ_5 => lt (sI μ_5 t 3 (gI μ_5 q 3)) (fun μ_6 => some μ_6)) n (nI s) i) (N := 5) (k := fun s => some (sI s t 3 (gI s q 3))) (fun i s => Off t (t + 4) μ s ∧ (∀ a j, gR s a j = gR μ a j) ∧ ∀ p, p < i → gI s (t + 1) p = gI μ (q + 1) p ∧ gI s (t + 2) p = gI μ (q + 2) p ∧ gI s (t + 3) p = gI μ (q + 3) p)
    (fun n i s hi hs => by
      obtain ⟨s1, s2, s3⟩ := hs
      have j1 : ix (nI i) 5 = true := nI_ix (by omega) (by decide)
      have j2 : (nI i).toNatClampNeg = i := nI_clamp (by omega)
      have q1 := (s1 (q + 1) (by omega)).1
      have q2 := (s1 (q + 2) (by omega)).1
      have q3 := (s1 (q + 3) (by omega)).1
      refine ⟨sI (sI (sI s (t + 1) i (gI μ (q + 1) i)) (t + 2) i (gI μ (q + 2) i)) (t + 3) i (gI μ (q + 3) i), ⟨Off_sI (Off_sI (Off_sI s1 (by omega) _ _) (by omega) _ _) (by omega) _ _, fun a j => s2 a j, fun p hp => ?_⟩, ?_⟩
      · simp only [gI_sI]
        by_cases e : p = i
        · subst e
          refine ⟨?_, ?_, ?_⟩
          · rw [if_neg (by omega), if_neg (by omega), if_pos (by simp)]
          · rw [if_neg (by omega), if_pos (by simp)]
          · rw [if_pos (by simp)]
        · rw [if_neg (by omega), if_neg (by omega), if_neg (by omega), if_neg (by omega), if_neg (by omega), if_neg (by omega), if_neg (by omega), if_neg (by omega), if_neg (by omega)]
          exact s3 p (by omega)
      · show f_X3_copy_L2 F t q _ (n + 1) (nI i) s = _
        rw [f_X3_copy_L2, if_pos (show nI i < (5 : Int32) from nI_lt hi (by decide))]
        simp only [j1, j2, if_true, lt_eq, gI_sI, q1, q2, q3, nI_1]
        rw [if_neg (by omega), if_neg (by omega), if_neg (by omega)])
    (fun n s hs => by
      show f_X3_copy_L2 F t q _ (n + 1) (nI 5) s = _
      rw [f_X3_copy_L2, if_neg (show ¬ nI 5 < (5 : Int32) from nI_nlt (Nat.le_refl _) (by decide)), lt_eq])
    5 F 0 μ (by omega) (by omega) ⟨Off_rfl _ _ μ, fun _ _ => rfl, fun p hp => by omega⟩
  refine ⟨_, e1, Off_sI h1 (by omega) _ _, h2, fun n m hn hm => ⟨?_, fun p hp => ?_⟩⟩
  · rw [gI_sI, if_pos ⟨rfl, rfl⟩, (h1 q (by omega)).1]
    exact hm.1
  · have a1 := hm.2 p hp
    have a2 := h3 p (by omega)
    rw [gI_sI, gI_sI, gI_sI, if_neg (by omega), if_neg (by omega), if_neg (by omega), a2.1, a2.2.1, a2.2.2]
    exact a1
/-- one more moment known -/
def psh (l : List Mo) (m : Mo) : List Mo := if l.length < 10 then l ++ [m] else l.tail ++ [m]
theorem store_ok (hF : 5000 ≤ F) {μ : Mem} {q n : Nat} (hn : n ≤ 5) {m : Mo} {l : List Mo} (hl : l.length < 10) (hp : PtC μ q) (hc : CoC μ q n (m, l)) : ∃ μ', (if ix (gI μ q 2) 10 = true then (f_X3_copy F μ (gR μ (q + 5) ((gI μ q 2).toNatClampNeg)) (q + 1)).bind (fun μ_3 => lt (sI μ_3 q 2 ((gI μ_3 q 2) + 1)) (fun μ_5 => some μ_5)) else none) = some μ' ∧ Off q (q + 46) μ μ' ∧ PtC μ' q ∧ CoC μ' q n (m, l ++ [m]) := by
  obtain ⟨c1, c2, c3, c4⟩ := hc
  have c2 : gI μ q 2 = nI l.length := c2
  obtain ⟨π, p1, p2⟩ := id hp
  have pl := p1 l.length hl
  rw [c2, if_pos (nI_ix hl (by decide)), nI_clamp (by omega), pl.1]
  obtain ⟨μ1, e1, o1, r1, k1⟩ := X3_copy_ok hF μ (t := q + 6 + 4 * π l.length) (q := q + 1) (by omega)
  have e2 : gI μ1 q 2 = nI l.length := ((o1 q (by omega)).1 2).trans c2
  rw [e1, Option.bind_some, lt_eq, e2, nI_1]
  have o2 : Off q (q + 46) μ (sI μ1 q 2 (nI (l.length + 1))) := Off_sI (Off_wide o1 (by omega) (by omega)) (by omega) _ _
  have s0 : ∀ a, a ≠ q → Sm μ1 (sI μ1 q 2 (nI (l.length + 1))) a := fun a ha => sI_off a ha
  refine ⟨_, rfl, o2, ⟨π, fun i hi => ⟨(r1 _ _).trans (p1 i hi).1, (p1 i hi).2⟩, p2⟩, ?_, ?_, ?_, ?_⟩
  · refine MoC_sm (μ := μ) (fun k hk => Sm_tr (o1 _ (by omega)) (s0 _ (by omega))) c1
  · rw [gI_sI, if_pos ⟨rfl, rfl⟩]
    simp
  · simp; omega
  · intro i hi
    have hi2 : i < l.length + 1 := by simpa using hi
    have eR : gR (sI μ1 q 2 (nI (l.length + 1))) (q + 5) i = q + 6 + 4 * π i := (r1 _ _).trans (p1 i (by omega)).1
    rw [eR]
    by_cases e : i = l.length
    · subst e
      have : (m, l ++ [m]).2[l.length] = m := by simp
      rw [this]
      exact MoC_sm (fun k hk => s0 _ (by omega)) (k1 n m hn c1)
    · have hil : i < l.length := by omega
      have : (m, l ++ [m]).2[i] = l[i] := by simp [List.getElem_append_left hil]
      rw [this]
      have hne : π i ≠ π l.length := fun z => e (p2 i l.length (by omega) hl z)
      have h4 := c4 i hil
      rw [(p1 i (by omega)).1] at h4
      exact MoC_sm (fun k hk => Sm_tr (o1 _ (by omega)) (s0 _ (by omega))) h4
theorem lose_ok (hF : 5000 ≤ F) {μ : Mem} {q n : Nat} {m : Mo} {l : List Mo} (hl : l.length = 10) (hp : PtC μ q) (hc : CoC μ q n (m, l)) : ∃ μ', f_X0_loseOldest F μ q = some μ' ∧ Off q (q + 46) μ μ' ∧ PtC μ' q ∧ CoC μ' q n (m, l.tail) := by
  obtain ⟨c1, c2, c3, c4⟩ := hc
  obtain ⟨π, p1, p2⟩ := id hp
  unfold f_X0_loseOldest
  obtain ⟨μ1, ⟨-, h1, h2, h3, h4⟩, e1⟩ := for_rel (S := Mem) (f := fun n i s => f_X0_loseOldest_L9 F q (gR μ (q + 5) 0) (fun x2_4 μ_5 => lt (sR μ_5 (q + 5) 9 (gR μ (q + 5) 0)) (fun μ_6 => lt (sI μ_6 q 2 9) (fun μ_7 => some μ_7))) n (nI s) i) (N := 10) (k := fun s => some (sI (sR s (q + 5) 9 (gR μ (q + 5) 0)) q 2 9)) (fun i s => 1 ≤ i ∧ (∀ a, a ≠ q + 5 → Sm μ s a) ∧ (∀ j, gI s (q + 5) j = gI μ (q + 5) j) ∧ (∀ j, j + 1 < i → gR s (q + 5) j = gR μ (q + 5) (j + 1)) ∧ ∀ j, i ≤ j + 1 → gR s (q + 5) j = gR μ (q + 5) j)
    (fun n i s hi hs => by
      obtain ⟨s0, s1, s2, s3, s4⟩ := hs
      have j1 : ix (nI i) 10 = true := nI_ix (by omega) (by decide)
      have j2 : (nI i).toNatClampNeg = i := nI_clamp (by omega)
      have k1 : ix (nI (i - 1)) 10 = true := nI_ix (by omega) (by decide)
      have k2 : (nI (i - 1)).toNatClampNeg = i - 1 := nI_clamp (by omega)
      have k3 : nI i - 1 = nI (i - 1) := nI_sub (b := 1) s0
      refine ⟨sR s (q + 5) (i - 1) (gR μ (q + 5) i), ⟨by omega, fun a ha => Sm_tr (s1 a ha) (sR_off a ha), fun j => s2 j, fun j hj => ?_, fun j hj => ?_⟩, ?_⟩
      · rw [gR_sR]
        by_cases e : j = i - 1
        · rw [if_pos ⟨rfl, e⟩, e, show i - 1 + 1 = i by omega]
        · rw [if_neg (by omega)]; exact s3 j (by omega)
      · rw [gR_sR, if_neg (by omega)]; exact s4 j (by omega)
      · show f_X0_loseOldest_L9 F q (gR μ (q + 5) 0) _ (n + 1) (nI i) s = _
        rw [f_X0_loseOldest_L9, if_pos (show nI i < (10 : Int32) from nI_lt hi (by decide)), if_pos j1, k3, if_pos k1, lt_eq, j2, k2, s4 i (by omega), nI_1])
    (fun n s hs => by
      show f_X0_loseOldest_L9 F q (gR μ (q + 5) 0) _ (n + 1) (nI 10) s = _
      rw [f_X0_loseOldest_L9, if_neg (show ¬ nI 10 < (10 : Int32) from nI_nlt (Nat.le_refl _) (by decide)), lt_eq, lt_eq])
    9 F 1 μ (by omega) (by omega) ⟨Nat.le_refl _, fun a _ => Sm_rfl μ a, fun _ => rfl, fun j hj => by omega, fun j _ => rfl⟩
  have hR : ∀ j, j < 10 → gR (sI (sR μ1 (q + 5) 9 (gR μ (q + 5) 0)) q 2 9) (q + 5) j = q + 6 + 4 * π (if j = 9 then 0 else j + 1) := fun j hj => by
    rw [gR_sI, gR_sR]
    by_cases e : j = 9
    · rw [if_pos ⟨rfl, e⟩, if_pos e]; exact (p1 0 (by omega)).1
    · rw [if_neg (by omega), if_neg e, h3 j (by omega)]; exact (p1 (j + 1) (by omega)).1
  have hS : ∀ a, a ≠ q → a ≠ q + 5 → Sm μ (sI (sR μ1 (q + 5) 9 (gR μ (q + 5) 0)) q 2 9) a := fun a ha1 ha2 => Sm_tr (Sm_tr (h1 a ha2) (sR_off a ha2)) (sI_off a ha1)
  refine ⟨_, e1, fun a ha => hS a (by omega) (by omega), ⟨fun j => π (if j = 9 then 0 else j + 1), fun j hj => ⟨hR j hj, (p1 _ (by split <;> omega)).2⟩, fun i j hi hj hij => ?_⟩, ?_, ?_, ?_, ?_⟩
  · have := p2 _ _ (show (if i = 9 then 0 else i + 1) < 10 by split <;> omega) (show (if j = 9 then 0 else j + 1) < 10 by split <;> omega) hij
    split at this <;> split at this <;> omega
  · exact MoC_sm (μ := μ) (fun k hk => hS _ (by omega) (by omega)) c1
  · rw [gI_sI, if_pos ⟨rfl, rfl⟩]
    show (9 : Int32) = nI l.tail.length
    rw [List.length_tail, hl]; rfl
  · show l.tail.length ≤ 10
    rw [List.length_tail]; omega
  · intro i hi
    have hi2 : i < 9 := by
      have : i < l.tail.length := hi
      rw [List.length_tail] at this; omega
    rw [hR i (by omega), if_neg (by omega)]
    have : (m, l.tail).2[i] = l[i + 1] := by show l.tail[i] = _; rw [List.getElem_tail]
    rw [this]
    have h4 := c4 (i + 1) (by show i + 1 < l.length; omega)
    rw [(p1 (i + 1) (by omega)).1] at h4
    exact MoC_sm (fun k hk => hS _ (by omega) (by omega)) h4
theorem remember_ok (hF : 5000 ≤ F) {μ : Mem} {q n : Nat} (hn : n ≤ 5) {m : Mo} {l : List Mo} (hp : PtC μ q) (hc : CoC μ q n (m, l)) : ∃ μ', f_X0_remember F μ q = some μ' ∧ Off q (q + 46) μ μ' ∧ PtC μ' q ∧ CoC μ' q n (m, psh l m) := by
  have c2 : gI μ q 2 = nI l.length := hc.2.1
  have c3 : l.length ≤ 10 := hc.2.2.1
  unfold f_X0_remember psh
  by_cases h : l.length < 10
  · rw [if_pos (show gI μ q 2 < (10 : Int32) by rw [c2]; exact nI_lt h (by decide)), if_pos h]
    exact store_ok hF hn h hp hc
  · rw [if_neg (show ¬ gI μ q 2 < (10 : Int32) by rw [c2]; exact (nI_nlt (show 10 ≤ l.length by omega) (by omega) : ¬ nI l.length < nI 10)), if_neg h]
    obtain ⟨μ1, e1, o1, q1, k1⟩ := lose_ok hF (by omega) hp hc
    rw [e1, Option.bind_some]
    obtain ⟨μ2, e2, o2, q2, k2⟩ := store_ok hF hn (l := l.tail) (by rw [List.length_tail]; omega) q1 k1
    exact ⟨μ2, e2, Off_tr o1 o2, q2, k2⟩
theorem stepBack_ok (hF : 5000 ≤ F) {μ : Mem} {q n : Nat} (hn : n ≤ 5) {m : Mo} {l : List Mo} (hp : PtC μ q) (hc : CoC μ q n (m, l)) (hl : l ≠ []) : ∃ μ', f_X0_stepBack F μ q = some (1, μ') ∧ Off q (q + 46) μ μ' ∧ PtC μ' q ∧ CoC μ' q n (l.getLast hl, l.dropLast) := by
  obtain ⟨c1, c2, c3, c4⟩ := hc
  have c2 : gI μ q 2 = nI l.length := c2
  have c3 : l.length ≤ 10 := c3
  have hpos : 0 < l.length := List.length_pos_iff.mpr hl
  obtain ⟨π, p1, p2⟩ := id hp
  have pl := p1 (l.length - 1) (by omega)
  unfold f_X0_stepBack
  have e0 : gI (sI μ q 2 (nI (l.length - 1))) q 2 = nI (l.length - 1) := by rw [gI_sI, if_pos ⟨rfl, rfl⟩]
  have s0 : ∀ a, a ≠ q → Sm μ (sI μ q 2 (nI (l.length - 1))) a := fun a ha => sI_off a ha
  rw [c2, if_pos (show (0 : Int32) < nI l.length from nI_lt (a := 0) hpos (by omega)), lt_eq, show nI l.length - 1 = nI (l.length - 1) from nI_sub (b := 1) hpos, e0, if_pos (nI_ix (by omega) (by decide)), nI_clamp (by omega), gR_sI, pl.1]
  obtain ⟨μ1, e1, o1, r1, k1⟩ := X3_copy_ok hF (sI μ q 2 (nI (l.length - 1))) (t := q + 1) (q := q + 6 + 4 * π (l.length - 1)) (by omega)
  rw [e1, Option.bind_some]
  refine ⟨μ1, rfl, Off_tr (Off_sI (Off_rfl _ _ μ) (by omega) _ _) (Off_wide o1 (by omega) (by omega)), ⟨π, fun i hi => ⟨(r1 _ _).trans (p1 i hi).1, (p1 i hi).2⟩, p2⟩, ?_, ?_, ?_, ?_⟩
  · refine k1 n _ hn ?_
    have h4 := c4 (l.length - 1) (by show _ < l.length; omega)
    rw [pl.1] at h4
    have : l.getLast hl = (m, l).2[l.length - 1]'(by show _ < l.length; omega) := List.getLast_eq_getElem hl
    show MoC _ _ n (l.getLast hl)
    rw [this]
    exact MoC_sm (fun k hk => s0 _ (by omega)) h4
  · rw [(o1 q (by omega)).1 2, e0]
    show nI _ = nI l.dropLast.length
    rw [List.length_dropLast]
  · show l.dropLast.length ≤ 10
    rw [List.length_dropLast]; omega
  · intro i hi
    have hi2 : i < l.length - 1 := by
      have : i < l.dropLast.length := hi
      rw [List.length_dropLast] at this; omega
    rw [r1, gR_sI, (p1 i (by omega)).1]
    have h4 := c4 i (by show _ < l.length; omega)
    rw [(p1 i (by omega)).1] at h4
    have : (l.getLast hl, l.dropLast).2[i] = l[i] := by show l.dropLast[i] = _; rw [List.getElem_dropLast]
    rw [this]
    exact MoC_sm (fun k hk => Sm_tr (s0 _ (by omega)) (o1 _ (by omega))) h4
/-- a whole course into another -/
theorem copy_ok (hF : 5000 ≤ F) {μ : Mem} {t q n : Nat} (hn : n ≤ 5) {c : Co} (hd : t + 46 ≤ q ∨ q + 46 ≤ t) (hpt : PtC μ t) (hp : PtC μ q) (hc : CoC μ q n c) : ∃ μ', f_X0_copy F μ t q = some μ' ∧ Off t (t + 46) μ μ' ∧ PtC μ' t ∧ CoC μ' t n c := by
  obtain ⟨m, l⟩ := c
  obtain ⟨c1, c2, c3, c4⟩ := hc
  have c2 : gI μ q 2 = nI l.length := c2
  have c3 : l.length ≤ 10 := c3
  obtain ⟨π, p1, p2⟩ := id hp
  obtain ⟨ρ, r1, r2⟩ := id hpt
  unfold f_X0_copy
  obtain ⟨μ1, e1, o1, g1, k1⟩ := X3_copy_ok hF μ (t := t + 1) (q := q + 1) (by omega)
  rw [e1, Option.bind_some]
  obtain ⟨μ2, ⟨h1, h2, h3, h4⟩, e2⟩ := for_rel (S := Mem) (f := fun n i s => f_X0_copy_L13 F t q (fun x2_9 μ_10 => lt (sI μ_10 t 2 (gI μ_10 q 2)) (fun μ_11 => some μ_11)) n (nI s) i) (N := l.length) (k := fun s => some (sI s t 2 (gI s q 2))) (fun i s => Off t (t + 46) μ s ∧ (∀ a j, gR s a j = gR μ a j) ∧ MoC s (t + 1) n m ∧ ∀ j (h : j < l.length), j < i → MoC s (t + 6 + 4 * ρ j) n l[j])
    (fun n' i s hi hs => by
      obtain ⟨s1, s2, s3, s4⟩ := hs
      have j1 : ix (nI i) 10 = true := nI_ix (by omega) (by decide)
      have j2 : (nI i).toNatClampNeg = i := nI_clamp (by omega)
      have ri := r1 i (by omega)
      have pi := p1 i (by omega)
      obtain ⟨s', e', o', g', k'⟩ := X3_copy_ok hF s (t := t + 6 + 4 * ρ i) (q := q + 6 + 4 * π i) (by omega)
      refine ⟨s', ⟨Off_tr s1 (Off_wide o' (by omega) (by omega)), fun a j => (g' a j).trans (s2 a j), MoC_sm (fun k hk => o' _ (by omega)) s3, fun j hj hji => ?_⟩, ?_⟩
      · by_cases e : j = i
        · subst e
          refine k' n _ hn ?_
          have h4 := c4 j hj
          rw [pi.1] at h4
          exact MoC_sm (fun k hk => s1 _ (by omega)) h4
        · have hne : ρ j ≠ ρ i := fun z => e (r2 j i (by omega) (by omega) z)
          exact MoC_sm (fun k hk => o' _ (by omega)) (s4 j hj (by omega))
      · show f_X0_copy_L13 F t q _ (n' + 1) (nI i) s = _
        rw [f_X0_copy_L13, (s1 q (by omega)).1, c2, if_pos (nI_lt hi (by omega)), if_pos j1, if_pos j1, j2, s2, s2, ri.1, pi.1, e', Option.bind_some, nI_1])
    (fun n' s hs => by
      show f_X0_copy_L13 F t q _ (n' + 1) (nI l.length) s = _
      rw [f_X0_copy_L13, (hs.1 q (by omega)).1, c2, if_neg (nI_nlt (Nat.le_refl _) (by omega)), lt_eq])
    l.length F 0 μ1 (by omega) (by omega) ⟨Off_wide o1 (by omega) (by omega), g1, k1 n m hn c1, fun j _ hj => by omega⟩
  have e3 : gI μ2 q 2 = nI l.length := ((h1 q (by omega)).1 2).trans c2
  have s0 : ∀ a, a ≠ t → Sm μ2 (sI μ2 t 2 (gI μ2 q 2)) a := fun a ha => sI_off a ha
  refine ⟨_, e2, Off_sI h1 (by omega) _ _, ⟨ρ, fun i hi => ⟨(h2 _ _).trans (r1 i hi).1, (r1 i hi).2⟩, r2⟩, MoC_sm (fun k hk => s0 _ (by omega)) h3, ?_, c3, fun i hi => ?_⟩
  · rw [gI_sI, if_pos ⟨rfl, rfl⟩, e3]
  · have hi2 : i < l.length := hi
    rw [gR_sI, h2, (r1 i (by omega)).1]
    exact MoC_sm (fun k hk => s0 _ (by omega)) (h4 i hi2 hi2)
end R44
