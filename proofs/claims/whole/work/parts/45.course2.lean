/-! the model's courses: one array -/
def Of8 (lo hi : Nat) (μ μ' : Mem) : Prop := (∀ q j, gR μ' q j = gR μ q j) ∧ (∀ q, gL μ' q = gL μ q) ∧ ∀ q j, ¬ (q = 178 ∧ lo ≤ j ∧ j < hi) → gI μ' q j = gI μ q j
theorem Of8_rfl (lo hi : Nat) (μ : Mem) : Of8 lo hi μ μ := ⟨fun _ _ => rfl, fun _ => rfl, fun _ _ _ => rfl⟩
theorem Of8_tr {lo hi : Nat} {μ μ1 μ2 : Mem} (h1 : Of8 lo hi μ μ1) (h2 : Of8 lo hi μ1 μ2) : Of8 lo hi μ μ2 := ⟨fun q j => (h2.1 q j).trans (h1.1 q j), fun q => (h2.2.1 q).trans (h1.2.1 q), fun q j h => (h2.2.2 q j h).trans (h1.2.2 q j h)⟩
theorem Of8_wide {lo hi lo' hi' : Nat} {μ μ1 : Mem} (h : Of8 lo hi μ μ1) (h1 : lo' ≤ lo) (h2 : hi ≤ hi') : Of8 lo' hi' μ μ1 := ⟨h.1, h.2.1, fun q j z => h.2.2 q j (by omega)⟩
theorem Of8_sI {lo hi : Nat} {μ μ1 : Mem} (h : Of8 lo hi μ μ1) {j : Nat} (hj : lo ≤ j ∧ j < hi) (x : Int32) : Of8 lo hi μ (sI μ1 178 j x) := ⟨h.1, h.2.1, fun a i z => by
  rw [gI_sI, if_neg (by omega)]
  exact h.2.2 a i z⟩
theorem MoM_at {μ μ' : Mem} {b b' n : Nat} {m : Mo} (hn : n ≤ 5) (h : ∀ k, k < 16 → gI μ' 178 (b' + k) = gI μ 178 (b + k)) (hm : MoM μ b n m) : MoM μ' b' n m := by
  refine ⟨(h 15 (by decide)).trans hm.1, fun p hp => ?_⟩
  have := hm.2 p hp
  refine ⟨?_, (h p (by omega)).trans this.2.1, ?_⟩
  · rw [Nat.add_assoc]; exact (h (5 + p) (by omega)).trans (by rw [← Nat.add_assoc]; exact this.1)
  · rw [Nat.add_assoc]; exact (h (10 + p) (by omega)).trans (by rw [← Nat.add_assoc]; exact this.2.2)
def CoM (μ : Mem) (b n : Nat) (c : Co) : Prop := MoM μ b n c.1 ∧ gI μ 178 (b + 16) = nI c.2.length ∧ c.2.length ≤ 10 ∧ ∀ i (h : i < c.2.length), MoM μ (b + 17 + 16 * i) n c.2[i]
theorem CoM_at {μ μ' : Mem} {b b' n : Nat} {c : Co} (hn : n ≤ 5) (h : ∀ k, k < 177 → gI μ' 178 (b' + k) = gI μ 178 (b + k)) (hc : CoM μ b n c) : CoM μ' b' n c := by
  obtain ⟨h1, h2, h3, h4⟩ := hc
  refine ⟨MoM_at hn (fun k hk => h k (by omega)) h1, (h 16 (by decide)).trans h2, h3, fun i hi => MoM_at hn (fun k hk => ?_) (h4 i hi)⟩
  rw [show b' + 17 + 16 * i + k = b' + (17 + 16 * i + k) by omega, show b + 17 + 16 * i + k = b + (17 + 16 * i + k) by omega]
  exact h _ (by omega)
theorem ix531 {a : Nat} (h : a < 531) : ix (nI a) 531 = true ∧ (nI a).toNatClampNeg = a := ⟨nI_ix h (by decide), nI_clamp (by omega)⟩
theorem at_past (l i : Nat) : 17 + 16 * nI l + nI i = nI (17 + 16 * l + i) := by
  rw [show (16 : Int32) * nI l = nI (16 * l) from nI_mul 16 l, show (17 : Int32) + nI (16 * l) = nI (17 + 16 * l) from nI_add 17 _, nI_add]
section R45
variable {F : Nat}
theorem M_store (hF : 5000 ≤ F) {μ : Mem} {n : Nat} (hn : n ≤ 5) {m : Mo} {l : List Mo} (hl : l.length < 10) (hc : CoM μ 0 n (m, l)) : ∃ μ', f_X9_know_L58 F 166 (fun x1_9 μ_10 => lt (sI μ_10 (166 + 12) 16 ((gI μ_10 (166 + 12) 16) + 1)) (fun μ_11 => some μ_11)) F 0 μ = some μ' ∧ Of8 16 177 μ μ' ∧ CoM μ' 0 n (m, l ++ [m]) := by
  obtain ⟨c1, c2, c3, c4⟩ := hc
  have c2 : gI μ 178 16 = nI l.length := by have : gI μ 178 (0 + 16) = nI l.length := c2; exact this
  obtain ⟨μ1, ⟨h1, h2⟩, e1⟩ := for_rel (S := Mem) (f := fun n i s => f_X9_know_L58 F 166 (fun x1_9 μ_10 => lt (sI μ_10 (166 + 12) 16 ((gI μ_10 (166 + 12) 16) + 1)) (fun μ_11 => some μ_11)) n (nI s) i) (N := 16) (k := fun s => some (sI s 178 16 (gI s 178 16 + 1))) (fun i s => Of8 (17 + 16 * l.length) (33 + 16 * l.length) μ s ∧ ∀ k, k < i → gI s 178 (17 + 16 * l.length + k) = gI μ 178 k)
    (fun n' i s hi hs => by
      have e16 : gI s (166 + 12) 16 = nI l.length := (hs.1.2.2 178 16 (by omega)).trans c2
      obtain ⟨i1, i2⟩ := ix531 (show i < 531 by omega)
      obtain ⟨j1, j2⟩ := ix531 (show 17 + 16 * l.length + i < 531 by omega)
      refine ⟨sI s 178 (17 + 16 * l.length + i) (gI μ 178 i), ⟨Of8_sI hs.1 (by omega) _, fun k hk => ?_⟩, ?_⟩
      · rw [gI_sI]
        by_cases e : k = i
        · rw [if_pos (by omega), e]
        · rw [if_neg (by omega)]; exact hs.2 k (by omega)
      · show f_X9_know_L58 F 166 _ (n' + 1) (nI i) s = _
        rw [f_X9_know_L58, if_pos (show nI i < (16 : Int32) from nI_lt hi (by decide)), e16, at_past, if_pos i1, if_pos j1, lt_eq, i2, j2, show gI s (166 + 12) i = gI μ 178 i from hs.1.2.2 178 i (by omega), nI_1])
    (fun n' s hs => by
      show f_X9_know_L58 F 166 _ (n' + 1) (nI 16) s = _
      rw [f_X9_know_L58, if_neg (show ¬ nI 16 < (16 : Int32) from nI_nlt (Nat.le_refl _) (by decide)), lt_eq])
    16 F 0 μ (by omega) (by omega) ⟨Of8_rfl _ _ μ, fun k hk => by omega⟩
  have e2 : gI μ1 178 16 = nI l.length := (h1.2.2 178 16 (by omega)).trans c2
  have hsame : ∀ j, ¬ (17 + 16 * l.length ≤ j ∧ j < 33 + 16 * l.length) → j ≠ 16 → gI (sI μ1 178 16 (gI μ1 178 16 + 1)) 178 j = gI μ 178 j := fun j h1' h2' => by
    rw [gI_sI, if_neg (by omega)]; exact h1.2.2 178 j (by omega)
  refine ⟨_, e1, Of8_sI (Of8_wide h1 (by omega) (by omega)) (by omega) _, ?_, ?_, ?_, ?_⟩
  · exact MoM_at hn (fun k hk => hsame _ (by omega) (by omega)) c1
  · rw [gI_sI, if_pos (by omega), e2, nI_1]
    simp
  · simp; omega
  · intro i hi
    have hi2 : i < l.length + 1 := by simpa using hi
    by_cases e : i = l.length
    · subst e
      have : (m, l ++ [m]).2[l.length] = m := by simp
      rw [this]
      refine MoM_at hn (fun k hk => ?_) c1
      rw [gI_sI, if_neg (by omega), show 0 + 17 + 16 * l.length + k = 17 + 16 * l.length + k by omega, h2 k hk, Nat.zero_add]
    · have hil : i < l.length := by omega
      have : (m, l ++ [m]).2[i] = l[i] := by simp [List.getElem_append_left hil]
      rw [this]
      exact MoM_at hn (fun k hk => hsame _ (by omega) (by omega)) (c4 i hil)
theorem M_know (hF : 5000 ≤ F) {μ : Mem} {n : Nat} (hn : n ≤ 5) {m : Mo} {l : List Mo} (hc : CoM μ 0 n (m, l)) : ∃ μ', f_X9_know F μ 166 = some μ' ∧ Of8 16 177 μ μ' ∧ CoM μ' 0 n (m, psh l m) := by
  obtain ⟨c1, c2, c3, c4⟩ := id hc
  have c2 : gI μ 178 16 = nI l.length := by have : gI μ 178 (0 + 16) = nI l.length := c2; exact this
  have c3 : l.length ≤ 10 := c3
  unfold f_X9_know psh
  rw [show gI μ (166 + 12) 16 = nI l.length from c2]
  by_cases h : l.length < 10
  · rw [if_neg (show ¬ nI l.length = (10 : Int32) from fun z => by have := (nI_eq (b := 10) (by omega) (by decide)).mp z; omega), if_pos h]
    exact M_store hF hn h hc
  · have h10 : l.length = 10 := by omega
    rw [if_pos (show nI l.length = (10 : Int32) by rw [h10]; rfl), if_neg h]
    obtain ⟨μ1, ⟨h1, h2, h3⟩, e1⟩ := for_rel (S := Mem) (f := fun n i s => f_X9_know_L14 F 166 (fun x1_6 μ_7 => lt (sI μ_7 (166 + 12) 16 ((gI μ_7 (166 + 12) 16) - 1)) (fun μ_8 => f_X9_know_L58 F 166 (fun x1_9 μ_10 => lt (sI μ_10 (166 + 12) 16 ((gI μ_10 (166 + 12) 16) + 1)) (fun μ_11 => some μ_11)) F 0 μ_8)) n (nI s) i) (N := 144) (k := fun s => f_X9_know_L58 F 166 (fun x1_9 μ_10 => lt (sI μ_10 (166 + 12) 16 ((gI μ_10 (166 + 12) 16) + 1)) (fun μ_11 => some μ_11)) F 0 (sI s 178 16 (gI s 178 16 - 1))) (fun i s => Of8 17 177 μ s ∧ (∀ k, k < i → gI s 178 (17 + k) = gI μ 178 (33 + k)) ∧ ∀ k, i ≤ k → gI s 178 (17 + k) = gI μ 178 (17 + k))
      (fun n' i s hi hs => by
        obtain ⟨s1, s2, s3⟩ := hs
        obtain ⟨i1, i2⟩ := ix531 (show 17 + i < 531 by omega)
        obtain ⟨j1, j2⟩ := ix531 (show 33 + i < 531 by omega)
        have a1 : (17 : Int32) + nI i = nI (17 + i) := nI_add 17 i
        have a2 : (33 : Int32) + nI i = nI (33 + i) := nI_add 33 i
        have a3 : gI s (166 + 12) (33 + i) = gI μ 178 (33 + i) := by
          have := s3 (16 + i) (by omega)
          rw [show 17 + (16 + i) = 33 + i by omega] at this
          exact this
        refine ⟨sI s 178 (17 + i) (gI μ 178 (33 + i)), ⟨Of8_sI s1 (by omega) _, fun k hk => ?_, fun k hk => ?_⟩, ?_⟩
        · rw [gI_sI]
          by_cases e : k = i
          · rw [if_pos (by omega), e]
          · rw [if_neg (by omega)]; exact s2 k (by omega)
        · rw [gI_sI, if_neg (by omega)]; exact s3 k (by omega)
        · show f_X9_know_L14 F 166 _ (n' + 1) (nI i) s = _
          rw [f_X9_know_L14, if_pos (show nI i < (144 : Int32) from nI_lt hi (by decide)), a1, a2, if_pos j1, if_pos i1, lt_eq, i2, j2, a3, nI_1])
      (fun n' s hs => by
        show f_X9_know_L14 F 166 _ (n' + 1) (nI 144) s = _
        rw [f_X9_know_L14, if_neg (show ¬ nI 144 < (144 : Int32) from nI_nlt (Nat.le_refl _) (by decide)), lt_eq])
      144 F 0 μ (by omega) (by omega) ⟨Of8_rfl _ _ μ, fun k hk => by omega, fun k _ => rfl⟩
    have e16 : gI μ1 178 16 = nI 10 := by rw [h1.2.2 178 16 (by omega), c2, h10]
    rw [e16, show nI 10 - 1 = nI 9 from nI_sub (b := 1) (by decide)] at e1
    have hc2 : CoM (sI μ1 178 16 (nI 9)) 0 n (m, l.tail) := by
      refine ⟨MoM_at hn (fun k hk => ?_) c1, ?_, ?_, fun i hi => ?_⟩
      · rw [gI_sI, if_neg (by omega)]; exact h1.2.2 178 _ (by omega)
      · rw [gI_sI, if_pos (by omega)]
        show nI 9 = nI l.tail.length
        rw [List.length_tail, h10]
      · show l.tail.length ≤ 10
        rw [List.length_tail]; omega
      · have hi2 : i < 9 := by
          have : i < l.tail.length := hi
          rw [List.length_tail] at this; omega
        have : (m, l.tail).2[i] = l[i + 1] := by show l.tail[i] = _; rw [List.getElem_tail]
        rw [this]
        refine MoM_at hn (fun k hk => ?_) (c4 (i + 1) (by show i + 1 < l.length; omega))
        rw [gI_sI, if_neg (by omega)]
        have := h2 (16 * i + k) (by omega)
        rw [show 0 + 17 + 16 * i + k = 17 + (16 * i + k) by omega, this]
        congr 1; omega
    obtain ⟨μ2, e2, o2, k2⟩ := M_store hF hn (l := l.tail) (by rw [List.length_tail]; omega) hc2
    exact ⟨μ2, e1.trans e2, Of8_tr (Of8_sI (Of8_wide h1 (by omega) (by omega)) (by omega) _) o2, k2⟩
theorem M_undo (hF : 5000 ≤ F) {μ : Mem} {n : Nat} (hn : n ≤ 5) {m : Mo} {l : List Mo} (hc : CoM μ 0 n (m, l)) (hl : l ≠ []) : ∃ μ', f_X9_undo F μ 166 = some (nI (l.length - 1), μ') ∧ Of8 0 177 μ μ' ∧ CoM μ' 0 n (l.getLast hl, l.dropLast) := by
  obtain ⟨c1, c2, c3, c4⟩ := id hc
  have c2 : gI μ 178 16 = nI l.length := by have : gI μ 178 (0 + 16) = nI l.length := c2; exact this
  have c3 : l.length ≤ 10 := c3
  have hpos : 0 < l.length := List.length_pos_iff.mpr hl
  unfold f_X9_undo
  rw [show gI μ (166 + 12) 16 = nI l.length from c2, if_neg (nI_ne0 hpos (by omega)), lt_eq, show nI l.length - 1 = nI (l.length - 1) from nI_sub (b := 1) hpos]
  obtain ⟨μ1, ⟨h1, h2⟩, e1⟩ := for_rel (S := Mem) (f := fun n i s => f_X9_undo_L26 F 166 (fun x1_3 μ_4 => some (gI μ_4 (166 + 12) 16, μ_4)) n (nI s) i) (N := 16) (k := fun s => some (gI s 178 16, s)) (fun i s => Of8 0 16 (sI μ 178 16 (nI (l.length - 1))) s ∧ ∀ k, k < i → gI s 178 k = gI μ 178 (17 + 16 * (l.length - 1) + k))
    (fun n' i s hi hs => by
      have e16 : gI s (166 + 12) 16 = nI (l.length - 1) := (hs.1.2.2 178 16 (by omega)).trans (by rw [gI_sI, if_pos ⟨rfl, rfl⟩])
      obtain ⟨i1, i2⟩ := ix531 (show i < 531 by omega)
      obtain ⟨j1, j2⟩ := ix531 (show 17 + 16 * (l.length - 1) + i < 531 by omega)
      have a3 : gI s (166 + 12) (17 + 16 * (l.length - 1) + i) = gI μ 178 (17 + 16 * (l.length - 1) + i) := (hs.1.2.2 178 _ (by omega)).trans (by rw [gI_sI, if_neg (by omega)])
      refine ⟨sI s 178 i (gI μ 178 (17 + 16 * (l.length - 1) + i)), ⟨Of8_sI hs.1 (by omega) _, fun k hk => ?_⟩, ?_⟩
      · rw [gI_sI]
        by_cases e : k = i
        · rw [if_pos (by omega), e]
        · rw [if_neg (by omega)]; exact hs.2 k (by omega)
      · show f_X9_undo_L26 F 166 _ (n' + 1) (nI i) s = _
        rw [f_X9_undo_L26, if_pos (show nI i < (16 : Int32) from nI_lt hi (by decide)), e16, at_past, if_pos j1, if_pos i1, lt_eq, i2, j2, a3, nI_1])
    (fun n' s hs => by
      show f_X9_undo_L26 F 166 _ (n' + 1) (nI 16) s = _
      rw [f_X9_undo_L26, if_neg (show ¬ nI 16 < (16 : Int32) from nI_nlt (Nat.le_refl _) (by decide))])
    16 F 0 (sI μ 178 16 (nI (l.length - 1))) (by omega) (by omega) ⟨Of8_rfl _ _ _, fun k hk => by omega⟩
  have e16 : gI μ1 178 16 = nI (l.length - 1) := (h1.2.2 178 16 (by omega)).trans (by rw [gI_sI, if_pos ⟨rfl, rfl⟩])
  rw [e16] at e1
  refine ⟨μ1, e1, Of8_tr (Of8_sI (Of8_rfl _ _ μ) (by omega) _) (Of8_wide h1 (by omega) (by omega)), ?_, ?_, ?_, fun i hi => ?_⟩
  · have h4 := c4 (l.length - 1) (by show _ < l.length; omega)
    have : l.getLast hl = (m, l).2[l.length - 1]'(by show _ < l.length; omega) := List.getLast_eq_getElem hl
    show MoM _ _ n (l.getLast hl)
    rw [this]
    exact MoM_at hn (fun k hk => by rw [Nat.zero_add, h2 k hk, show 0 + 17 + 16 * (l.length - 1) + k = 17 + 16 * (l.length - 1) + k by omega]) h4
  · show gI μ1 178 (0 + 16) = nI l.dropLast.length
    rw [List.length_dropLast]; exact e16
  · show l.dropLast.length ≤ 10
    rw [List.length_dropLast]; omega
  · have hi2 : i < l.length - 1 := by
      have : i < l.dropLast.length := hi
      rw [List.length_dropLast] at this; omega
    have : (l.getLast hl, l.dropLast).2[i] = l[i] := by show l.dropLast[i] = _; rw [List.getElem_dropLast]
    rw [this]
    refine MoM_at hn (fun k hk => ?_) (c4 i (by show _ < l.length; omega))
    rw [h1.2.2 178 _ (by omega), gI_sI, if_neg (by omega)]
end R45
