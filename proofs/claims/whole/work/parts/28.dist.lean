/-! shortest ways: lane by lane in place, or all at once; both come to the same -/
abbrev Ar : Type := Nat → Nat
def upn (d : Ar) (a x : Nat) : Ar := fun v => if v = a then x else d v
/-- one lane, both ways -/
def rlx (g : Cfg) (c : Nat → Nat) (l : Nat) (d : Ar) : Ar :=
  upn (upn d (gF g l) (min (d (gF g l)) (d (gS g l) + c l))) (gS g l) (min (d (gS g l)) (upn d (gF g l) (min (d (gF g l)) (d (gS g l) + c l)) (gF g l) + c l))
def swd (g : Cfg) (c : Nat → Nat) (d : Ar) : Ar := fr (rlx g c) (gN g) 0 d
def D0 (b : Nat) : Ar := fun v => if v = b then 0 else 100000
/-- all at once -/
def jst (g : Cfg) (c : Nat → Nat) (o : Ar) (l : Nat) (d : Ar) : Ar := fun v => min (d v) (min (if v = gF g l then o (gS g l) + c l else d v) (if v = gS g l then o (gF g l) + c l else d v))
def jac (g : Cfg) (c : Nat → Nat) (o : Ar) : Ar := fr (jst g c o) (gN g) 0 o
def Nj (g : Cfg) (c : Nat → Nat) (b : Nat) : Nat → Ar
  | 0 => D0 b
  | r + 1 => jac g c (Nj g c b r)
section DIST
variable {g : Cfg} {c : Nat → Nat} {b : Nat}
theorem jst_le (o : Ar) (l : Nat) (d : Ar) (v : Nat) : jst g c o l d v ≤ d v := Nat.min_le_left _ _
theorem fr_le {step : Nat → Ar → Ar} (h : ∀ i d v, step i d v ≤ d v) : ∀ (k i : Nat) (d : Ar) (v : Nat), fr step k i d v ≤ d v
  | 0, _, _, _ => Nat.le_refl _
  | k + 1, i, d, v => Nat.le_trans (fr_le h k (i + 1) _ v) (h i d v)
theorem jac_le (o : Ar) (v : Nat) : jac g c o v ≤ o v := fr_le (fun i d v => jst_le o i d v) _ _ _ v
/-- what a step at lane l brings stays -/
theorem fr_at {step : Nat → Ar → Ar} (h : ∀ i d v, step i d v ≤ d v) {l v x : Nat} (hl : ∀ d, step l d v ≤ x) : ∀ (k i : Nat) (d : Ar), i ≤ l → l < i + k → fr step k i d v ≤ x
  | 0, _, _, h1, h2 => by omega
  | k + 1, i, d, h1, h2 => by
    by_cases e : i = l
    · subst e
      exact Nat.le_trans (fr_le h k (i + 1) _ v) (hl d)
    · exact fr_at h hl k (i + 1) _ (by omega) (by omega)
theorem jac_F (o : Ar) {l : Nat} (hl : l < gN g) : jac g c o (gF g l) ≤ o (gS g l) + c l := fr_at (fun i d v => jst_le o i d v) (fun d => by
  unfold jst
  rw [if_pos rfl]
  omega) (gN g) 0 o (by omega) (by omega)
theorem jac_S (o : Ar) {l : Nat} (hl : l < gN g) : jac g c o (gS g l) ≤ o (gF g l) + c l := fr_at (fun i d v => jst_le o i d v) (fun d => by
  unfold jst
  rw [if_pos rfl]
  omega) (gN g) 0 o (by omega) (by omega)
/-- where it comes from -/
theorem jac_from (o : Ar) (v : Nat) : jac g c o v = o v ∨ ∃ l, l < gN g ∧ ((v = gF g l ∧ jac g c o v = o (gS g l) + c l) ∨ (v = gS g l ∧ jac g c o v = o (gF g l) + c l)) := by
  have h := fr_inv (step := jst g c o) (N := gN g) (fun _ d => d v = o v ∨ ∃ l, l < gN g ∧ ((v = gF g l ∧ d v = o (gS g l) + c l) ∨ (v = gS g l ∧ d v = o (gF g l) + c l))) (fun i d hi h => by
    have e : jst g c o i d v = d v ∨ (v = gF g i ∧ jst g c o i d v = o (gS g i) + c i) ∨ (v = gS g i ∧ jst g c o i d v = o (gF g i) + c i) := by
      unfold jst
      by_cases h1 : v = gF g i
      · by_cases h2 : v = gS g i
        · rw [if_pos h1, if_pos h2]; omega
        · rw [if_pos h1, if_neg h2]; omega
      · by_cases h2 : v = gS g i
        · rw [if_neg h1, if_pos h2]; omega
        · rw [if_neg h1, if_neg h2]; omega
    rcases e with e | e | e
    · rw [e]; exact h
    · exact Or.inr ⟨i, hi, Or.inl e⟩
    · exact Or.inr ⟨i, hi, Or.inr e⟩) (gN g) 0 o (by omega) (Or.inl rfl)
  exact h
theorem Nj_le (r v : Nat) : Nj g c b (r + 1) v ≤ Nj g c b r v := jac_le _ v
theorem Nj_mono {r s : Nat} (h : r ≤ s) (v : Nat) : Nj g c b s v ≤ Nj g c b r v := by
  induction s with
  | zero => have : r = 0 := by omega
            subst this; exact Nat.le_refl _
  | succ s ih =>
    by_cases e : r = s + 1
    · subst e; exact Nat.le_refl _
    · exact Nat.le_trans (Nj_le s v) (ih (by omega))
/-- a chain of changes, a round each -/
theorem chain (hg : OkG g) : ∀ (r v : Nat), v < gP g → Nj g c b (r + 1) v < Nj g c b r v → ∃ f : Nat → Nat, f (r + 1) = v ∧ ∀ j, 1 ≤ j → j ≤ r + 1 → f j < gP g ∧ Nj g c b j (f j) < Nj g c b (j - 1) (f j) ∧ (j ≤ r → Nj g c b j (f j) ≤ Nj g c b (j + 1) (f (j + 1)))
  | 0, v, hv, h => ⟨fun _ => v, rfl, fun j h1 h2 => by
      have : j = 1 := by omega
      subst this
      exact ⟨hv, h, fun h3 => by omega⟩⟩
  | r + 1, v, hv, h => by
    have hfrom : ∃ u l, l < gN g ∧ u < gP g ∧ Nj g c b (r + 2) v = Nj g c b (r + 1) u + c l ∧ Nj g c b (r + 1) v ≤ Nj g c b r u + c l := by
      rcases jac_from (g := g) (c := c) (Nj g c b (r + 1)) v with e | ⟨l, hl, ⟨e1, e2⟩ | ⟨e1, e2⟩⟩
      · have h' : jac g c (Nj g c b (r + 1)) v < Nj g c b (r + 1) v := h
        omega
      · refine ⟨gS g l, l, hl, (hg.2.2.2.2.2.2.2 l hl).2.1, e2, ?_⟩
        rw [e1]; exact jac_F _ hl
      · refine ⟨gF g l, l, hl, (hg.2.2.2.2.2.2.2 l hl).1, e2, ?_⟩
        rw [e1]; exact jac_S _ hl
    obtain ⟨u, l, hl, hu, e1, e2⟩ := hfrom
    have hlt : Nj g c b (r + 1) u < Nj g c b r u := by
      have h1 := Nj_le (g := g) (c := c) (b := b) r u
      have h2 : Nj g c b (r + 2) v < Nj g c b (r + 1) v := h
      omega
    obtain ⟨f, hf1, hf2⟩ := chain hg r u hu hlt
    refine ⟨fun j => if j = r + 2 then v else f j, by simp, fun j h1 h2 => ?_⟩
    by_cases hj : j = r + 2
    · subst hj
      simp only [if_true]
      exact ⟨hv, h, fun h3 => by omega⟩
    · have h3 := hf2 j h1 (by omega)
      simp only [hj, if_false]
      refine ⟨h3.1, h3.2.1, fun h4 => ?_⟩
      by_cases h5 : j + 1 = r + 2
      · have h6 : j = r + 1 := by omega
        subst h6
        simp only [if_true]
        rw [hf1]
        have : Nj g c b (r + 1 + 1) v = Nj g c b (r + 2) v := rfl
        omega
      · simp only [h5, if_false]
        exact h3.2.2 (by omega)
theorem Nj_b (r : Nat) : Nj g c b r b = 0 := by
  have h := Nj_mono (g := g) (c := c) (b := b) (Nat.zero_le r) b
  have h0 : Nj g c b 0 b = 0 := if_pos rfl
  omega
theorem Nj_stop (hg : OkG g) (hb : b < gP g) {v : Nat} (hv : v < gP g) : Nj g c b (gP g) v = Nj g c b (gP g - 1) v := by
  have h2 := hg.1
  obtain ⟨r, hr⟩ : ∃ r, gP g = r + 1 := ⟨gP g - 1, by omega⟩
  rw [hr, show r + 1 - 1 = r by omega]
  rcases Nat.lt_or_ge (Nj g c b (r + 1) v) (Nj g c b r v) with h | h
  · exfalso
    obtain ⟨f, -, hf⟩ := chain hg r v hv h
    have hne : ∀ j, 1 ≤ j → j ≤ r + 1 → f j ≠ b := fun j h1 h2 e => by
      have := (hf j h1 h2).2.1
      rw [e, Nj_b, Nj_b] at this
      omega
    have hup : ∀ (k i : Nat), 1 ≤ i → i + k ≤ r + 1 → Nj g c b i (f i) ≤ Nj g c b (i + k) (f (i + k)) := by
      intro k
      induction k with
      | zero => intro i _ _; exact Nat.le_refl _
      | succ k ih =>
        intro i h1 h3
        have h4 := ih i h1 (by omega)
        have h5 := (hf (i + k) (by omega) (by omega)).2.2 (by omega)
        exact Nat.le_trans h4 h5
    obtain ⟨i, j, hij, hj, he⟩ := fb_twice (m := r) (n := r + 1) (f := fun k => if f (k + 1) < b then f (k + 1) else f (k + 1) - 1) (fun k hk => by
      have h1 := (hf (k + 1) (by omega) (by omega)).1
      have h3 := hne (k + 1) (by omega) (by omega)
      show (if f (k + 1) < b then f (k + 1) else f (k + 1) - 1) < r
      split <;> omega) (by omega)
    have h1 := hne (i + 1) (by omega) (by omega)
    have h3 := hne (j + 1) (by omega) (by omega)
    have he2 : f (i + 1) = f (j + 1) := by
      have he : (if f (i + 1) < b then f (i + 1) else f (i + 1) - 1) = (if f (j + 1) < b then f (j + 1) else f (j + 1) - 1) := he
      split at he <;> split at he <;> omega
    have h4 := hup (j - i) (i + 1) (by omega) (by omega)
    rw [show i + 1 + (j - i) = j + 1 by omega] at h4
    have h5 := (hf (j + 1) (by omega) (by omega)).2.1
    rw [← he2, show j + 1 - 1 = j by omega] at h5
    have h6 := Nj_mono (g := g) (c := c) (b := b) (show i + 1 ≤ j by omega) (f (i + 1))
    rw [← he2] at h4
    omega
  · exact Nat.le_antisymm (Nj_le r v) h
/-- the shortest -/
def ds (g : Cfg) (c : Nat → Nat) (b : Nat) : Ar := Nj g c b (gP g - 1)
theorem ds_F (hg : OkG g) (hb : b < gP g) {l : Nat} (hl : l < gN g) : ds g c b (gF g l) ≤ ds g c b (gS g l) + c l := by
  have h2 := hg.1
  have h := Nj_stop (c := c) hg hb (hg.2.2.2.2.2.2.2 l hl).1
  unfold ds
  rw [← h, show gP g = gP g - 1 + 1 by omega]
  exact jac_F _ hl
theorem ds_S (hg : OkG g) (hb : b < gP g) {l : Nat} (hl : l < gN g) : ds g c b (gS g l) ≤ ds g c b (gF g l) + c l := by
  have h2 := hg.1
  have h := Nj_stop (c := c) hg hb (hg.2.2.2.2.2.2.2 l hl).2.1
  unfold ds
  rw [← h, show gP g = gP g - 1 + 1 by omega]
  exact jac_S _ hl
theorem rlx_le (l : Nat) (d : Ar) (v : Nat) : rlx g c l d v ≤ d v := by
  unfold rlx upn
  by_cases h1 : v = gS g l
  · subst h1
    rw [if_pos rfl]
    exact Nat.min_le_left _ _
  · rw [if_neg h1]
    by_cases h2 : v = gF g l
    · subst h2
      rw [if_pos rfl]
      exact Nat.min_le_left _ _
    · rw [if_neg h2]
      exact Nat.le_refl _
theorem rlx_F (hg : OkG g) {l : Nat} (hl : l < gN g) (d : Ar) : rlx g c l d (gF g l) ≤ d (gS g l) + c l := by
  have hne := (hg.2.2.2.2.2.2.2 l hl).2.2.1
  unfold rlx upn
  rw [if_neg hne, if_pos rfl]
  exact Nat.min_le_right _ _
theorem rlx_S (l : Nat) (d : Ar) : rlx g c l d (gS g l) ≤ d (gF g l) + c l := by
  unfold rlx upn
  rw [if_pos rfl, if_pos rfl]
  omega
theorem swd_le (d : Ar) (v : Nat) : swd g c d v ≤ d v := fr_le (fun i d v => rlx_le i d v) _ _ _ v
theorem itd_le : ∀ (k : Nat) (d : Ar) (v : Nat), it (swd g c) k d v ≤ d v
  | 0, _, _ => Nat.le_refl _
  | k + 1, d, v => Nat.le_trans (itd_le k _ v) (swd_le d v)
/-- a step never goes below the shortest -/
theorem rlx_ge (hg : OkG g) (hb : b < gP g) {l : Nat} (hl : l < gN g) {d : Ar} (h : ∀ v, ds g c b v ≤ d v) (v : Nat) : ds g c b v ≤ rlx g c l d v := by
  have h1 := ds_F (c := c) hg hb hl
  have h2 := ds_S (c := c) hg hb hl
  have hF := h (gF g l)
  have hS := h (gS g l)
  have hv := h v
  unfold rlx upn
  by_cases e1 : v = gS g l
  · subst e1
    rw [if_pos rfl, if_pos rfl]
    omega
  · rw [if_neg e1]
    by_cases e2 : v = gF g l
    · subst e2
      rw [if_pos rfl]
      omega
    · rw [if_neg e2]; exact hv
theorem swd_ge (hg : OkG g) (hb : b < gP g) {d : Ar} (h : ∀ v, ds g c b v ≤ d v) : ∀ v, ds g c b v ≤ swd g c d v :=
  fr_inv (step := rlx g c) (N := gN g) (fun _ d => ∀ v, ds g c b v ≤ d v) (fun i s hi h => rlx_ge hg hb hi h) (gN g) 0 d (by omega) h
theorem itd_ge (hg : OkG g) (hb : b < gP g) : ∀ (k : Nat) (d : Ar), (∀ v, ds g c b v ≤ d v) → ∀ v, ds g c b v ≤ it (swd g c) k d v
  | 0, _, h => h
  | k + 1, d, h => itd_ge hg hb k _ (swd_ge hg hb h)
theorem ds_D0 (v : Nat) : ds g c b v ≤ D0 b v := Nj_mono (Nat.zero_le _) v
/-- in place is no slower than all at once -/
theorem swd_dom (hg : OkG g) {d o : Ar} (h : ∀ v, d v ≤ o v) (v : Nat) : swd g c d v ≤ jac g c o v := by
  rcases jac_from (g := g) (c := c) o v with e | ⟨l, hl, ⟨e1, e2⟩ | ⟨e1, e2⟩⟩
  · rw [e]; exact Nat.le_trans (swd_le d v) (h v)
  · rw [e2, e1]
    have hS := h (gS g l)
    have : ∀ (k i : Nat) (d' : Ar), (∀ v, d' v ≤ d v) → i ≤ l → l < i + k → i + k ≤ gN g → fr (rlx g c) k i d' (gF g l) ≤ d (gS g l) + c l := by
      intro k
      induction k with
      | zero => intro i d' _ h1 h2; omega
      | succ k ih =>
        intro i d' hd h1 h2 h3
        by_cases e : i = l
        · subst e
          have h4 := fr_le (fun i d v => rlx_le (g := g) (c := c) i d v) k (i + 1) (rlx g c i d') (gF g i)
          have h5 := rlx_F (c := c) hg hl d'
          have h6 := hd (gS g i)
          show fr (rlx g c) k (i + 1) (rlx g c i d') (gF g i) ≤ _
          omega
        · exact ih (i + 1) _ (fun v => Nat.le_trans (rlx_le i d' v) (hd v)) (by omega) (by omega) (by omega)
    have h7 := this (gN g) 0 d (fun _ => Nat.le_refl _) (by omega) (by omega) (by omega)
    show fr (rlx g c) (gN g) 0 d (gF g l) ≤ _
    omega
  · rw [e2, e1]
    have hF := h (gF g l)
    have : ∀ (k i : Nat) (d' : Ar), (∀ v, d' v ≤ d v) → i ≤ l → l < i + k → fr (rlx g c) k i d' (gS g l) ≤ d (gF g l) + c l := by
      intro k
      induction k with
      | zero => intro i d' _ h1 h2; omega
      | succ k ih =>
        intro i d' hd h1 h2
        by_cases e : i = l
        · subst e
          have h4 := fr_le (fun i d v => rlx_le (g := g) (c := c) i d v) k (i + 1) (rlx g c i d') (gS g i)
          have h5 := rlx_S (g := g) (c := c) i d'
          have h6 := hd (gF g i)
          show fr (rlx g c) k (i + 1) (rlx g c i d') (gS g i) ≤ _
          omega
        · exact ih (i + 1) _ (fun v => Nat.le_trans (rlx_le i d' v) (hd v)) (by omega) (by omega)
    have h7 := this (gN g) 0 d (fun _ => Nat.le_refl _) (by omega) (by omega)
    show fr (rlx g c) (gN g) 0 d (gS g l) ≤ _
    omega
theorem it_succ {S : Type} (f : S → S) (n : Nat) (s : S) : it f (n + 1) s = f (it f n s) := it_add f n 1 s
theorem itd_dom (hg : OkG g) (r v : Nat) : it (swd g c) r (D0 b) v ≤ Nj g c b r v := by
  induction r generalizing v with
  | zero => exact Nat.le_refl _
  | succ r ih => rw [it_succ]; exact swd_dom hg ih v
theorem itd_ds (hg : OkG g) (hb : b < gP g) {r : Nat} (hr : gP g - 1 ≤ r) (v : Nat) : it (swd g c) r (D0 b) v = ds g c b v := by
  apply Nat.le_antisymm
  · have e : r = gP g - 1 + (r - (gP g - 1)) := by omega
    rw [e, it_add]
    exact Nat.le_trans (itd_le _ _ v) (itd_dom hg _ v)
  · exact itd_ge hg hb r _ ds_D0 v
/-- the next place on a shortest way -/
theorem ds_next (hg : OkG g) (hb : b < gP g) {v : Nat} (h : ds g c b v < 100000) (h0 : ¬ v = b) : ∃ l, l < gN g ∧ ((v = gF g l ∧ ds g c b v = ds g c b (gS g l) + c l) ∨ (v = gS g l ∧ ds g c b v = ds g c b (gF g l) + c l)) := by
  have key : ∀ r, r ≤ gP g - 1 → Nj g c b r v = ds g c b v → ∃ l, l < gN g ∧ ((v = gF g l ∧ ds g c b v = ds g c b (gS g l) + c l) ∨ (v = gS g l ∧ ds g c b v = ds g c b (gF g l) + c l)) := by
    intro r
    induction r with
    | zero =>
      intro _ e
      have : Nj g c b 0 v = 100000 := if_neg h0
      omega
    | succ r ih =>
      intro hr e
      rcases jac_from (g := g) (c := c) (Nj g c b r) v with e1 | ⟨l, hl, ⟨e1, e2⟩ | ⟨e1, e2⟩⟩
      · exact ih (by omega) (by have : Nj g c b (r + 1) v = Nj g c b r v := e1
                                omega)
      · refine ⟨l, hl, Or.inl ⟨e1, ?_⟩⟩
        have h1 : Nj g c b (r + 1) v = Nj g c b r (gS g l) + c l := e2
        have h2 := Nj_mono (g := g) (c := c) (b := b) (show r ≤ gP g - 1 by omega) (gS g l)
        have h3 := ds_F (c := c) hg hb hl
        rw [← e1] at h3
        have h4 : ds g c b (gS g l) ≤ Nj g c b r (gS g l) := h2
        omega
      · refine ⟨l, hl, Or.inr ⟨e1, ?_⟩⟩
        have h1 : Nj g c b (r + 1) v = Nj g c b r (gF g l) + c l := e2
        have h2 := Nj_mono (g := g) (c := c) (b := b) (show r ≤ gP g - 1 by omega) (gF g l)
        have h3 := ds_S (c := c) hg hb hl
        rw [← e1] at h3
        have h4 : ds g c b (gF g l) ≤ Nj g c b r (gF g l) := h2
        omega
  exact key (gP g - 1) (Nat.le_refl _) rfl
end DIST
