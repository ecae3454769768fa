section R31
variable {F : Nat} {μ : Mem} {g : Cfg} {m : Mo} {c : Nat → Nat} {b : Nat}
/-- where the model stands -/
def DM (μ : Mem) (D : Ar) (μ' : Mem) : Prop := Sc μ μ' ∧ ∀ v, v < 8 → gI μ' 180 v = nI (D v)
/-- costs, as the model asks for them -/
def cst (g : Cfg) (m : Mo) (p k l : Nat) : Nat := if (mC m).testBit l = true then 100000 else if k = 0 then (if gW g l < wd g m p then 100000 else 1) else wd g m p - gW g l
theorem cst_ok (hg : OkG g) (hm : OkM g m) {p k : Nat} (hp : p < gM g) : OkD g (cst g m p k) := fun l _ => by
  have := wd_le hg hm hp
  unfold cst
  split
  · omega
  · split
    · split <;> omega
    · omega
theorem M_costOf (h : VM μ g m) {p l k : Nat} (hp : p < gM g) (hl : l < gN g) (hk : k < 2) : f_X9_costOf F μ 166 (nI p) (nI l) (nI k) = some (nI (cst g m p k l)) := by
  have hg := h.2.2.1
  have w1 := wd_le hg h.2.2.2 hp
  have h9 := (hg.2.2.2.2.2.2.2 l hl).2.2.2.2
  obtain ⟨i1, i2, i3⟩ := ix8 hg hl
  have eW : gI μ (166 + 6) l = nI (gW g l) := (h.1.2.2.2.2.2 l hl).2.2
  obtain ⟨s1, s2⟩ := sub_cmp (a := wd g m p) (b := gW g l) (by omega) (by omega)
  unfold f_X9_costOf cst
  rw [M_closed h hl, M_wide h hp]
  simp only [Option.bind_some, i2, i3, eW, if_true, lt_eq, s2]
  by_cases b1 : (mC m).testBit l = true
  · simp only [b1, if_true, show ¬ (1 : Int32) = 0 by decide, if_false]; rfl
  · simp only [b1, if_true, if_false, Bool.false_eq_true]
    by_cases hk0 : k = 0
    · subst hk0
      simp only [show nI 0 = 0 from rfl, if_true]
      by_cases b2 : gW g l < wd g m p
      · simp only [b2, if_true]; rfl
      · simp only [b2, if_false]; rfl
    · have : k = 1 := by omega
      subst this
      simp only [show ¬ nI 1 = 0 by decide, hk0, if_false]
      by_cases b2 : gW g l < wd g m p
      · rw [if_pos b2, nI_sub (by omega)]
      · rw [if_neg b2, show wd g m p - gW g l = 0 by omega]; rfl
theorem M_sweep (hF : 5000 ≤ F) (h : VM μ g m) {p k : Nat} (hp : p < gM g) (hk : k < 2) {r : Nat} (x4 : Int32) (kk : Int32 → Mem → Option Mem) {μ' : Mem} (hd : DM μ (it (swd g (cst g m p k)) r (D0 b)) μ') : ∃ μ2, DM μ (it (swd g (cst g m p k)) (r + 1) (D0 b)) μ2 ∧ f_X9_measure_L48 F 166 (nI p) (nI k) x4 kk F 0 μ' = kk (nI (gN g)) μ2 := by
  have hg := h.2.2.1
  have h8 := hg.2.2.1
  have hc := cst_ok (k := k) hg h.2.2.2 hp
  rw [it_succ]
  exact for_rel (S := Mem) (f := fun n s i => f_X9_measure_L48 F 166 (nI p) (nI k) x4 kk n (nI i) s) (N := gN g) (k := fun s => kk (nI (gN g)) s) (fun l s => DM μ (fr (rlx g (cst g m p k)) l 0 (it (swd g (cst g m p k)) r (D0 b))) s)
    (fun n l s hl hs => by
      obtain ⟨hs0, hs2⟩ := hs
      have hM := VM_sc hs0 h
      obtain ⟨i1, i2, i3⟩ := ix8 hg hl
      have c1 : gI s (166 + 4) l = _ := (hM.1.2.2.2.2.2 l hl).1
      have c2 : gI s (166 + 5) l = _ := (hM.1.2.2.2.2.2 l hl).2.1
      have eN : gI s (166 + 3) 0 = nI (gN g) := hM.1.2.1
      obtain ⟨g1, g2, g3, -⟩ := hg.2.2.2.2.2.2.2 l hl
      have hP := hg.2.1
      have j1 : ix (nI (gF g l)) 8 = true := nI_ix (by omega) (by decide)
      have j2 : ix (nI (gS g l)) 8 = true := nI_ix (by omega) (by decide)
      have k1 : (nI (gF g l)).toNatClampNeg = gF g l := nI_clamp (by omega)
      have k2 : (nI (gS g l)).toNatClampNeg = gS g l := nI_clamp (by omega)
      have hB := Bd_fr hc (Bd_it hg hc b r) (l := l) (by omega)
      rw [fr_succ, Nat.zero_add]
      generalize fr (rlx g (cst g m p k)) l 0 (it (swd g (cst g m p k)) r (D0 b)) = D at hB hs2 ⊢
      have b1 := hB (gF g l)
      have b2 := hB (gS g l)
      have b3 := hc l hl
      refine ⟨sI (sI s 180 (gF g l) (nI (min (D (gF g l)) (D (gS g l) + cst g m p k l)))) 180 (gS g l) (nI (min (D (gS g l)) (min (D (gF g l)) (D (gS g l) + cst g m p k l) + cst g m p k l))), ⟨Sc_sI (Sc_sI hs0 (scr_q (by omega)) _) (scr_q (by omega)) _, ?_⟩, ?_⟩
      · rw [rlx_eq]
        exact up2 (e := fun x => x) hs2
      · show f_X9_measure_L48 F 166 (nI p) (nI k) x4 kk (n + 1) (nI l) s = _
        rw [f_X9_measure_L48, eN, if_pos (nI_lt hl (by omega)), M_costOf hM hp hl hk, Option.bind_some]
        simp only [i2, i3, c1, c2, j1, j2, k1, k2, if_true, lt_eq, hs2 _ (show gF g l < 8 by omega), hs2 _ (show gS g l < 8 by omega), gI_sI, true_and, and_true, if_pos, show (166 + 14 = 180) from rfl, Ne.symm g3, if_false, nI_add, nIs]
        have a1 := b1.1
        have a2 := b2.1
        have a3 := b3.1
        generalize cst g m p k l = cc at a3 ⊢
        generalize D (gF g l) = dF at a1 ⊢
        generalize D (gS g l) = dS at a2 ⊢
        simp (disch := omega) only [nI_ltI]
        by_cases t1 : dS + cc < dF
        · rw [if_pos t1, show min dF (dS + cc) = dS + cc by omega]
          rw [if_neg (show ¬ dS + cc + cc < dS by omega), show min dS (dS + cc + cc) = dS by omega]
        · rw [if_neg t1, show min dF (dS + cc) = dF by omega]
          by_cases t2 : dF + cc < dS
          · rw [if_pos t2, show min dS (dF + cc) = dF + cc by omega]
          · rw [if_neg t2, show min dS (dF + cc) = dS by omega])
    (fun n s hs => by
      have hM := VM_sc hs.1 h
      have eN : gI s (166 + 3) 0 = nI (gN g) := hM.1.2.1
      show f_X9_measure_L48 F 166 (nI p) (nI k) x4 kk (n + 1) (nI (gN g)) s = _
      rw [f_X9_measure_L48, eN, if_neg (nI_nlt (Nat.le_refl _) (by omega))])
    (gN g) F 0 μ' (by omega) (by omega) hd
theorem M_measure (hF : 5000 ≤ F) (h : VM μ g m) {p k : Nat} (hp : p < gM g) (hk : k < 2) (hb : b < gP g) : ∃ μ2, DM μ (ds g (cst g m p k) b) μ2 ∧ f_X9_measure F μ 166 (nI p) (nI b) (nI k) = some μ2 := by
  have hg := h.2.2.1
  have hP := hg.2.1
  unfold f_X9_measure
  obtain ⟨μ1, h1, e1⟩ := for_rel (S := Mem) (f := fun n s i => f_X9_measure_L3 F 166 (nI p) (nI b) (nI k) (fun x4_3 μ_4 => f_X9_measure_L38 F 166 (nI p) (nI k) (fun x4_16 μ_17 => some μ_17) F 0 μ_4) n (nI i) s) (N := 8) (k := fun s => f_X9_measure_L38 F 166 (nI p) (nI k) (fun x4_16 μ_17 => some μ_17) F 0 s) (fun i s => Sc μ s ∧ ∀ v, v < i → gI s 180 v = nI (D0 b v))
    (fun n i s hi hs => by
      have j1 : ix (nI i) 8 = true := nI_ix (by omega) (by decide)
      have k1 : (nI i).toNatClampNeg = i := nI_clamp (by omega)
      refine ⟨sI s 180 i (nI (D0 b i)), ⟨Sc_sI hs.1 (scr_q (by omega)) _, fun v hv => ?_⟩, ?_⟩
      · rw [gI_sI]
        by_cases e : v = i
        · rw [if_pos ⟨rfl, e⟩, e]
        · rw [if_neg (fun z => e z.2)]; exact hs.2 v (by omega)
      · show f_X9_measure_L3 F 166 (nI p) (nI b) (nI k) _ (n + 1) (nI i) s = _
        rw [f_X9_measure_L3, if_pos (show nI i < (8 : Int32) from nI_lt hi (by decide))]
        simp only [j1, k1, if_true, lt_eq, nI_1]
        simp (disch := omega) only [nI_eq]
        by_cases e : i = b
        · rw [if_pos e]; unfold D0; rw [if_pos e]; rfl
        · rw [if_neg e]; unfold D0; rw [if_neg e]; rfl)
    (fun n s hs => by
      show f_X9_measure_L3 F 166 (nI p) (nI b) (nI k) _ (n + 1) (nI 8) s = _
      rw [f_X9_measure_L3, if_neg (show ¬ nI 8 < (8 : Int32) from nI_nlt (Nat.le_refl _) (by decide))])
    8 F 0 μ (by omega) (by omega) ⟨Sc_rfl μ, fun v hv => by omega⟩
  refine (show ∃ μ2, DM μ (ds g (cst g m p k) b) μ2 ∧ f_X9_measure_L3 F 166 (nI p) (nI b) (nI k) (fun x4_3 μ_4 => f_X9_measure_L38 F 166 (nI p) (nI k) (fun x4_16 μ_17 => some μ_17) F 0 μ_4) F (nI 0) μ = some μ2 from ?_)
  have e1 : f_X9_measure_L3 F 166 (nI p) (nI b) (nI k) (fun x4_3 μ_4 => f_X9_measure_L38 F 166 (nI p) (nI k) (fun x4_16 μ_17 => some μ_17) F 0 μ_4) F (nI 0) μ = _ := e1
  rw [e1]
  obtain ⟨μ2, h2, e2⟩ := for_rel (S := Mem) (f := fun n s i => f_X9_measure_L38 F 166 (nI p) (nI k) (fun x4_16 μ_17 => some μ_17) n (nI i) s) (N := 8) (k := fun s => some s) (fun i s => DM μ (it (swd g (cst g m p k)) i (D0 b)) s)
    (fun n i s hi hs => by
      obtain ⟨s2, h3, e3⟩ := M_sweep (b := b) hF h hp hk (r := i) (nI i) (fun x5_14 μ_15 => f_X9_measure_L38 F 166 (nI p) (nI k) (fun x4_16 μ_17 => some μ_17) n (nI (i + 1)) μ_15) hs
      refine ⟨s2, h3, ?_⟩
      show f_X9_measure_L38 F 166 (nI p) (nI k) _ (n + 1) (nI i) s = _
      rw [f_X9_measure_L38, if_pos (show nI i < (8 : Int32) from nI_lt hi (by decide)), nI_1, e3])
    (fun n s hs => by
      show f_X9_measure_L38 F 166 (nI p) (nI k) _ (n + 1) (nI 8) s = _
      rw [f_X9_measure_L38, if_neg (show ¬ nI 8 < (8 : Int32) from nI_nlt (Nat.le_refl _) (by decide))])
    8 F 0 μ1 (by omega) (by omega) h1
  refine ⟨μ2, ⟨h2.1, fun v hv => ?_⟩, e2⟩
  rw [h2.2 v hv, itd_ds hg hb (by omega)]
end R31
