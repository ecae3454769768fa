section R41
variable {F W P : Nat} {wd' : Nat → Nat}
/-- the best code, the first of those with fewest rows -/
def Zv (W : Nat) (wd' : Nat → Nat) (P c : Nat) : Option Nat := val W wd' P P 0 (fun _ => 0) c
def Bst (W : Nat) (wd' : Nat → Nat) (P M c R : Nat) : Prop := c < M ∧ Zv W wd' P c = some R ∧ (∀ c', c' < M → ∀ n, Zv W wd' P c' = some n → R ≤ n) ∧ ∀ c', c' < c → ∀ n, Zv W wd' P c' = some n → R < n
theorem Bst_eq {M c R c' R' : Nat} (h : Bst W wd' P M c R) (h' : Bst W wd' P M c' R') : c = c' ∧ R = R' := by
  obtain ⟨a1, a2, a3, a4⟩ := h
  obtain ⟨b1, b2, b3, b4⟩ := h'
  have e1 := a3 _ b1 _ b2
  have e2 := b3 _ a1 _ a2
  refine ⟨?_, by omega⟩
  rcases Nat.lt_trichotomy c c' with z | z | z
  · have := b4 _ z _ a2; omega
  · exact z
  · have := a4 _ z _ b2; omega
theorem fill_ok (hF : 5000 ≤ F) (hP : P ≤ 5) (hW : W ≤ 99) (hwd : ∀ p, p < P → wd' p ≤ 27) {μ : Mem} (h3 : gI μ 70 3 = nI P) (h4 : gI μ 70 4 = nI W) (hwid : ∀ q, q < P → gI μ 71 q = nI (wd' q)) : ∃ v μ', f_X6_fill F μ 70 = some (v, μ') ∧ Fq μ μ' ∧ ((v = -9 ∧ ∀ c, c < 5 ^ P → Zv W wd' P c = none) ∨ ∃ c R, v = nI R ∧ R ≤ P ∧ Bst W wd' P (5 ^ P) c R ∧ ∀ j, j < P → gI μ' 72 j = nI (dg P c j)) := by
  have key : ∀ (d n R : Nat) (μ' : Mem), R + d = P + 1 → d < n → Fq μ μ' → (∀ c, c < 5 ^ P → ∀ n, Zv W wd' P c = some n → R ≤ n) → ∃ v μ2, f_X6_fill_L2 F 70 (fun x1_7 μ_8 => some ((-9), μ_8)) n (nI R) μ' = some (v, μ2) ∧ Fq μ μ2 ∧ ((v = -9 ∧ ∀ c, c < 5 ^ P → Zv W wd' P c = none) ∨ ∃ c R, v = nI R ∧ R ≤ P ∧ Bst W wd' P (5 ^ P) c R ∧ ∀ j, j < P → gI μ2 72 j = nI (dg P c j)) := by
    intro d
    induction d with
    | zero =>
      intro n R μ' hd hn hf hno
      obtain ⟨n, rfl⟩ : ∃ j, n = j + 1 := ⟨n - 1, by omega⟩
      rw [f_X6_fill_L2, hf.2.2 70 3 (by omega) (by omega), h3, if_pos (nI_lt (by omega) (by omega))]
      refine ⟨_, μ', rfl, hf, Or.inl ⟨rfl, fun c hc => ?_⟩⟩
      cases hz : Zv W wd' P c with
      | none => rfl
      | some n =>
        have h1 := hno c hc n hz
        have h2 := (val_ge _ _ _ _ _ hz).2
        omega
    | succ d ih =>
      intro n R μ' hd hn hf hno
      obtain ⟨n, rfl⟩ : ∃ j, n = j + 1 := ⟨n - 1, by omega⟩
      rw [f_X6_fill_L2, hf.2.2 70 3 (by omega) (by omega), h3, if_neg (nI_nlt (by omega) (by omega))]
      have hz0 : nI 0 = 0 := rfl
      obtain ⟨μ2, ⟨f2, r2⟩, e2⟩ := for_rel (S := Mem) (f := fun n' s i => f_X6_fill_L12 F 70 (nI R) (fun x2_2 μ_3 => bW (f_X6_seat F μ_3 70 0 0 (nI R)) (fun v_4 μ_5 => (if v_4 = 0 then f_X6_fill_L2 F 70 (fun x1_7 μ_8 => some ((-9), μ_8)) n (nI R + 1) μ_5 else some (nI R, μ_5)))) n' (nI i) s) (N := R) (k := fun s => bW (f_X6_seat F s 70 0 0 (nI R)) (fun v_4 μ_5 => (if v_4 = 0 then f_X6_fill_L2 F 70 (fun x1_7 μ_8 => some ((-9), μ_8)) n (nI R + 1) μ_5 else some (nI R, μ_5)))) (fun i s => Fq μ s ∧ ∀ r, r < i → gI s 73 r = nI W)
        (fun n' i s hi hs => by
          have j1 : ix (nI i) 5 = true := nI_ix (by omega) (by decide)
          have j2 : (nI i).toNatClampNeg = i := nI_clamp (by omega)
          refine ⟨sI s 73 i (nI W), ⟨Fq_sI hs.1 (Or.inr rfl) _ _, fun r hr => ?_⟩, ?_⟩
          · rw [gI_sI]
            by_cases e : r = i
            · rw [if_pos ⟨rfl, e⟩]
            · rw [if_neg (by omega)]; exact hs.2 r (by omega)
          · show f_X6_fill_L12 F 70 (nI R) _ (n' + 1) (nI i) s = _
            rw [f_X6_fill_L12, if_pos (nI_lt hi (by omega)), if_pos j1, lt_eq, j2, hs.1.2.2 70 4 (by omega) (by omega), h4, nI_1 i])
        (fun n' s hs => by
          show f_X6_fill_L12 F 70 (nI R) _ (n' + 1) (nI R) s = _
          rw [f_X6_fill_L12, if_neg (nI_nlt (Nat.le_refl _) (by omega))])
        R F 0 μ' (by omega) (by omega) ⟨hf, fun r hr => by omega⟩
      have e2 : f_X6_fill_L12 F 70 (nI R) (fun x2_2 μ_3 => bW (f_X6_seat F μ_3 70 0 0 (nI R)) (fun v_4 μ_5 => (if v_4 = 0 then f_X6_fill_L2 F 70 (fun x1_7 μ_8 => some ((-9), μ_8)) n (nI R + 1) μ_5 else some (nI R, μ_5)))) F 0 μ' = _ := e2
      rw [e2]
      obtain ⟨v, μ4, e4, f4, -, hcase⟩ := seat_ok (rows := R) hF hP (by omega) hW hwd P 8 0 0 (fun _ => 0) μ2 (by omega) (by omega) (by omega) ((f2.2.2 70 3 (by omega) (by omega)).trans h3) (fun q hq => (f2.2.2 71 q (by omega) (by omega)).trans (hwid q hq)) (fun r hr => ⟨Nat.zero_le _, r2 r hr⟩) (by omega)
      have e4 : f_X6_seat F μ2 70 0 0 (nI R) = some (v, μ4) := e4
      rw [e4, bW_some]
      rcases hcase with ⟨hv, -, n4⟩ | ⟨hv, c, c1, c2, c3, c4⟩
      · subst hv
        rw [if_pos rfl, nI_1]
        refine ih n (R + 1) μ4 (by omega) (by omega) (Fq_tr f2 f4) (fun c hc n' hz => ?_)
        have h1 := hno c hc n' hz
        rcases Nat.lt_or_ge R n' with z | z
        · exact z
        · exact absurd ⟨n', hz, z⟩ (n4 c hc)
      · subst hv
        rw [if_neg (by decide)]
        obtain ⟨nn, z1, z2⟩ := c2
        have z3 := hno c c1 nn z1
        have : nn = R := by omega
        subst this
        refine ⟨_, μ4, rfl, Fq_tr f2 f4, Or.inr ⟨c, nn, rfl, by omega, ⟨c1, z1, hno, fun c' hc' n' hz => ?_⟩, fun j hj => ?_⟩⟩
        · rcases Nat.lt_or_ge nn n' with z | z
          · exact z
          · exact absurd ⟨n', hz, z⟩ (c3 c' hc')
        · have := c4 j hj
          rw [Nat.zero_add] at this
          exact this
  exact key (P + 1) F 0 μ (by omega) (by omega) (Fq_rfl μ) (fun c _ n _ => Nat.zero_le n)
end R41
