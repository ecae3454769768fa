/-! capital: drafts, frames, a number on both sides -/
abbrev Dr : Type := Cfg × ((Nat → Nat) × (Nat → Nat)) × (Bool × Bool)
def DrC (d : Nat) (μ : Mem) (D : Dr) : Prop := CfgC μ d D.1 ∧ (∀ p, p < gM D.1 → gI μ (d + 4) p = nI (D.2.1.1 p) ∧ gI μ (d + 5) p = nI (D.2.1.2 p)) ∧ gI μ 1 5 = (if D.2.2.1 = true then 1 else 0) ∧ gI μ 1 6 = (if D.2.2.2 = true then 1 else 0)
def DrM (μ : Mem) (D : Dr) : Prop := (gI μ 168 1 = nI (gP D.1) ∧ gI μ 169 1 = nI (gN D.1) ∧ gI μ 173 1 = nI (gM D.1) ∧ gI μ 176 1 = nI (gB D.1) ∧ gI μ 177 1 = nI (gE D.1)) ∧ (∀ l, l < gN D.1 → gI μ 170 (8 + l) = nI (gF D.1 l) ∧ gI μ 171 (8 + l) = nI (gS D.1 l) ∧ gI μ 172 (8 + l) = nI (gW D.1 l)) ∧ (∀ p, p < gM D.1 → gI μ 174 p = nI (D.2.1.1 p) ∧ gI μ 175 p = nI (D.2.1.2 p)) ∧ gI μ 166 13 = nI ((if D.2.2.1 = true then 1 else 0) + (if D.2.2.2 = true then 2 else 0))
def OkDr (D : Dr) : Prop := OkG D.1 ∧ ∀ p, p < gM D.1 → D.2.1.1 p ≤ 9 ∧ D.2.1.2 p < gP D.1
def FrC (d : Nat) (μ μ' : Mem) : Prop := ∀ a, a ≠ 1 → ¬ (d ≤ a ∧ a ≤ d + 5) → Sm μ μ' a
def Drf (q j : Nat) : Prop := (q = 166 ∧ 13 ≤ j ∧ j ≤ 18) ∨ ((q = 168 ∨ q = 169 ∨ q = 173 ∨ q = 176 ∨ q = 177) ∧ j = 1) ∨ ((q = 170 ∨ q = 171 ∨ q = 172) ∧ 8 ≤ j) ∨ q = 174 ∨ q = 175
def FrM (μ μ' : Mem) : Prop := (∀ q j, gR μ' q j = gR μ q j) ∧ (∀ q, gL μ' q = gL μ q) ∧ ∀ q j, ¬ Drf q j → gI μ' q j = gI μ q j
theorem FrC_rfl (d : Nat) (μ : Mem) : FrC d μ μ := fun a _ _ => Sm_rfl μ a
theorem FrC_tr {d : Nat} {μ μ1 μ2 : Mem} (h1 : FrC d μ μ1) (h2 : FrC d μ1 μ2) : FrC d μ μ2 := fun a x y => Sm_tr (h1 a x y) (h2 a x y)
theorem FrC_off {d : Nat} {μ μ1 : Mem} (h : Off 1 2 μ μ1) : FrC d μ μ1 := fun a x _ => h a (by omega)
theorem FrC_sI {d : Nat} {μ μ1 : Mem} (h : FrC d μ μ1) {q : Nat} (hq : q = 1 ∨ (d ≤ q ∧ q ≤ d + 5)) (j : Nat) (x : Int32) : FrC d μ (sI μ1 q j x) := fun a u v => Sm_tr (h a u v) (sI_off a (by omega))
theorem FrM_rfl (μ : Mem) : FrM μ μ := ⟨fun _ _ => rfl, fun _ => rfl, fun _ _ _ => rfl⟩
theorem FrM_tr {μ μ1 μ2 : Mem} (h1 : FrM μ μ1) (h2 : FrM μ1 μ2) : FrM μ μ2 := ⟨fun q j => (h2.1 q j).trans (h1.1 q j), fun q => (h2.2.1 q).trans (h1.2.1 q), fun q j h => (h2.2.2 q j h).trans (h1.2.2 q j h)⟩
theorem FrM_om {μ μ1 : Mem} (h : Om μ μ1) : FrM μ μ1 := ⟨h.1, h.2.1, fun q j z => h.2.2 q j (fun y => z (Or.inl (by omega)))⟩
theorem FrM_sI {μ μ1 : Mem} (h : FrM μ μ1) {q j : Nat} (hq : Drf q j) (x : Int32) : FrM μ (sI μ1 q j x) := ⟨h.1, h.2.1, fun a i z => by
  rw [gI_sI, if_neg (fun y => z (by rw [y.1, y.2]; exact hq))]
  exact h.2.2 a i z⟩
section R63
variable {F d : Nat} {μ μ' : Mem} {tx : List Nat} {pos : Nat} {D : Dr}
theorem TxC_fr {μ1 : Mem} (hd : 4 ≤ d) (h : FrC d μ μ1) (ht : TxC tx μ) : TxC tx μ1 := ⟨((h 2 (by decide) (by omega)).1 1).trans ht.1, fun i hi => ((h 3 (by decide) (by omega)).1 i).trans (ht.2 i hi)⟩
theorem TxM_fr {μ1 : Mem} (h : FrM μ μ1) (ht : TxM tx μ) : TxM tx μ1 := ⟨(h.2.2 166 2 (by unfold Drf; omega)).trans ht.1, fun i hi => by rw [h.2.2 167 i (by unfold Drf; omega)]; exact ht.2 i hi⟩
/-- the class stands behind a token, the model at the next -/
def CAt (d : Nat) (tx : List Nat) (pos : Nat) (D : Dr) (μ : Mem) : Prop := TxC tx μ ∧ gI μ 1 1 = nI pos ∧ DrC d μ D
def MSt (tx : List Nat) (pos : Nat) (D : Dr) (μ : Mem) : Prop := TxM tx μ ∧ MAt tx pos μ ∧ gI μ 166 18 = -9 ∧ DrM μ D
theorem DrC_rd {μ1 : Mem} {t : Nat × Nat × Nat × Nat} (hd : 4 ≤ d) (h : RdC μ μ1 t) (hD : DrC d μ D) : DrC d μ1 D := by
  obtain ⟨o, -, -, -, -, h5, h6⟩ := h
  obtain ⟨c, p, x, y⟩ := hD
  refine ⟨CfgC_sm (fun k hk => o _ (by omega)) c, fun q hq => ?_, h5.trans x, h6.trans y⟩
  rw [(o (d + 4) (by omega)).1, (o (d + 5) (by omega)).1]
  exact p q hq
theorem DrM_om {μ1 : Mem} (h : Om μ μ1) (hD : DrM μ D) : DrM μ1 D := by
  have e : ∀ q j, ¬ (q = 166 ∧ 14 ≤ j ∧ j ≤ 17) → gI μ1 q j = gI μ q j := h.2.2
  unfold DrM
  simp (disch := omega) only [e]
  exact hD
/-- a number on both sides -/
theorem num_two (hF : 5000 ≤ F) (hd : 4 ≤ d) (ho : OkT tx) (hc : CAt d tx pos D μ) (hm : MSt tx pos D μ') {lo hi : Nat} (hl : lo < 1000) (hh : hi < 1000) :
    (∃ v p' μ1 μ2, lo ≤ v ∧ v ≤ hi ∧ v ≤ 99 ∧ pos < p' ∧ f_X4_isNumber F μ 1 (nI lo) (nI hi) = some (1, μ1) ∧ gI μ1 1 4 = nI v ∧ f_X9_number F μ' 166 (nI lo) (nI hi) = some (nI v, μ2) ∧ FrC d μ μ1 ∧ FrM μ' μ2 ∧ CAt d tx p' D μ1 ∧ MSt tx p' D μ2 ∧ Off 1 2 μ μ1 ∧ Om μ' μ2) ∨
    (∃ s v μ1, s ≤ 150 ∧ f_X4_isNumber F μ 1 (nI lo) (nI hi) = some (0, μ1) ∧ gI μ1 1 2 = nI s ∧ f_X9_number F μ' 166 (nI lo) (nI hi) = some (v, sI μ' 166 18 (nI s)) ∧ FrC d μ μ1) := by
  obtain ⟨c1, c2, c3⟩ := hc
  obtain ⟨m1, m2, m3, m4⟩ := hm
  have hp := m2.1
  have h1 := ho.1
  obtain ⟨k1, k2, k3, k4, k5, k6, k7⟩ := tk_ok (tx := tx) hp
  obtain ⟨v, μ1, f1, r1, hv⟩ := C_isNumber hF c1 ho hp hl hh c2
  rcases M_number hF m1 ho hl hh m2 m3 with ⟨n1, μ2, f2, o2, a2⟩ | ⟨n1, f2⟩
  · left
    rcases hv with ⟨rfl, -⟩ | ⟨-, z⟩
    · obtain ⟨q1, q2, q3⟩ := n1
      have := k4 (by omega)
      refine ⟨_, (tk tx pos).2.2.2, μ1, μ2, q2, q3, k5 q1, by omega, f1, r1.2.2.2.2.1 (Or.inr q1), f2, FrC_off r1.1, FrM_om o2, ⟨TxC_off r1.1 c1, r1.2.1, DrC_rd hd r1 c3⟩, ⟨TxM_om o2 m1, a2, ?_, DrM_om o2 m4⟩, r1.1, o2⟩
      rw [o2.2.2 166 18 (by omega)]; exact m3
    · exact absurd n1 z
  · right
    rcases hv with ⟨-, z⟩ | ⟨rfl, -⟩
    · exact absurd z n1
    · exact ⟨(tk tx pos).1, _, μ1, by omega, f1, r1.2.2.1, f2, FrC_off r1.1⟩
/-- an item, read on both sides: both go on, or both stop at the same token -/
def ItemR (d : Nat) (tx : List Nat) (pos : Nat) (μ μ' : Mem) (o : Option (Int32 × Mem)) (o' : Option Mem) : Prop :=
  (∃ D' p' μ1 μ2, o = some (1, μ1) ∧ o' = some μ2 ∧ FrC d μ μ1 ∧ FrM μ' μ2 ∧ pos < p' ∧ OkDr D' ∧ CAt d tx p' D' μ1 ∧ MSt tx p' D' μ2) ∨
  (∃ s μ1 μ2, s ≤ 150 ∧ o = some (0, μ1) ∧ o' = some μ2 ∧ FrC d μ μ1 ∧ FrM μ' μ2 ∧ gI μ1 1 2 = nI s ∧ gI μ2 166 18 = nI s)
end R63
