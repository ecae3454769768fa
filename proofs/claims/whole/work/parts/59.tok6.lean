section R59
variable {F : Nat} {μ : Mem} {tx : List Nat}
/-- the model stands at the token that begins from pos -/
def MAt (tx : List Nat) (pos : Nat) (μ : Mem) : Prop := pos ≤ tx.length ∧ gI μ 166 14 = nI (tk tx pos).2.2.2 ∧ gI μ 166 15 = nI (tk tx pos).1 ∧ gI μ 166 16 = nI (kM (tk tx pos)) ∧ ((tk tx pos).2.1 = 2 → gI μ 166 17 = nI (tk tx pos).2.2.1)
theorem MAt_of {μ1 : Mem} {pos : Nat} (hp : pos ≤ tx.length) (h : RdM μ μ1 (tk tx pos)) : MAt tx pos μ1 := ⟨hp, h.2.1, h.2.2.1, h.2.2.2.1, h.2.2.2.2⟩
theorem kM_lt {pos : Nat} (hp : pos ≤ tx.length) : kM (tk tx pos) < 1000 := by
  obtain ⟨k1, k2, k3, k4, k5, k6, k7⟩ := tk_ok (tx := tx) hp
  unfold kM
  split
  · omega
  · split
    · rename_i e; have := k6 e; omega
    · split
      · omega
      · split <;> omega
theorem M_number (hF : 5000 ≤ F) (h0 : TxM tx μ) (ho : OkT tx) {pos lo hi : Nat} (hl : lo < 1000) (hh : hi < 1000) (hm : MAt tx pos μ) (e8 : gI μ 166 18 = -9) :
    (okNum (tk tx pos) lo hi ∧ ∃ μ1, f_X9_number F μ 166 (nI lo) (nI hi) = some (nI (tk tx pos).2.2.1, μ1) ∧ Om μ μ1 ∧ MAt tx (tk tx pos).2.2.2 μ1) ∨
    (¬ okNum (tk tx pos) lo hi ∧ f_X9_number F μ 166 (nI lo) (nI hi) = some (gI μ 166 17, sI μ 166 18 (nI (tk tx pos).1))) := by
  obtain ⟨hp, m1, m2, m3, m4⟩ := hm
  obtain ⟨k1, k2, k3, k4, k5, k6, k7⟩ := tk_ok (tx := tx) hp
  have hk := kM_lt hp
  have hf : f_X9_due F μ 166 0 = some (gI μ 166 17, sI μ 166 18 (nI (tk tx pos).1)) := by rw [M_dueF e8, m2]
  unfold f_X9_number
  rw [m3]
  by_cases c1 : (tk tx pos).2.1 = 2
  · have e4 := m4 c1
    have hv := k5 c1
    rw [if_pos (show nI (kM (tk tx pos)) = (1 : Int32) by rw [(kM_num hp).mpr c1]; rfl)]
    have ein : f_X9_in F μ (gI μ 166 17) (nI lo) (nI hi) = some (if lo ≤ (tk tx pos).2.2.1 ∧ (tk tx pos).2.2.1 ≤ hi then 1 else 0) := by
      rw [e4]
      unfold f_X9_in
      simp (disch := omega) only [nI_ltI]
      by_cases c1 : (tk tx pos).2.2.1 < lo
      · rw [if_pos c1, if_neg (by omega)]
      · rw [if_neg c1]
        by_cases c2 : hi < (tk tx pos).2.2.1
        · rw [if_pos c2, if_neg (by omega)]
        · rw [if_neg c2, if_pos (by omega)]
    rw [ein, Option.bind_some]
    by_cases c2 : lo ≤ (tk tx pos).2.2.1 ∧ (tk tx pos).2.2.1 ≤ hi
    · left
      refine ⟨⟨c1, c2⟩, ?_⟩
      obtain ⟨μ1, f1, r⟩ := M_dueT hF h0 ho k3 m1 e8
      rw [if_pos c2, if_neg (show ¬ (1 : Int32) = 0 by decide), f1, bW_some, e4]
      exact ⟨μ1, rfl, r.1, MAt_of k3 r⟩
    · right
      refine ⟨fun z => c2 z.2, ?_⟩
      rw [if_neg c2, if_pos (rfl : (0 : Int32) = 0), hf, bW_some]
  · right
    refine ⟨fun z => c1 z.1, ?_⟩
    rw [if_neg (show ¬ nI (kM (tk tx pos)) = (1 : Int32) from fun z => c1 ((kM_num hp).mp ((nI_eq (b := 1) (by omega) (by decide)).mp z))), hf, bW_some]
/-- after a fault nothing is asked for any more -/
theorem M_number9 (e8 : ¬ gI μ 166 18 = -9) (lo hi : Int32) : f_X9_number F μ 166 lo hi = some (gI μ 166 17, μ) := by
  have hd : ∀ x, f_X9_due F μ 166 x = some (gI μ 166 17, μ) := fun x => by
    unfold f_X9_due
    rw [if_neg e8]
  unfold f_X9_number f_X9_in
  simp only [hd, bW_some, ite_self]
  split
  · split
    · rfl
    · split
      · rfl
      · rfl
  · rfl
end R59
