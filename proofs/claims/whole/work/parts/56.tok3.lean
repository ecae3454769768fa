/-! the model's tokens -/
def Om (μ μ' : Mem) : Prop := (∀ q j, gR μ' q j = gR μ q j) ∧ (∀ q, gL μ' q = gL μ q) ∧ ∀ q j, ¬ (q = 166 ∧ 14 ≤ j ∧ j ≤ 17) → gI μ' q j = gI μ q j
theorem Om_rfl (μ : Mem) : Om μ μ := ⟨fun _ _ => rfl, fun _ => rfl, fun _ _ _ => rfl⟩
theorem Om_tr {μ μ1 μ2 : Mem} (h1 : Om μ μ1) (h2 : Om μ1 μ2) : Om μ μ2 := ⟨fun q j => (h2.1 q j).trans (h1.1 q j), fun q => (h2.2.1 q).trans (h1.2.1 q), fun q j h => (h2.2.2 q j h).trans (h1.2.2 q j h)⟩
theorem Om_sI {μ μ1 : Mem} (h : Om μ μ1) {j : Nat} (hj : 14 ≤ j ∧ j ≤ 17) (x : Int32) : Om μ (sI μ1 166 j x) := ⟨h.1, h.2.1, fun a i z => by
  rw [gI_sI, if_neg (by omega)]
  exact h.2.2 a i z⟩
def mvV (tx : List Nat) : Nat → Nat → Nat → Nat
  | 0, _, v => v
  | k + 1, i, v => mvV tx k (i + 1) (if 99 < v then v else 10 * v + tx.getD i 0 - 48)
def kM (t : Nat × Nat × Nat × Nat) : Nat := if t.2.1 = 0 then 3 else if t.2.1 = 1 then t.2.2.1 else if t.2.1 = 2 then 1 else if t.2.1 = 3 then 2 else 4
def RdM (μ μ1 : Mem) (t : Nat × Nat × Nat × Nat) : Prop := Om μ μ1 ∧ gI μ1 166 14 = nI t.2.2.2 ∧ gI μ1 166 15 = nI t.1 ∧ gI μ1 166 16 = nI (kM t) ∧ (t.2.1 = 2 → gI μ1 166 17 = nI t.2.2.1)
section R56
variable {F : Nat} {μ : Mem} {tx : List Nat}
theorem TxM_om {μ' : Mem} (h : Om μ μ') (ht : TxM tx μ) : TxM tx μ' := ⟨(h.2.2 166 2 (by omega)).trans ht.1, fun i hi => by rw [h.2.2 167 i (by omega)]; exact ht.2 i hi⟩
theorem here_in (h : TxM tx μ) (ho : OkT tx) {i : Nat} (hi : i < tx.length) (e : gI μ 166 14 = nI i) : f_X9_here F μ 166 = some (nI (tx.getD i 0)) := by
  have h1 := ho.1
  unfold f_X9_here
  rw [e, h.1, if_pos (nI_lt hi (by omega)), if_pos (nI_ix (by omega) (by decide)), nI_clamp (by omega)]
  exact congrArg some (h.2 i hi)
theorem here_out (h : TxM tx μ) (ho : OkT tx) {i : Nat} (hi : tx.length ≤ i) (hi2 : i < 1000) (e : gI μ 166 14 = nI i) : f_X9_here F μ 166 = some (-1) := by
  have h1 := ho.1
  unfold f_X9_here
  rw [e, h.1, if_neg (nI_nlt hi (by omega))]
theorem in_byte {x lo hi : Nat} (hx : x < 256) (hl : lo < 256) (hh : hi < 256) : f_X9_in F μ (nI x) (nI lo) (nI hi) = some (if lo ≤ x ∧ x ≤ hi then 1 else 0) := by
  unfold f_X9_in
  simp (disch := omega) only [nI_ltI]
  by_cases c1 : x < lo
  · rw [if_pos c1, if_neg (by omega)]
  · rw [if_neg c1]
    by_cases c2 : hi < x
    · rw [if_pos c2, if_neg (by omega)]
    · rw [if_neg c2, if_pos (by omega)]
theorem in_neg {lo hi : Nat} (hl : lo < 256) : f_X9_in F μ (-1) (nI lo) (nI hi) = some 0 := by
  unfold f_X9_in
  rw [if_pos]
  rw [Int32.lt_iff_toInt_lt, nI_toInt (by omega)]
  have : (-1 : Int32).toInt = -1 := by decide +kernel
  omega
theorem M_blank (h0 : TxM tx μ) (ho : OkT tx) (kont : Mem → Option Mem) : ∀ (k n i : Nat) (μ1 : Mem), i + k = tx.length → k < n → Om μ μ1 → gI μ1 166 14 = nI i → ∃ μ2, f_X9_step_L0 F 166 kont n μ1 = kont μ2 ∧ Om μ μ2 ∧ gI μ2 166 14 = nI (runE tx 32 32 k i)
  | 0, n, i, μ1, hi, hn, o1, e1 => by
    obtain ⟨n, rfl⟩ : ∃ j, n = j + 1 := ⟨n - 1, by omega⟩
    have h1 := ho.1
    rw [f_X9_step_L0, here_out (TxM_om o1 h0) ho (by omega) (by omega) e1, Option.bind_some, if_neg (show ¬ (-1 : Int32) = 32 by decide)]
    exact ⟨μ1, rfl, o1, e1⟩
  | k + 1, n, i, μ1, hi, hn, o1, e1 => by
    obtain ⟨n, rfl⟩ : ∃ j, n = j + 1 := ⟨n - 1, by omega⟩
    have h1 := ho.1
    have h2 := ho.2 i (by omega)
    rw [f_X9_step_L0, here_in (TxM_om o1 h0) ho (by omega) e1, Option.bind_some, runE]
    by_cases c : tx.getD i 0 = 32
    · rw [if_pos (show nI (tx.getD i 0) = (32 : Int32) by rw [c]; rfl), if_pos (by omega), lt_eq, e1, nI_1]
      exact M_blank h0 ho kont k n (i + 1) _ (by omega) (by omega) (Om_sI o1 (by decide) _) (by rw [gI_sI, if_pos ⟨rfl, rfl⟩])
    · rw [if_neg (show ¬ nI (tx.getD i 0) = (32 : Int32) from fun z => c ((nI_eq (b := 32) (by omega) (by decide)).mp z)), if_neg (by omega)]
      exact ⟨μ1, rfl, o1, e1⟩
theorem M_letters (h0 : TxM tx μ) (ho : OkT tx) (x1 : Int32) (kont : Mem → Option Mem) : ∀ (k n i : Nat) (μ1 : Mem), i + k = tx.length → k < n → Om μ μ1 → gI μ1 166 14 = nI i → ∃ μ2, f_X9_step_L63 F 166 x1 kont n μ1 = kont μ2 ∧ Om μ μ2 ∧ gI μ2 166 14 = nI (runE tx 97 122 k i) ∧ gI μ2 166 15 = gI μ1 166 15
  | 0, n, i, μ1, hi, hn, o1, e1 => by
    obtain ⟨n, rfl⟩ : ∃ j, n = j + 1 := ⟨n - 1, by omega⟩
    have h1 := ho.1
    have e9 : f_X9_in F μ1 (-1) 97 122 = some 0 := in_neg (lo := 97) (hi := 122) (by decide)
    rw [f_X9_step_L63, here_out (TxM_om o1 h0) ho (by omega) (by omega) e1, Option.bind_some, e9, Option.bind_some, if_pos (rfl : (0 : Int32) = 0)]
    exact ⟨μ1, rfl, o1, e1, rfl⟩
  | k + 1, n, i, μ1, hi, hn, o1, e1 => by
    obtain ⟨n, rfl⟩ : ∃ j, n = j + 1 := ⟨n - 1, by omega⟩
    have h1 := ho.1
    have h2 := ho.2 i (by omega)
    have e9 : f_X9_in F μ1 (nI (tx.getD i 0)) 97 122 = some (if 97 ≤ tx.getD i 0 ∧ tx.getD i 0 ≤ 122 then 1 else 0) := in_byte (lo := 97) (hi := 122) h2 (by decide) (by decide)
    rw [f_X9_step_L63, here_in (TxM_om o1 h0) ho (by omega) e1, Option.bind_some, e9, Option.bind_some, runE]
    by_cases c : 97 ≤ tx.getD i 0 ∧ tx.getD i 0 ≤ 122
    · rw [if_pos c, if_neg (show ¬ (1 : Int32) = 0 by decide), if_pos c, lt_eq, e1, nI_1]
      obtain ⟨μ2, f1, f2, f3, f4⟩ := M_letters h0 ho x1 kont k n (i + 1) (sI μ1 166 14 (nI (i + 1))) (by omega) (by omega) (Om_sI o1 (by decide) _) (by rw [gI_sI, if_pos ⟨rfl, rfl⟩])
      exact ⟨μ2, f1, f2, f3, by rw [f4, gI_sI, if_neg (by omega)]⟩
    · rw [if_neg c, if_pos (rfl : (0 : Int32) = 0), if_neg c]
      exact ⟨μ1, rfl, o1, e1, rfl⟩
theorem M_digits (h0 : TxM tx μ) (ho : OkT tx) (x1 : Int32) (kont : Mem → Option Mem) : ∀ (k n i v : Nat) (μ1 : Mem), i + k = tx.length → k < n → Om μ μ1 → gI μ1 166 14 = nI i → gI μ1 166 17 = nI v → v ≤ 1000 → ∃ μ2, f_X9_step_L126 F 166 x1 kont n μ1 = kont μ2 ∧ Om μ μ2 ∧ gI μ2 166 14 = nI (runE tx 48 57 k i) ∧ gI μ2 166 15 = gI μ1 166 15 ∧ gI μ2 166 17 = nI (mvV tx (runE tx 48 57 k i - i) i v) ∧ mvV tx (runE tx 48 57 k i - i) i v ≤ 1000
  | 0, n, i, v, μ1, hi, hn, o1, e1, e7, hv => by
    obtain ⟨n, rfl⟩ : ∃ j, n = j + 1 := ⟨n - 1, by omega⟩
    have h1 := ho.1
    have e9 : f_X9_in F μ1 (-1) 48 57 = some 0 := in_neg (lo := 48) (hi := 57) (by decide)
    rw [f_X9_step_L126, here_out (TxM_om o1 h0) ho (by omega) (by omega) e1, Option.bind_some, e9, Option.bind_some, if_pos (rfl : (0 : Int32) = 0)]
    have : runE tx 48 57 0 i - i = 0 := Nat.sub_self i
    rw [this]
    exact ⟨μ1, rfl, o1, e1, rfl, e7, hv⟩
  | k + 1, n, i, v, μ1, hi, hn, o1, e1, e7, hv => by
    obtain ⟨n, rfl⟩ : ∃ j, n = j + 1 := ⟨n - 1, by omega⟩
    have h1 := ho.1
    have h2 := ho.2 i (by omega)
    have e9 : f_X9_in F μ1 (nI (tx.getD i 0)) 48 57 = some (if 48 ≤ tx.getD i 0 ∧ tx.getD i 0 ≤ 57 then 1 else 0) := in_byte (lo := 48) (hi := 57) h2 (by decide) (by decide)
    have eh := here_in (F := F) (TxM_om o1 h0) ho (show i < tx.length by omega) e1
    rw [f_X9_step_L126, eh, Option.bind_some, e9, Option.bind_some, runE]
    by_cases c : 48 ≤ tx.getD i 0 ∧ tx.getD i 0 ≤ 57
    · have hge := runE_ge tx 48 57 k (i + 1)
      rw [if_pos c, if_neg (show ¬ (1 : Int32) = 0 by decide), if_pos c, e7]
      have hmv : mvV tx (runE tx 48 57 k (i + 1) - i) i v = mvV tx (runE tx 48 57 k (i + 1) - (i + 1)) (i + 1) (if 99 < v then v else 10 * v + tx.getD i 0 - 48) := by
        rw [show runE tx 48 57 k (i + 1) - i = runE tx 48 57 k (i + 1) - (i + 1) + 1 by omega, mvV]
      rw [hmv]
      have fin : ∀ w : Nat, w ≤ 1000 → ∃ μ2, f_X9_step_L126 F 166 x1 kont n (sI (sI μ1 166 17 (nI w)) 166 14 (nI (i + 1))) = kont μ2 ∧ Om μ μ2 ∧ gI μ2 166 14 = nI (runE tx 48 57 k (i + 1)) ∧ gI μ2 166 15 = gI μ1 166 15 ∧ gI μ2 166 17 = nI (mvV tx (runE tx 48 57 k (i + 1) - (i + 1)) (i + 1) w) ∧ mvV tx (runE tx 48 57 k (i + 1) - (i + 1)) (i + 1) w ≤ 1000 := fun w hw => by
        obtain ⟨μ2, f1, f2, f3, f4, f5, f6⟩ := M_digits h0 ho x1 kont k n (i + 1) w (sI (sI μ1 166 17 (nI w)) 166 14 (nI (i + 1))) (by omega) (by omega) (Om_sI (Om_sI o1 (by decide) _) (by decide) _) (by rw [gI_sI, if_pos ⟨rfl, rfl⟩]) (by rw [gI_sI, if_neg (by omega), gI_sI, if_pos ⟨rfl, rfl⟩]) hw
        exact ⟨μ2, f1, f2, f3, by rw [f4, gI_sI, if_neg (by omega), gI_sI, if_neg (by omega)], f5, f6⟩
      have g1 : ∀ x, gI (sI μ1 166 17 x) 166 14 = nI i := fun x => by rw [gI_sI, if_neg (by omega)]; exact e1
      by_cases c9 : 99 < v
      · rw [if_pos (show (99 : Int32) < nI v from nI_lt (a := 99) c9 (by omega)), if_pos c9, lt_eq, g1, lt_eq, nI_1]
        exact fin v hv
      · rw [if_neg (show ¬ (99 : Int32) < nI v from nI_nlt (a := 99) (by omega) (by decide)), if_neg c9, Option.bind_some, lt_eq, g1, lt_eq, nI_1]
        have ev : 10 * nI v + nI (tx.getD i 0) - 48 = nI (10 * v + tx.getD i 0 - 48) := by
          rw [show (10 : Int32) * nI v = nI (10 * v) from nI_mul 10 v, nI_add]
          exact nI_sub (b := 48) (by omega)
        rw [ev]
        exact fin _ (by omega)
    · rw [if_neg c, if_pos (rfl : (0 : Int32) = 0), if_neg c]
      rw [Nat.sub_self]
      exact ⟨μ1, rfl, o1, e1, rfl, e7, hv⟩
end R56
