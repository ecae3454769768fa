/-! capital: tokens -/
def runE (tx : List Nat) (lo hi : Nat) : Nat → Nat → Nat
  | 0, i => i
  | k + 1, i => if lo ≤ tx.getD i 0 ∧ tx.getD i 0 ≤ hi then runE tx lo hi k (i + 1) else i
def endR (tx : List Nat) (lo hi i : Nat) : Nat := runE tx lo hi (tx.length - i) i
theorem runE_ge (tx : List Nat) (lo hi : Nat) : ∀ k i, i ≤ runE tx lo hi k i ∧ runE tx lo hi k i ≤ i + k
  | 0, i => ⟨Nat.le_refl _, Nat.le_refl _⟩
  | k + 1, i => by
    rw [runE]
    split
    · have := runE_ge tx lo hi k (i + 1)
      omega
    · omega
theorem endR_ge {tx : List Nat} {lo hi i : Nat} (h : i ≤ tx.length) : i ≤ endR tx lo hi i ∧ endR tx lo hi i ≤ tx.length := by
  have := runE_ge tx lo hi (tx.length - i) i
  unfold endR
  omega
/-- the value of digits, as the class adds them up -/
def numV (tx : List Nat) : Nat → Nat → Nat → Nat
  | 0, _, v => v
  | k + 1, i, v => numV tx k (i + 1) (v * 10 + tx.getD i 0 - 48)
def TxC (tx : List Nat) (μ : Mem) : Prop := gI μ 2 1 = nI tx.length ∧ ∀ i, i < tx.length → gI μ 3 i = nI (tx.getD i 0)
def TxM (tx : List Nat) (μ : Mem) : Prop := gI μ 166 2 = nI tx.length ∧ ∀ i, i < tx.length → gI μ 167 i &&& 255 = nI (tx.getD i 0)
def OkT (tx : List Nat) : Prop := tx.length ≤ 150 ∧ ∀ i, i < tx.length → tx.getD i 0 < 256
/-- start, kind (0 end, 1 letter, 2 number, 3 stop, 4 none of them), value, next -/
def tk (tx : List Nat) (pos : Nat) : Nat × Nat × Nat × Nat :=
  if endR tx 32 32 pos < tx.length then
    (if endR tx 32 32 pos < endR tx 97 122 (endR tx 32 32 pos) then (endR tx 32 32 pos, (if endR tx 97 122 (endR tx 32 32 pos) - endR tx 32 32 pos = 1 then 1 else 4), tx.getD (endR tx 32 32 pos) 0, endR tx 97 122 (endR tx 32 32 pos))
     else if endR tx 32 32 pos < endR tx 48 57 (endR tx 32 32 pos) then (endR tx 32 32 pos, (if 2 < endR tx 48 57 (endR tx 32 32 pos) - endR tx 32 32 pos ∨ (endR tx 48 57 (endR tx 32 32 pos) - endR tx 32 32 pos = 2 ∧ tx.getD (endR tx 32 32 pos) 0 = 48) then 4 else 2), numV tx (endR tx 48 57 (endR tx 32 32 pos) - endR tx 32 32 pos) (endR tx 32 32 pos) 0, endR tx 48 57 (endR tx 32 32 pos))
     else (endR tx 32 32 pos, (if tx.getD (endR tx 32 32 pos) 0 = 59 then 3 else 4), 0, endR tx 32 32 pos + 1))
  else (endR tx 32 32 pos, 0, 0, endR tx 32 32 pos)
section R54
variable {F : Nat} {μ : Mem} {tx : List Nat}
theorem C_run (h : TxC tx μ) (ho : OkT tx) {lo hi : Nat} (hl : lo < 256) (hh : hi < 256) : ∀ (k n i : Nat), i + k = tx.length → k < n → f_X4_endOfRun_L3 F μ 1 (nI lo) (nI hi) (fun x4_1 => some x4_1) n (nI i) = some (nI (runE tx lo hi k i))
  | 0, n, i, hi2, hn => by
    obtain ⟨n, rfl⟩ : ∃ j, n = j + 1 := ⟨n - 1, by omega⟩
    have h1 := ho.1
    rw [f_X4_endOfRun_L3, show gI μ (1 + 1) 1 = nI tx.length from h.1, if_neg (nI_nlt (by omega) (by omega))]
    rfl
  | k + 1, n, i, hi2, hn => by
    obtain ⟨n, rfl⟩ : ∃ j, n = j + 1 := ⟨n - 1, by omega⟩
    have h1 := ho.1
    have h2 := ho.2 i (by omega)
    have j1 : ix (nI i) 150 = true := nI_ix (by omega) (by decide)
    have j2 : (nI i).toNatClampNeg = i := nI_clamp (by omega)
    have e3 : gI μ (1 + 1 + 1) i = nI (tx.getD i 0) := h.2 i (by omega)
    rw [f_X4_endOfRun_L3, show gI μ (1 + 1) 1 = nI tx.length from h.1, if_pos (nI_lt (by omega) (by omega)), if_pos j1, if_pos j1, j2, e3, nI_1, runE]
    simp (disch := omega) only [nI_ltI]
    by_cases c1 : tx.getD i 0 < lo
    · rw [if_pos c1, if_neg (by omega)]
    · rw [if_neg c1]
      by_cases c2 : hi < tx.getD i 0
      · rw [if_pos c2, if_neg (by omega)]
      · rw [if_neg c2, if_pos (by omega)]
        exact C_run h ho hl hh k n (i + 1) (by omega) (by omega)
theorem C_endR (hF : 5000 ≤ F) (h : TxC tx μ) (ho : OkT tx) {lo hi i : Nat} (hl : lo < 256) (hh : hi < 256) (hi2 : i ≤ tx.length) : f_X4_endOfRun F μ 1 (nI i) (nI lo) (nI hi) = some (nI (endR tx lo hi i)) := by
  have h1 := ho.1
  exact C_run h ho hl hh (tx.length - i) F i (by omega) (by omega)
theorem TxC_off {μ' : Mem} (h : Off 1 2 μ μ') (ht : TxC tx μ) : TxC tx μ' := ⟨((h 2 (by omega)).1 1).trans ht.1, fun i hi => ((h 3 (by omega)).1 i).trans (ht.2 i hi)⟩
/-- digits taken -/
theorem C_digits (h0 : TxC tx μ) (ho : OkT tx) {d s : Nat} (hd : s + d ≤ tx.length) (hdig : ∀ i, s ≤ i → i < s + d → 48 ≤ tx.getD i 0) : ∀ (k n j v : Nat) (μ1 : Mem), j + k = d → k < n → Off 1 2 μ μ1 → gI μ1 1 1 = nI (s + j) → gI μ1 1 4 = nI v → ∃ μ2, f_X4_takeNumber_L53 F 1 (nI d) (fun x3_5 μ_6 => some μ_6) n (nI j) μ1 = some μ2 ∧ Off 1 2 μ μ2 ∧ gI μ2 1 1 = nI (s + d) ∧ gI μ2 1 4 = nI (numV tx k (s + j) v) ∧ gI μ2 1 2 = gI μ1 1 2 ∧ gI μ2 1 3 = gI μ1 1 3 ∧ gI μ2 1 5 = gI μ1 1 5 ∧ gI μ2 1 6 = gI μ1 1 6
  | 0, n, j, v, μ1, hj, hn, o1, e1, e4 => by
    obtain ⟨n, rfl⟩ : ∃ j, n = j + 1 := ⟨n - 1, by omega⟩
    have h1 := ho.1
    rw [f_X4_takeNumber_L53, if_neg (nI_nlt (by omega) (by omega))]
    exact ⟨μ1, rfl, o1, by rw [e1, show s + j = s + d by omega], e4, rfl, rfl, rfl, rfl⟩
  | k + 1, n, j, v, μ1, hj, hn, o1, e1, e4 => by
    obtain ⟨n, rfl⟩ : ∃ j, n = j + 1 := ⟨n - 1, by omega⟩
    have h1 := ho.1
    have j1 : ix (nI (s + j)) 150 = true := nI_ix (by omega) (by decide)
    have j2 : (nI (s + j)).toNatClampNeg = s + j := nI_clamp (by omega)
    have ht := TxC_off o1 h0
    have e3 : gI μ1 (1 + 1 + 1) (s + j) = nI (tx.getD (s + j) 0) := ht.2 _ (by omega)
    have hd48 := hdig (s + j) (by omega) (by omega)
    have ev : nI v * 10 + nI (tx.getD (s + j) 0) - 48 = nI (v * 10 + tx.getD (s + j) 0 - 48) := by
      rw [show nI v * 10 = nI (v * 10) from nI_mul v 10, nI_add]
      exact nI_sub (b := 48) (by omega)
    rw [f_X4_takeNumber_L53, if_pos (nI_lt (by omega) (by omega)), e1, if_pos j1, j2, e3, e4, ev, lt_eq]
    have g1 : gI (sI μ1 1 4 (nI (v * 10 + tx.getD (s + j) 0 - 48))) 1 1 = nI (s + j) := by rw [gI_sI, if_neg (by omega)]; exact e1
    rw [g1, lt_eq, nI_1, nI_1]
    obtain ⟨μ2, f1, f2, f3, f4, f5, f6, f7, f8⟩ := C_digits h0 ho hd hdig k n (j + 1) (v * 10 + tx.getD (s + j) 0 - 48) (sI (sI μ1 1 4 (nI (v * 10 + tx.getD (s + j) 0 - 48))) 1 1 (nI (s + j + 1))) (by omega) (by omega) (Off_sI (Off_sI o1 (by decide) _ _) (by decide) _ _) (by rw [gI_sI, if_pos ⟨rfl, rfl⟩, Nat.add_assoc]) (by rw [gI_sI, if_neg (by omega), gI_sI, if_pos ⟨rfl, rfl⟩])
    refine ⟨μ2, f1, f2, f3, f4, ?_, ?_, ?_, ?_⟩
    · rw [f5, gI_sI, if_neg (by omega), gI_sI, if_neg (by omega)]
    · rw [f6, gI_sI, if_neg (by omega), gI_sI, if_neg (by omega)]
    · rw [f7, gI_sI, if_neg (by omega), gI_sI, if_neg (by omega)]
    · rw [f8, gI_sI, if_neg (by omega), gI_sI, if_neg (by omega)]
end R54
