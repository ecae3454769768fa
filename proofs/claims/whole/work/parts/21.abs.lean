/-! what a capital IS: places, lanes, people (Cfg); a moment (Mo): elbows, places, gave way, closed; a course: now and what is known of before, the oldest first -/
abbrev Mo : Type := (Nat → Nat) × (Nat → Nat) × (Nat → Nat) × Nat
abbrev Co : Type := Mo × List Mo
abbrev Cfg : Type := (Nat × Nat × Nat × Nat × Nat) × (Nat → Nat) × (Nat → Nat) × (Nat → Nat)
def gP (g : Cfg) : Nat := g.1.1
def gN (g : Cfg) : Nat := g.1.2.1
def gM (g : Cfg) : Nat := g.1.2.2.1
def gB (g : Cfg) : Nat := g.1.2.2.2.1
def gE (g : Cfg) : Nat := g.1.2.2.2.2
def gF (g : Cfg) (l : Nat) : Nat := g.2.1 l
def gS (g : Cfg) (l : Nat) : Nat := g.2.2.1 l
def gW (g : Cfg) (l : Nat) : Nat := g.2.2.2 l
def mE (m : Mo) (p : Nat) : Nat := m.1 p
def mA (m : Mo) (p : Nat) : Nat := m.2.1 p
def mG (m : Mo) (p : Nat) : Nat := m.2.2.1 p
def mC (m : Mo) : Nat := m.2.2.2
def OkG (g : Cfg) : Prop := 2 ≤ gP g ∧ gP g ≤ 8 ∧ gN g ≤ 8 ∧ gM g ≤ 5 ∧ 1 ≤ gB g ∧ gB g ≤ 9 ∧ gE g ≤ 3 ∧ ∀ l, l < gN g → gF g l < gP g ∧ gS g l < gP g ∧ gF g l ≠ gS g l ∧ 1 ≤ gW g l ∧ gW g l ≤ 40
def OkM (g : Cfg) (m : Mo) : Prop := (∀ p, p < gM g → mE m p ≤ 9 ∧ mA m p < gP g) ∧ mC m < 2 ^ gN g
def OkC (g : Cfg) (c : Co) : Prop := OkM g c.1 ∧ c.2.length ≤ 10 ∧ ∀ m ∈ c.2, OkM g m
/-- the class's cells: the text's capital at t, a moment at q -/
def CfgC (μ : Mem) (t : Nat) (g : Cfg) : Prop := gI μ t 0 = nI (gP g) ∧ gI μ t 1 = nI (gN g) ∧ gI μ t 5 = nI (gM g) ∧ gI μ t 8 = nI (gB g) ∧ gI μ t 9 = nI (gE g) ∧ ∀ l, l < gN g → gI μ (t + 1) l = nI (gF g l) ∧ gI μ (t + 2) l = nI (gS g l) ∧ gI μ (t + 3) l = nI (gW g l)
def MoC (μ : Mem) (q n : Nat) (m : Mo) : Prop := gI μ q 3 = nI (mC m) ∧ ∀ p, p < n → gI μ (q + 1) p = nI (mE m p) ∧ gI μ (q + 2) p = nI (mA m p) ∧ gI μ (q + 3) p = nI (mG m p)
/-- the model's -/
def CfgM (μ : Mem) (g : Cfg) : Prop := gI μ 168 0 = nI (gP g) ∧ gI μ 169 0 = nI (gN g) ∧ gI μ 173 0 = nI (gM g) ∧ gI μ 176 0 = nI (gB g) ∧ gI μ 177 0 = nI (gE g) ∧ ∀ l, l < gN g → gI μ 170 l = nI (gF g l) ∧ gI μ 171 l = nI (gS g l) ∧ gI μ 172 l = nI (gW g l)
def MoM (μ : Mem) (b n : Nat) (m : Mo) : Prop := gI μ 178 (b + 15) = nI (mC m) ∧ ∀ p, p < n → gI μ 178 (b + 5 + p) = nI (mE m p) ∧ gI μ 178 (b + p) = nI (mA m p) ∧ gI μ 178 (b + 10 + p) = nI (mG m p)
/-- a view for those that only read: of the class, of the model -/
def VC (μ : Mem) (g : Cfg) (m : Mo) : Prop := (∃ t, gR μ 0 1 = t ∧ (t = 4 ∨ t = 10) ∧ CfgC μ t g) ∧ MoC μ 17 (gM g) m ∧ OkG g ∧ OkM g m
def VM (μ : Mem) (g : Cfg) (m : Mo) : Prop := CfgM μ g ∧ MoM μ 0 (gM g) m ∧ OkG g ∧ OkM g m
def wd (g : Cfg) (m : Mo) (p : Nat) : Nat := gB g + 2 * mE m p
theorem wd_le {g : Cfg} {m : Mo} (hg : OkG g) (hm : OkM g m) {p : Nat} (hp : p < gM g) : wd g m p ≤ 27 := by
  have h1 := (hm.1 p hp).1
  have h2 := hg.2.2.2.2.2.1
  unfold wd
  omega
theorem mC_lt {g : Cfg} {m : Mo} (hg : OkG g) (hm : OkM g m) : mC m < 256 := by
  have h1 := hm.2
  have h2 : 2 ^ gN g ≤ 2 ^ 8 := Nat.pow_le_pow_right (by decide) hg.2.2.1
  omega
/-! bits of numbers below 256, by trying -/
theorem bit_q : ∀ x, x < 256 → ∀ l, l < 8 → ((nI x >>> (nI l &&& 31)) &&& 1) = if x.testBit l = true then 1 else 0 := by decide +kernel
theorem one_shl : ∀ l, l < 9 → (1 : Int32) <<< (nI l &&& 31) = nI (2 ^ l) := by decide +kernel
def clr (x l : Nat) : Nat := if x.testBit l = true then x - 2 ^ l else x
theorem clr_q : ∀ x, x < 256 → ∀ l, l < 8 → (nI x &&& (((1 : Int32) <<< (nI l &&& 31)) ^^^ (-1))) = nI (clr x l) := by decide +kernel
theorem clr_bit : ∀ x, x < 256 → ∀ l, l < 8 → ∀ j, j < 8 → (clr x l).testBit j = (x.testBit j && !(decide (j = l))) := by decide +kernel
theorem clr_lt : ∀ x, x < 256 → ∀ l, l < 8 → clr x l < 256 := by decide +kernel
theorem opn_q : ∀ n, n < 9 → ∀ x, x < 2 ^ n → ((((1 : Int32) <<< (nI n &&& 31)) - 1) &&& (nI x ^^^ (-1))) = nI (msk (fun l => !x.testBit l) n) := by decide +kernel
theorem or_lt8 {a b : Nat} (ha : a < 256) (hb : b < 256) : a ||| b < 256 := Nat.or_lt_two_pow (n := 8) ha hb
theorem pow_lt8 {l : Nat} (h : l < 8) : 2 ^ l < 256 := by
  have : 2 ^ l < 2 ^ 8 := Nat.pow_lt_pow_right (by decide) h
  omega
theorem ext8 {a b : Nat} (ha : a < 256) (hb : b < 256) (h : ∀ j, j < 8 → a.testBit j = b.testBit j) : a = b := by
  apply Nat.eq_of_testBit_eq
  intro i
  by_cases hi : i < 8
  · exact h i hi
  · have h1 : 2 ^ 8 ≤ 2 ^ i := Nat.pow_le_pow_right (by decide) (by omega)
    rw [Nat.testBit_lt_two_pow (by omega), Nat.testBit_lt_two_pow (by omega)]
/-- how many -/
def pc8 (x : Nat) : Nat := ((List.range 8).filter (fun l => x.testBit l)).length
theorem pc8_lt : ∀ x, x < 256 → pc8 x ≤ 8 := by decide +kernel
theorem or_pc : ∀ s, s < 256 → ∀ f, f < 8 → ∀ t, t < 8 → (s ||| (2 ^ f ||| 2 ^ t) = s ∨ pc8 s < pc8 (s ||| (2 ^ f ||| 2 ^ t))) := by decide +kernel
theorem or_bit : ∀ s, s < 256 → ∀ f, f < 8 → ∀ t, t < 8 → (if s.testBit f = s.testBit t then (if ¬ (s &&& (2 ^ f ||| 2 ^ t)) = 0 then s ||| (2 ^ f ||| 2 ^ t) else s) = s else ¬ (s &&& (2 ^ f ||| 2 ^ t)) = 0) := by decide +kernel
theorem pc_pow : ∀ P, P < 9 → ∀ s, s < 2 ^ P → pc8 s ≤ P := by decide +kernel
theorem pc_one : ∀ a, a < 8 → pc8 (2 ^ a) = 1 := by decide +kernel
