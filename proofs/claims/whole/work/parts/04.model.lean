/-! THE WORLD: all objects and arrays stand side by side from the address a0 on; cell q is of kind kd q. What changes is a Mem: ints by cell and slot, references by cell and slot, one long a cell. -/
def nestW : Cond → Bool
  | .fieldLinkNest .. => true
  | .methodLinkNest .. => true
  | _ => false
def gT : List Cond := lw_tbl.filter goodWord
def nT : List Cond := lw_tbl.filter nestW
theorem gT_of {w : Cond} (i : Nat) (h : tables_1[i]? = some w) (hg : goodWord w = true) : w ∈ gT := List.mem_filter.mpr ⟨List.mem_append_right _ (List.mem_of_getElem? h), hg⟩
theorem gT_sel {w : Cond} (i : Nat) (h : (k2_sels lw_privs)[i]? = some w) (hg : goodWord w = true) : w ∈ gT := List.mem_filter.mpr ⟨List.mem_append_left _ (List.mem_of_getElem? h), hg⟩
theorem nT_of {w : Cond} (i : Nat) (h : tables_1[i]? = some w) (hg : nestW w = true) : w ∈ nT := List.mem_filter.mpr ⟨List.mem_append_right _ (List.mem_of_getElem? h), hg⟩
theorem gT_good : ∀ w ∈ gT, ((w.onTables && w.keeps) = true ∨ ∃ ty, w = .arrayClass ty) := fun w h => good_of_word (List.mem_filter.mp h).2
theorem gT_self : GoodIn gT gT := fun w h => ⟨h, gT_good w h⟩
theorem nT_warm {s U : State} (hW : s.WarmedH U.vm) (h : ∀ w ∈ nT, va_Nw w s) : ∀ w ∈ nT, va_Nw w U := by
  intro w hw
  have h1 := h w hw
  have h2 := (List.mem_filter.mp hw).2
  cases w <;> first | (simp [nestW] at h2; done) | exact va_Nw.warmF hW h1 | exact va_Nw.warmM hW h1
theorem nT_same {u U : State} (e : u.vm = U.vm) (h : ∀ w ∈ nT, va_Nw w u) : ∀ w ∈ nT, va_Nw w U := by
  intro w hw
  have h1 := h w hw
  have h2 := (List.mem_filter.mp hw).2
  cases w <;> first | (simp [nestW] at h2; done) | exact va_Nw.same rfl e h1
abbrev Mem : Type := (Nat → Nat → Int32) × (Nat → Nat → Nat) × (Nat → Int64)
def gI (μ : Mem) (q j : Nat) : Int32 := μ.1 q j
def gR (μ : Mem) (q j : Nat) : Nat := μ.2.1 q j
def gL (μ : Mem) (q : Nat) : Int64 := μ.2.2 q
def sI (μ : Mem) (q j : Nat) (v : Int32) : Mem := (fun a b => if a = q ∧ b = j then v else μ.1 a b, μ.2.1, μ.2.2)
def sR (μ : Mem) (q j : Nat) (v : Nat) : Mem := (μ.1, fun a b => if a = q ∧ b = j then v else μ.2.1 a b, μ.2.2)
def sL (μ : Mem) (q : Nat) (v : Int64) : Mem := (μ.1, μ.2.1, fun a => if a = q then v else μ.2.2 a)
def kdC (q : Nat) : List Nat := [0, 3, 1005, 1005, 1005, 5010] ++ (List.range 40).map (fun i => if i % 4 = 0 then 3 else 1005)
def kdL : List Nat := [8, 4, 5, 1150, 7, 1008, 1008, 1008, 1005, 1005, 7, 1008, 1008, 1008, 1005, 1005] ++ kdC 0 ++ [4002, 2002, 2, 1006, 1006, 1, 1008, 1008, 6, 1005, 1005, 1005] ++ kdC 0 ++ kdC 0 ++ [9, 3150, 1002, 1002, 1016, 1016, 1016, 1002, 1005, 1005, 1002, 1002, 1531, 2002, 1008, 1005, 1005, 1006, 1006]
def kd (q : Nat) : Nat := kdL.getD q 9999
theorem kd_len : kdL.length = 185 := by decide +kernel
theorem kd_lt {q k : Nat} (h : kd q = k) (hk : k < 9999) : q < 185 := by
  rcases Nat.lt_or_ge q 185 with h1 | h1
  · exact h1
  · exfalso
    have h2 : kd q = 9999 := by
      show kdL.getD q 9999 = 9999
      rw [List.getD_eq_getElem?_getD, List.getElem?_eq_none (by rw [kd_len]; exact h1)]
      rfl
    omega
theorem kd_next {k d k2 : Nat} (h : (List.range 185).all (fun q => !(kd q == k) || kd (q + d) == k2) = true) (hk : k < 9999) {q : Nat} (hq : kd q = k) : kd (q + d) = k2 := by
  have h1 := List.all_eq_true.mp h q (List.mem_range.mpr (kd_lt hq hk))
  simpa [hq] using h1
def rty (k j : Nat) : Nat := if k = 8 then (if j = 1 ∨ j = 2 then 7 else 9999) else if k = 4002 then (if j < 2 then 0 else 9999) else if k = 5010 then (if j < 10 then 3 else 9999) else 9999
def WT (μ : Mem) : Prop := ∀ q j k : Nat, rty (kd q) j = k → k < 9999 → kd (gR μ q j) = k
def fl (a0 : Nat) (μ : Mem) (q : Nat) : Nat → List Value
  | 0 => [.ref (a0 + (q + 1)), .ref (a0 + (q + 5)), .int (gI μ q 2)]
  | 1 => [.ref (a0 + (q + 1)), .ref (a0 + (q + 2))]
  | 2 => [.ref (a0 + (q + 1)), .ref (a0 + (q + 2)), .int (gI μ q 2)]
  | 3 => [.ref (a0 + (q + 1)), .ref (a0 + (q + 2)), .ref (a0 + (q + 3)), .int (gI μ q 3)]
  | 4 => [.ref (a0 + (q + 1)), .int (gI μ q 1), .int (gI μ q 2), .int (gI μ q 3), .int (gI μ q 4), .int (gI μ q 5), .int (gI μ q 6)]
  | 5 => [.ref (a0 + (q + 1)), .int (gI μ q 1)]
  | 6 => [.ref (a0 + (q + 1)), .ref (a0 + (q + 2)), .ref (a0 + (q + 3)), .int (gI μ q 3), .int (gI μ q 4)]
  | 7 => [.int (gI μ q 0), .int (gI μ q 1), .ref (a0 + (q + 1)), .ref (a0 + (q + 2)), .ref (a0 + (q + 3)), .int (gI μ q 5), .ref (a0 + (q + 4)), .ref (a0 + (q + 5)), .int (gI μ q 8), .int (gI μ q 9)]
  | 8 => [.ref (a0 + (q + 1)), .ref (a0 + gR μ q 1), .ref (a0 + gR μ q 2), .ref (a0 + (q + 16)), .ref (a0 + (q + 62)), .ref (a0 + (q + 63)), .ref (a0 + (q + 64)), .ref (a0 + (q + 67)), .ref (a0 + (q + 70)), .long (gL μ q)]
  | 9 => [.long (gL μ q), .ref (a0 + (q + 1)), .int (gI μ q 2), .ref (a0 + (q + 2)), .ref (a0 + (q + 3)), .ref (a0 + (q + 4)), .ref (a0 + (q + 5)), .ref (a0 + (q + 6)), .ref (a0 + (q + 7)), .ref (a0 + (q + 8)), .ref (a0 + (q + 9)), .ref (a0 + (q + 10)), .ref (a0 + (q + 11)), .int (gI μ q 13), .int (gI μ q 14), .int (gI μ q 15), .int (gI μ q 16), .int (gI μ q 17), .int (gI μ q 18), .ref (a0 + (q + 12)), .ref (a0 + (q + 13)), .ref (a0 + (q + 14)), .ref (a0 + (q + 15)), .ref (a0 + (q + 16)), .ref (a0 + (q + 17)), .ref (a0 + (q + 18)), .int (gI μ q 26)]
  | _ => []
/-- the cell of kind k at the place q -/
def entK (a0 : Nat) (cy : Nat → ClassId) (μ : Mem) (q k : Nat) : va_E :=
  if k < 1000 then .inr (k, fl a0 μ q k) else if k < 2000 then .inl (cy 1, k - 1000, .inl (gI μ q)) else if k < 3000 then .inl (cy 2, k - 2000, .inl (gI μ q)) else if k < 4000 then .inl (cy 0, k - 3000, .inl (gI μ q)) else if k < 5000 then .inl (cy 3, k - 4000, .inr (.inr (.inr (.inr (fun j => some (a0 + gR μ q j)))))) else .inl (cy 4, k - 5000, .inr (.inr (.inr (.inr (fun j => some (a0 + gR μ q j))))))
abbrev tysM (cy : Nat → ClassId) : List (ClassId × FieldType) := [(cy 0, .byte), (cy 1, .int), (cy 2, .boolean), (cy 3, .object "ElbowRanks$Course"), (cy 4, .object "ElbowRanks$Moment")]
def mapW (a0 n : Nat) (f : Nat → va_E) : va_W := (List.range n).map (fun k => (a0 + k, f k))
theorem mapW_get {a0 n : Nat} {f : Nat → va_E} {q : Nat} (h : q < n) : (mapW a0 n f)[q]? = some (a0 + q, f q) := by
  simp [mapW, h]
theorem mapW_set {a0 n : Nat} {f : Nat → va_E} {q : Nat} {e : va_E} {f' : Nat → va_E} (h : ∀ k, k < n → f' k = if k = q then e else f k) : (mapW a0 n f).set q (a0 + q, e) = mapW a0 n f' := by
  apply List.ext_getElem?
  intro i
  rw [List.getElem?_set]
  by_cases hi : i < n
  · rw [mapW_get hi, mapW_get hi, h i hi]
    by_cases hq : q = i
    · subst hq
      simp [mapW, hi]
    · rw [if_neg hq, if_neg (fun z => hq z.symm)]
  · have h1 : (mapW a0 n f)[i]? = none := by simp [mapW]; omega
    have h2 : (mapW a0 n f')[i]? = none := by simp [mapW]; omega
    rw [h1, h2]
    by_cases hq : q = i
    · subst hq
      simp [mapW, hi]
    · rw [if_neg hq]
theorem mapW_D {a0 n : Nat} {f : Nat → va_E} : va_D (fun q => a0 ≤ q) (mapW a0 n f) := by
  have key : ∀ (k : Nat) (q : Nat × va_E), (mapW a0 n f)[k]? = some q → q.1 = a0 + k := by
    intro k q h
    by_cases hk : k < n
    · rw [mapW_get hk] at h
      cases h
      rfl
    · have h1 : (mapW a0 n f)[k]? = none := by simp [mapW]; omega
      rw [h1] at h
      cases h
  refine ⟨fun i j p q h1 h2 h3 => ?_, fun k q h => ?_⟩
  · have e1 := key i p h1
    have e2 := key j q h2
    omega
  · have e1 := key k q h
    show a0 ≤ q.1
    omega
def wsM (a0 : Nat) (cy : Nat → ClassId) (μ : Mem) : va_W := mapW a0 185 (fun k => entK a0 cy μ k (kd k))
def Wd (a0 : Nat) (cy : Nat → ClassId) (D : va_G) (μ : Mem) (H : Heap) : Prop := va_P D vwCl (wsM a0 cy μ) H ∧ WT μ
theorem wsM_get {a0 : Nat} {cy : Nat → ClassId} {μ : Mem} {q k : Nat} (h : kd q = k) (hk : k < 9999) : (wsM a0 cy μ)[q]? = some (a0 + q, entK a0 cy μ q k) := by
  have h1 := mapW_get (a0 := a0) (n := 185) (f := fun k => entK a0 cy μ k (kd k)) (kd_lt h hk)
  rw [← h]; exact h1
theorem fl_congr {a0 : Nat} {μ μ' : Mem} {q : Nat} (h1 : ∀ j, gI μ' q j = gI μ q j) (h2 : ∀ j, gR μ' q j = gR μ q j) (h3 : gL μ' q = gL μ q) (k : Nat) : fl a0 μ' q k = fl a0 μ q k := by
  unfold fl
  split <;> simp [h1, h2, h3]
theorem ent_congr {a0 : Nat} {cy : Nat → ClassId} {μ μ' : Mem} {q : Nat} (h1 : ∀ j, gI μ' q j = gI μ q j) (h2 : ∀ j, gR μ' q j = gR μ q j) (h3 : gL μ' q = gL μ q) (k : Nat) : entK a0 cy μ' q k = entK a0 cy μ q k := by
  unfold entK
  rw [fl_congr h1 h2 h3 k, show gI μ' q = gI μ q from funext h1, show gR μ' q = gR μ q from funext h2]
theorem wsM_set {a0 : Nat} {cy : Nat → ClassId} {μ μ' : Mem} {q k : Nat} {e : va_E} (h : kd q = k) (he : entK a0 cy μ' q k = e) (ho : ∀ a, a ≠ q → (∀ j, gI μ' a j = gI μ a j) ∧ (∀ j, gR μ' a j = gR μ a j) ∧ gL μ' a = gL μ a) : (wsM a0 cy μ).set q (a0 + q, e) = wsM a0 cy μ' := by
  refine mapW_set fun a ha => ?_
  by_cases hq : a = q
  · subst hq
    rw [if_pos rfl, ← he, h]
  · obtain ⟨h1, h2, h3⟩ := ho a hq
    rw [if_neg hq]
    exact ent_congr h1 h2 h3 _
theorem sI_off {μ : Mem} {q j : Nat} {v : Int32} : ∀ a, a ≠ q → (∀ i, gI (sI μ q j v) a i = gI μ a i) ∧ (∀ i, gR (sI μ q j v) a i = gR μ a i) ∧ gL (sI μ q j v) a = gL μ a := fun a h => ⟨fun i => by simp [gI, sI, h], fun i => rfl, rfl⟩
theorem sR_off {μ : Mem} {q j : Nat} {v : Nat} : ∀ a, a ≠ q → (∀ i, gI (sR μ q j v) a i = gI μ a i) ∧ (∀ i, gR (sR μ q j v) a i = gR μ a i) ∧ gL (sR μ q j v) a = gL μ a := fun a h => ⟨fun i => rfl, fun i => by simp [gR, sR, h], rfl⟩
theorem sL_off {μ : Mem} {q : Nat} {v : Int64} : ∀ a, a ≠ q → (∀ i, gI (sL μ q v) a i = gI μ a i) ∧ (∀ i, gR (sL μ q v) a i = gR μ a i) ∧ gL (sL μ q v) a = gL μ a := fun a h => ⟨fun i => rfl, fun i => rfl, by simp [gL, sL, h]⟩
theorem gI_sI (μ : Mem) (q j : Nat) (v : Int32) (a i : Nat) : gI (sI μ q j v) a i = if a = q ∧ i = j then v else gI μ a i := rfl
theorem gR_sR (μ : Mem) (q j : Nat) (v : Nat) (a i : Nat) : gR (sR μ q j v) a i = if a = q ∧ i = j then v else gR μ a i := rfl
theorem gL_sL (μ : Mem) (q : Nat) (v : Int64) (a : Nat) : gL (sL μ q v) a = if a = q then v else gL μ a := rfl
theorem gR_sI (μ : Mem) (q j : Nat) (v : Int32) (a i : Nat) : gR (sI μ q j v) a i = gR μ a i := rfl
theorem gL_sI (μ : Mem) (q j : Nat) (v : Int32) (a : Nat) : gL (sI μ q j v) a = gL μ a := rfl
theorem gI_sR (μ : Mem) (q j : Nat) (v : Nat) (a i : Nat) : gI (sR μ q j v) a i = gI μ a i := rfl
theorem gL_sR (μ : Mem) (q j : Nat) (v : Nat) (a : Nat) : gL (sR μ q j v) a = gL μ a := rfl
theorem gI_sL (μ : Mem) (q : Nat) (v : Int64) (a i : Nat) : gI (sL μ q v) a i = gI μ a i := rfl
theorem gR_sL (μ : Mem) (q : Nat) (v : Int64) (a i : Nat) : gR (sL μ q v) a i = gR μ a i := rfl
theorem WT_sI {μ : Mem} {q j : Nat} {v : Int32} (h : WT μ) : WT (sI μ q j v) := fun a i k => h a i k
theorem WT_sL {μ : Mem} {q : Nat} {v : Int64} (h : WT μ) : WT (sL μ q v) := fun a i k => h a i k
theorem WT_sR {μ : Mem} {q j v : Nat} (h : WT μ) (hv : kd v = rty (kd q) j) : WT (sR μ q j v) := by
  intro a i k h1 h2
  rw [gR_sR]
  by_cases hq : a = q ∧ i = j
  · rw [if_pos hq, hv, ← hq.1, ← hq.2]; exact h1
  · rw [if_neg hq]; exact h a i k h1 h2
/-- the name of a value in what follows -/
def lt {α β : Type} (x : α) (k : α → β) : β := k x
/-- an index that is inside -/
def ix (i : Int32) (n : Nat) : Bool := !decide (i < 0) && decide (i.toNatClampNeg < n)
theorem ix_in {i : Int32} {n : Nat} (h : ix i n = true) : vp_in i n := by
  simp [ix] at h
  intro z
  rcases z with z | z
  · have := h.1
    rw [← Int32.not_lt] at this
    exact this z
  · omega
def retI : Option Value → Instr
  | none => .return_
  | some (.long _) => .lreturn
  | some _ => .ireturn
def Cx (a0 : Nat) (own : String) (cb : ByteArray) (nL : Nat) (rt : Option FieldType) (dp : Nat) (sc : Option (Nat × Nat × (Nat → Int32))) (p : Program) (R : Room) (s : State) (m : MethodId) (args : Array Value) (meth : Method) (c : Code) (cells slots : Nat) (cy : Nat → ClassId) (D : va_G) : Prop :=
  p.tables.exec = Jvm.exec ∧ c.code = cb ∧ c.maxLocals = nL ∧ s.vm.findClass own = some m.cls ∧ (∀ w ∈ gT, w.before args s = true) ∧ (∀ w ∈ nT, va_Nw w s) ∧ va_K D vwCl (tysM cy) s ∧ (dp ≤ R.frames ∧ 40 * dp + 13 ≤ R.locals ∧ cells ≤ R.cells ∧ slots ≤ R.slots) ∧ (∀ (b Lb : Nat) (xs : Nat → Int32), sc = some (b, Lb, xs) → va_X b Lb xs s s.heap ∧ b < s.heap.size ∧ b < a0)
def RC (a0 : Nat) (cb : ByteArray) (rt : Option FieldType) (p : Program) (l : Launch) (e : Env) (R : Room) (s : State) (m : MethodId) (args : Array Value) (below : List Frame) (meth : Method) (c : Code) (cells slots : Nat) (Q : State → Prop) (cy : Nat → ClassId) (D : va_G) (r : Option Value × Mem) : Prop :=
  ∀ (H : Heap) (locs : List Loc) (ls : Array Slot) (pc : Nat), Wd a0 cy D r.2 H → va_S (fun q => a0 ≤ q) s.heap H locs → decode cb pc = .ok (retI r.1, 1) → (∀ ty v, rt = some ty → r.1 = some v → narrow ty v = v) → W p l e R s m args below meth c H locs cells slots Q (F0 m pc ls r.1.toList)
/-- what the code does from here: if o is some r, it ends as r says -/
def Ex {α : Type} (a0 : Nat) (own : String) (cb : ByteArray) (nL : Nat) (rt : Option FieldType) (dp : Nat) (sc : Option (Nat × Nat × (Nat → Int32))) (ι : α → Option Value × Mem) (pc : Nat) (L : List (Nat × Value)) (st : List Value) (μ : Mem) (o : Option α) : Prop :=
  ∀ r : α, o = some r → ∀ (p : Program) (l : Launch) (e : Env) (R : Room) (s : State) (m : MethodId) (args : Array Value) (below : List Frame) (meth : Method) (c : Code) (cells slots : Nat) (Q : State → Prop) (cy : Nat → ClassId) (D : va_G),
    Cx a0 own cb nL rt dp sc p R s m args meth c cells slots cy D → RC a0 cb rt p l e R s m args below meth c cells slots Q cy D (ι r) →
    ∀ (H : Heap) (locs : List Loc) (ls : Array Slot), Wd a0 cy D μ H → va_S (fun q => a0 ≤ q) s.heap H locs → lv_has ls nL L → W p l e R s m args below meth c H locs cells slots Q (F0 m pc ls st)
def Wst (a0 : Nat) (cy : Nat → ClassId) (D : va_G) (μ : Mem) (U : State) : Prop := Wd a0 cy D μ U.heap ∧ va_K D vwCl (tysM cy) U ∧ ∀ w ∈ nT, va_Nw w U
def Qd (a0 : Nat) (cy : Nat → ClassId) (D : va_G) (rv : Option Value) (μ' : Mem) : Array Value → State → Outcome → State → Prop := fun _ st o t => (o = .returned rv ∧ Wd a0 cy D μ' t.heap) ∧ va_F (fun q => a0 ≤ q) st t
abbrev rmD (dp : Nat) : Room := { frames := dp, cells := 0, slots := 0, locals := 40 * dp + 13 }
/-- a method's contract: with these arguments in this world it answers rv, and the world is μ' -/
def Ct (a0 : Nat) (y : MethodName) (cb : ByteArray) (nL : Nat) (rt : Option FieldType) (dp : Nat) (av : List Value) (μ : Mem) (rv : Option Value) (μ' : Mem) : Prop :=
  ∀ (l : Launch) (cy : Nat → ClassId) (D : va_G), Met l y (.code y cb nL rt :: gT) (rmD dp) (va_Pc av (Wst a0 cy D μ)) (Qd a0 cy D rv μ') 0 0 (fun q => a0 ≤ q)
