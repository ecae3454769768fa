section ROWS
variable {α : Type} {a0 : Nat} {own : String} {cb : ByteArray} {nL : Nat} {rt : Option FieldType} {dp : Nat} {sc : Option (Nat × Nat × (Nat → Int32))} {ι : α → Option Value × Mem} {pc : Nat} {L : List (Nat × Value)} {st : List Value} {μ : Mem} {o o1 o2 : Option α}
theorem Ex_none : Ex a0 own cb nL rt dp sc ι pc L st μ none := fun r hr => by cases hr
theorem Ex_perm {L2 : List (Nat × Value)} (ks : List Nat) (h : lv_pick L ks = L2) (k : Ex a0 own cb nL rt dp sc ι pc L2 st μ o) : Ex a0 own cb nL rt dp sc ι pc L st μ o := by
  intro r hr p l e R s m args below meth c cells slots Q cy D C K H locs ls hW hS hl
  exact k r hr p l e R s m args below meth c cells slots Q cy D C K H locs ls hW hS (lv_sub hl ks h)
theorem Ex_iconst {n : Int} {v : Int32} (d : decode cb pc = .ok (.iconst n, 1)) (hv : Int32.ofInt n = v) (k : Ex a0 own cb nL rt dp sc ι (pc + 1) L (.int v :: st) μ o) : Ex a0 own cb nL rt dp sc ι pc L (st) μ o := by
  intro r hr p l e R s m args below meth c cells slots Q cy D C K H locs ls hW hS hl
  exact lv_iconst C.1 C.2.1 d hv (k r hr p l e R s m args below meth c cells slots Q cy D C K H locs ls hW hS hl)
theorem Ex_bipush {n : Int} {v : Int32} (d : decode cb pc = .ok (.bipush n, 2)) (hv : (Int8.ofInt n).toInt32 = v) (k : Ex a0 own cb nL rt dp sc ι (pc + 2) L (.int v :: st) μ o) : Ex a0 own cb nL rt dp sc ι pc L (st) μ o := by
  intro r hr p l e R s m args below meth c cells slots Q cy D C K H locs ls hW hS hl
  exact lv_bipush C.1 C.2.1 d hv (k r hr p l e R s m args below meth c cells slots Q cy D C K H locs ls hW hS hl)
theorem Ex_sipush {n : Int} {v : Int32} (d : decode cb pc = .ok (.sipush n, 3)) (hv : (Int16.ofInt n).toInt32 = v) (k : Ex a0 own cb nL rt dp sc ι (pc + 3) L (.int v :: st) μ o) : Ex a0 own cb nL rt dp sc ι pc L (st) μ o := by
  intro r hr p l e R s m args below meth c cells slots Q cy D C K H locs ls hW hS hl
  exact lv_sipush C.1 C.2.1 d hv (k r hr p l e R s m args below meth c cells slots Q cy D C K H locs ls hW hS hl)
theorem Ex_lconst {n : Fin 2} {v : Int64} (d : decode cb pc = .ok (.lconst n, 1)) (hv : Int64.ofNat (n : Nat) = v) (k : Ex a0 own cb nL rt dp sc ι (pc + 1) L (.long v :: st) μ o) : Ex a0 own cb nL rt dp sc ι pc L (st) μ o := by
  intro r hr p l e R s m args below meth c cells slots Q cy D C K H locs ls hW hS hl
  exact lv_lconst C.1 C.2.1 d hv (k r hr p l e R s m args below meth c cells slots Q cy D C K H locs ls hW hS hl)
theorem Ex_ldc {idx : Nat} {v : Int32} (d : decode cb pc = .ok (.ldc idx, 2)) (hc : Jvm.Cond.constant own idx v ∈ gT) (k : Ex a0 own cb nL rt dp sc ι (pc + 2) L (.int v :: st) μ o) : Ex a0 own cb nL rt dp sc ι pc L (st) μ o := by
  intro r hr p l e R s m args below meth c cells slots Q cy D C K H locs ls hW hS hl
  exact lv_ldc C.1 C.2.1 C.2.2.2.1 (C.2.2.2.2.1 _ hc) d (k r hr p l e R s m args below meth c cells slots Q cy D C K H locs ls hW hS hl)
theorem Ex_ldcw {idx : Nat} {v : Int32} (d : decode cb pc = .ok (.ldc_w idx, 3)) (hc : Jvm.Cond.constant own idx v ∈ gT) (k : Ex a0 own cb nL rt dp sc ι (pc + 3) L (.int v :: st) μ o) : Ex a0 own cb nL rt dp sc ι pc L (st) μ o := by
  intro r hr p l e R s m args below meth c cells slots Q cy D C K H locs ls hW hS hl
  exact lv_ldcw C.1 C.2.1 C.2.2.2.1 (C.2.2.2.2.1 _ hc) d (k r hr p l e R s m args below meth c cells slots Q cy D C K H locs ls hW hS hl)
theorem Ex_ldc2 {idx : Nat} {v : Int64} (d : decode cb pc = .ok (.ldc2_w idx, 3)) (hc : Jvm.Cond.constantLong own idx v ∈ gT) (k : Ex a0 own cb nL rt dp sc ι (pc + 3) L (.long v :: st) μ o) : Ex a0 own cb nL rt dp sc ι pc L (st) μ o := by
  intro r hr p l e R s m args below meth c cells slots Q cy D C K H locs ls hW hS hl
  exact lv_ldc2 C.1 C.2.1 C.2.2.2.1 (C.2.2.2.2.1 _ hc) d (k r hr p l e R s m args below meth c cells slots Q cy D C K H locs ls hW hS hl)
theorem Ex_iload_n {k0 : Fin 4} {i : Nat} {x : Int32} (d : decode cb pc = .ok (.iload_n k0, 1)) (hi : (k0 : Nat) = i) (pos : Nat) (hp : L[pos]? = some (i, .int x)) (k : Ex a0 own cb nL rt dp sc ι (pc + 1) L (.int x :: st) μ o) : Ex a0 own cb nL rt dp sc ι pc L (st) μ o := by
  intro r hr p l e R s m args below meth c cells slots Q cy D C K H locs ls hW hS hl
  exact lv_iload_n C.1 C.2.1 d hi (lv_at hl pos hp) (k r hr p l e R s m args below meth c cells slots Q cy D C K H locs ls hW hS hl)
theorem Ex_iload {i : Nat} {x : Int32} (d : decode cb pc = .ok (.iload i, 2)) (pos : Nat) (hp : L[pos]? = some (i, .int x)) (k : Ex a0 own cb nL rt dp sc ι (pc + 2) L (.int x :: st) μ o) : Ex a0 own cb nL rt dp sc ι pc L (st) μ o := by
  intro r hr p l e R s m args below meth c cells slots Q cy D C K H locs ls hW hS hl
  exact lv_iload C.1 C.2.1 d (lv_at hl pos hp) (k r hr p l e R s m args below meth c cells slots Q cy D C K H locs ls hW hS hl)
theorem Ex_aload_n {k0 : Fin 4} {i x : Nat} (d : decode cb pc = .ok (.aload_n k0, 1)) (hi : (k0 : Nat) = i) (pos : Nat) (hp : L[pos]? = some (i, .ref x)) (k : Ex a0 own cb nL rt dp sc ι (pc + 1) L (.ref x :: st) μ o) : Ex a0 own cb nL rt dp sc ι pc L (st) μ o := by
  intro r hr p l e R s m args below meth c cells slots Q cy D C K H locs ls hW hS hl
  exact lv_aload_n C.1 C.2.1 d hi (lv_at hl pos hp) (k r hr p l e R s m args below meth c cells slots Q cy D C K H locs ls hW hS hl)
theorem Ex_aload {i x : Nat} (d : decode cb pc = .ok (.aload i, 2)) (pos : Nat) (hp : L[pos]? = some (i, .ref x)) (k : Ex a0 own cb nL rt dp sc ι (pc + 2) L (.ref x :: st) μ o) : Ex a0 own cb nL rt dp sc ι pc L (st) μ o := by
  intro r hr p l e R s m args below meth c cells slots Q cy D C K H locs ls hW hS hl
  exact lv_aload C.1 C.2.1 d (lv_at hl pos hp) (k r hr p l e R s m args below meth c cells slots Q cy D C K H locs ls hW hS hl)
theorem Ex_istore_n {k0 : Fin 4} {i : Nat} {x : Int32} {L2 : List (Nat × Value)} (d : decode cb pc = .ok (.istore_n k0, 1)) (hi : (k0 : Nat) = i) (hn : i < nL) (hL : (i, Value.int x) :: L.filter (fun q => !(q.1 == i) && !(q.1 + 1 == i && q.2.category == 2)) = L2) (k : Ex a0 own cb nL rt dp sc ι (pc + 1) L2 st μ o) : Ex a0 own cb nL rt dp sc ι pc L (.int x :: st) μ o := by
  intro r hr p l e R s m args below meth c cells slots Q cy D C K H locs ls hW hS hl
  exact lv_istore_n C.1 C.2.1 d hi hl hn hL (fun ls hl => k r hr p l e R s m args below meth c cells slots Q cy D C K H locs ls hW hS hl)
theorem Ex_istore {i : Nat} {x : Int32} {L2 : List (Nat × Value)} (d : decode cb pc = .ok (.istore i, 2)) (hn : i < nL) (hL : (i, Value.int x) :: L.filter (fun q => !(q.1 == i) && !(q.1 + 1 == i && q.2.category == 2)) = L2) (k : Ex a0 own cb nL rt dp sc ι (pc + 2) L2 st μ o) : Ex a0 own cb nL rt dp sc ι pc L (.int x :: st) μ o := by
  intro r hr p l e R s m args below meth c cells slots Q cy D C K H locs ls hW hS hl
  exact lv_istore C.1 C.2.1 d  hl hn hL (fun ls hl => k r hr p l e R s m args below meth c cells slots Q cy D C K H locs ls hW hS hl)
theorem Ex_astore_n {k0 : Fin 4} {i : Nat} {x : Nat} {L2 : List (Nat × Value)} (d : decode cb pc = .ok (.astore_n k0, 1)) (hi : (k0 : Nat) = i) (hn : i < nL) (hL : (i, Value.ref x) :: L.filter (fun q => !(q.1 == i) && !(q.1 + 1 == i && q.2.category == 2)) = L2) (k : Ex a0 own cb nL rt dp sc ι (pc + 1) L2 st μ o) : Ex a0 own cb nL rt dp sc ι pc L (.ref x :: st) μ o := by
  intro r hr p l e R s m args below meth c cells slots Q cy D C K H locs ls hW hS hl
  exact lv_astore_n C.1 C.2.1 d hi hl hn hL (fun ls hl => k r hr p l e R s m args below meth c cells slots Q cy D C K H locs ls hW hS hl)
theorem Ex_astore {i : Nat} {x : Nat} {L2 : List (Nat × Value)} (d : decode cb pc = .ok (.astore i, 2)) (hn : i < nL) (hL : (i, Value.ref x) :: L.filter (fun q => !(q.1 == i) && !(q.1 + 1 == i && q.2.category == 2)) = L2) (k : Ex a0 own cb nL rt dp sc ι (pc + 2) L2 st μ o) : Ex a0 own cb nL rt dp sc ι pc L (.ref x :: st) μ o := by
  intro r hr p l e R s m args below meth c cells slots Q cy D C K H locs ls hW hS hl
  exact lv_astore C.1 C.2.1 d  hl hn hL (fun ls hl => k r hr p l e R s m args below meth c cells slots Q cy D C K H locs ls hW hS hl)
theorem Ex_iinc {i : Nat} {n : Int} {x v : Int32} {L2 : List (Nat × Value)} (d : decode cb pc = .ok (.iinc i n, 3)) (pos : Nat) (hp : L[pos]? = some (i, .int x)) (hv : x + Int32.ofInt n = v) (hn : i < nL) (hL : (i, Value.int v) :: L.filter (fun q => !(q.1 == i) && !(q.1 + 1 == i && q.2.category == 2)) = L2) (k : Ex a0 own cb nL rt dp sc ι (pc + 3) L2 st μ o) : Ex a0 own cb nL rt dp sc ι pc L st μ o := by
  intro r hr p l e R s m args below meth c cells slots Q cy D C K H locs ls hW hS hl
  exact lv_iinc (k := pos) C.1 C.2.1 d hl hp hv hn hL (fun ls hl => k r hr p l e R s m args below meth c cells slots Q cy D C K H locs ls hW hS hl)
theorem Ex_iadd {x y : Int32} (d : decode cb pc = .ok (.iadd, 1)) (k : Ex a0 own cb nL rt dp sc ι (pc + 1) L (.int (x + y) :: st) μ o) : Ex a0 own cb nL rt dp sc ι pc L (.int y :: .int x :: st) μ o := by
  intro r hr p l e R s m args below meth c cells slots Q cy D C K H locs ls hW hS hl
  exact lv_iadd C.1 C.2.1 d (k r hr p l e R s m args below meth c cells slots Q cy D C K H locs ls hW hS hl)
theorem Ex_isub {x y : Int32} (d : decode cb pc = .ok (.isub, 1)) (k : Ex a0 own cb nL rt dp sc ι (pc + 1) L (.int (x - y) :: st) μ o) : Ex a0 own cb nL rt dp sc ι pc L (.int y :: .int x :: st) μ o := by
  intro r hr p l e R s m args below meth c cells slots Q cy D C K H locs ls hW hS hl
  exact lv_isub C.1 C.2.1 d (k r hr p l e R s m args below meth c cells slots Q cy D C K H locs ls hW hS hl)
theorem Ex_imul {x y : Int32} (d : decode cb pc = .ok (.imul, 1)) (k : Ex a0 own cb nL rt dp sc ι (pc + 1) L (.int (x * y) :: st) μ o) : Ex a0 own cb nL rt dp sc ι pc L (.int y :: .int x :: st) μ o := by
  intro r hr p l e R s m args below meth c cells slots Q cy D C K H locs ls hW hS hl
  exact lv_imul C.1 C.2.1 d (k r hr p l e R s m args below meth c cells slots Q cy D C K H locs ls hW hS hl)
theorem Ex_iand {x y : Int32} (d : decode cb pc = .ok (.iand, 1)) (k : Ex a0 own cb nL rt dp sc ι (pc + 1) L (.int (x &&& y) :: st) μ o) : Ex a0 own cb nL rt dp sc ι pc L (.int y :: .int x :: st) μ o := by
  intro r hr p l e R s m args below meth c cells slots Q cy D C K H locs ls hW hS hl
  exact lv_iand C.1 C.2.1 d (k r hr p l e R s m args below meth c cells slots Q cy D C K H locs ls hW hS hl)
theorem Ex_ior {x y : Int32} (d : decode cb pc = .ok (.ior, 1)) (k : Ex a0 own cb nL rt dp sc ι (pc + 1) L (.int (x ||| y) :: st) μ o) : Ex a0 own cb nL rt dp sc ι pc L (.int y :: .int x :: st) μ o := by
  intro r hr p l e R s m args below meth c cells slots Q cy D C K H locs ls hW hS hl
  exact lv_ior C.1 C.2.1 d (k r hr p l e R s m args below meth c cells slots Q cy D C K H locs ls hW hS hl)
theorem Ex_ixor {x y : Int32} (d : decode cb pc = .ok (.ixor, 1)) (k : Ex a0 own cb nL rt dp sc ι (pc + 1) L (.int (x ^^^ y) :: st) μ o) : Ex a0 own cb nL rt dp sc ι pc L (.int y :: .int x :: st) μ o := by
  intro r hr p l e R s m args below meth c cells slots Q cy D C K H locs ls hW hS hl
  exact lv_ixor C.1 C.2.1 d (k r hr p l e R s m args below meth c cells slots Q cy D C K H locs ls hW hS hl)
theorem Ex_ishl {x y : Int32} (d : decode cb pc = .ok (.ishl, 1)) (k : Ex a0 own cb nL rt dp sc ι (pc + 1) L (.int (x <<< (y &&& 31)) :: st) μ o) : Ex a0 own cb nL rt dp sc ι pc L (.int y :: .int x :: st) μ o := by
  intro r hr p l e R s m args below meth c cells slots Q cy D C K H locs ls hW hS hl
  exact lv_ishl C.1 C.2.1 d (k r hr p l e R s m args below meth c cells slots Q cy D C K H locs ls hW hS hl)
theorem Ex_ishr {x y : Int32} (d : decode cb pc = .ok (.ishr, 1)) (k : Ex a0 own cb nL rt dp sc ι (pc + 1) L (.int (x >>> (y &&& 31)) :: st) μ o) : Ex a0 own cb nL rt dp sc ι pc L (.int y :: .int x :: st) μ o := by
  intro r hr p l e R s m args below meth c cells slots Q cy D C K H locs ls hW hS hl
  exact lv_ishr C.1 C.2.1 d (k r hr p l e R s m args below meth c cells slots Q cy D C K H locs ls hW hS hl)
theorem Ex_ineg {x : Int32} (d : decode cb pc = .ok (.ineg, 1)) (k : Ex a0 own cb nL rt dp sc ι (pc + 1) L (.int (-x) :: st) μ o) : Ex a0 own cb nL rt dp sc ι pc L (.int x :: st) μ o := by
  intro r hr p l e R s m args below meth c cells slots Q cy D C K H locs ls hW hS hl
  exact lv_ineg C.1 C.2.1 d (k r hr p l e R s m args below meth c cells slots Q cy D C K H locs ls hW hS hl)
theorem Ex_iushr {x y v : Int32} (d : decode cb pc = .ok (.iushr, 1)) (hv : (x.toUInt32 >>> (y.toUInt32 &&& Int32.toUInt32 31)).toInt32 = v) (k : Ex a0 own cb nL rt dp sc ι (pc + 1) L (.int v :: st) μ o) : Ex a0 own cb nL rt dp sc ι pc L (.int y :: .int x :: st) μ o := by
  intro r hr p l e R s m args below meth c cells slots Q cy D C K H locs ls hW hS hl
  exact lv_iushr C.1 C.2.1 d hv (k r hr p l e R s m args below meth c cells slots Q cy D C K H locs ls hW hS hl)
theorem Ex_i2b {x v : Int32} (d : decode cb pc = .ok (.i2b, 1)) (hv : x.toInt8.toInt32 = v) (k : Ex a0 own cb nL rt dp sc ι (pc + 1) L (.int v :: st) μ o) : Ex a0 own cb nL rt dp sc ι pc L (.int x :: st) μ o := by
  intro r hr p l e R s m args below meth c cells slots Q cy D C K H locs ls hW hS hl
  exact lv_i2b C.1 C.2.1 d hv (k r hr p l e R s m args below meth c cells slots Q cy D C K H locs ls hW hS hl)
theorem Ex_ladd {x y : Int64} (d : decode cb pc = .ok (.ladd, 1)) (k : Ex a0 own cb nL rt dp sc ι (pc + 1) L (.long (x + y) :: st) μ o) : Ex a0 own cb nL rt dp sc ι pc L (.long y :: .long x :: st) μ o := by
  intro r hr p l e R s m args below meth c cells slots Q cy D C K H locs ls hW hS hl
  exact lv_ladd C.1 C.2.1 d (k r hr p l e R s m args below meth c cells slots Q cy D C K H locs ls hW hS hl)
theorem Ex_lcmp {x y : Int64} (d : decode cb pc = .ok (.lcmp, 1)) (k : Ex a0 own cb nL rt dp sc ι (pc + 1) L (.int (lg_cmp x y) :: st) μ o) : Ex a0 own cb nL rt dp sc ι pc L (.long y :: .long x :: st) μ o := by
  intro r hr p l e R s m args below meth c cells slots Q cy D C K H locs ls hW hS hl
  exact W.lcmp C.1 C.2.1 d (k r hr p l e R s m args below meth c cells slots Q cy D C K H locs ls hW hS hl)
theorem Ex_dup {va : Value} (d : decode cb pc = .ok (.dup, 1)) (hva : va.category = 1) (k : Ex a0 own cb nL rt dp sc ι (pc + 1) L (va :: va :: st) μ o) : Ex a0 own cb nL rt dp sc ι pc L (va :: st) μ o := by
  intro r hr p l e R s m args below meth c cells slots Q cy D C K H locs ls hW hS hl
  exact lv_dup C.1 C.2.1 d hva (k r hr p l e R s m args below meth c cells slots Q cy D C K H locs ls hW hS hl)
theorem Ex_pop {va : Value} (d : decode cb pc = .ok (.pop, 1)) (hva : va.category = 1) (k : Ex a0 own cb nL rt dp sc ι (pc + 1) L (st) μ o) : Ex a0 own cb nL rt dp sc ι pc L (va :: st) μ o := by
  intro r hr p l e R s m args below meth c cells slots Q cy D C K H locs ls hW hS hl
  exact lv_pop C.1 C.2.1 d hva (k r hr p l e R s m args below meth c cells slots Q cy D C K H locs ls hW hS hl)
theorem Ex_dup2 {va vb : Value} (d : decode cb pc = .ok (.dup2, 1)) (hva : va.category = 1) (hvb : vb.category = 1) (k : Ex a0 own cb nL rt dp sc ι (pc + 1) L (va :: vb :: va :: vb :: st) μ o) : Ex a0 own cb nL rt dp sc ι pc L (va :: vb :: st) μ o := by
  intro r hr p l e R s m args below meth c cells slots Q cy D C K H locs ls hW hS hl
  exact lv_dup2_11 C.1 C.2.1 d hva hvb (k r hr p l e R s m args below meth c cells slots Q cy D C K H locs ls hW hS hl)
theorem Ex_goto {off : Int} {tgt : Nat} (d : decode cb pc = .ok (.goto off, 3)) (ht : (pc : Int) + off = (tgt : Int)) (k : Ex a0 own cb nL rt dp sc ι tgt L st μ o) : Ex a0 own cb nL rt dp sc ι pc L st μ o := by
  intro r hr p l e R s m args below meth c cells slots Q cy D C K H locs ls hW hS hl
  exact lv_goto C.1 C.2.1 d ht (k r hr p l e R s m args below meth c cells slots Q cy D C K H locs ls hW hS hl)
theorem Ex_idiv {x y : Int32} (d : decode cb pc = .ok (.idiv, 1)) (k : Ex a0 own cb nL rt dp sc ι (pc + 1) L (.int (x / y) :: st) μ o) : Ex a0 own cb nL rt dp sc ι pc L (.int y :: .int x :: st) μ (if y = 0 then none else o) := by
  intro r hr p l e R s m args below meth c cells slots Q cy D C K H locs ls hW hS hl
  by_cases hy : y = 0
  · rw [if_pos hy] at hr; cases hr
  · rw [if_neg hy] at hr
    exact lv_idiv C.1 C.2.1 d hy (k r hr p l e R s m args below meth c cells slots Q cy D C K H locs ls hW hS hl)
theorem Ex_idivC {x y : Int32} (d : decode cb pc = .ok (.idiv, 1)) (hy : ¬ y = 0) (k : Ex a0 own cb nL rt dp sc ι (pc + 1) L (.int (x / y) :: st) μ o) : Ex a0 own cb nL rt dp sc ι pc L (.int y :: .int x :: st) μ o := by
  intro r hr p l e R s m args below meth c cells slots Q cy D C K H locs ls hW hS hl
  exact lv_idiv C.1 C.2.1 d hy (k r hr p l e R s m args below meth c cells slots Q cy D C K H locs ls hW hS hl)
theorem Ex_irem {x y : Int32} (d : decode cb pc = .ok (.irem, 1)) (k : Ex a0 own cb nL rt dp sc ι (pc + 1) L (.int (x - x / y * y) :: st) μ o) : Ex a0 own cb nL rt dp sc ι pc L (.int y :: .int x :: st) μ (if y = 0 then none else o) := by
  intro r hr p l e R s m args below meth c cells slots Q cy D C K H locs ls hW hS hl
  by_cases hy : y = 0
  · rw [if_pos hy] at hr; cases hr
  · rw [if_neg hy] at hr
    exact lv_irem C.1 C.2.1 d hy (k r hr p l e R s m args below meth c cells slots Q cy D C K H locs ls hW hS hl)
theorem Ex_iremC {x y : Int32} (d : decode cb pc = .ok (.irem, 1)) (hy : ¬ y = 0) (k : Ex a0 own cb nL rt dp sc ι (pc + 1) L (.int (x - x / y * y) :: st) μ o) : Ex a0 own cb nL rt dp sc ι pc L (.int y :: .int x :: st) μ o := by
  intro r hr p l e R s m args below meth c cells slots Q cy D C K H locs ls hW hS hl
  exact lv_irem C.1 C.2.1 d hy (k r hr p l e R s m args below meth c cells slots Q cy D C K H locs ls hW hS hl)
theorem Ex_if_eq {x : Int32} {off : Int} {tgt : Nat} (d : decode cb pc = .ok (.ifCond .eq off, 3)) (ht : (pc : Int) + off = (tgt : Int)) (k1 : Ex a0 own cb nL rt dp sc ι tgt L st μ o1) (k2 : Ex a0 own cb nL rt dp sc ι (pc + 3) L st μ o2) : Ex a0 own cb nL rt dp sc ι pc L (.int x :: st) μ (if x = 0 then o1 else o2) := by
  intro r hr p l e R s m args below meth c cells slots Q cy D C K H locs ls hW hS hl
  exact lv_if_eq C.1 C.2.1 d ht (fun q => k1 r (by rw [if_pos q] at hr; exact hr) p l e R s m args below meth c cells slots Q cy D C K H locs ls hW hS hl) (fun q => k2 r (by rw [if_neg q] at hr; exact hr) p l e R s m args below meth c cells slots Q cy D C K H locs ls hW hS hl)
theorem Ex_if_eqT {x : Int32} {off : Int} {tgt : Nat} (d : decode cb pc = .ok (.ifCond .eq off, 3)) (ht : (pc : Int) + off = (tgt : Int)) (q : x = 0) (k1 : Ex a0 own cb nL rt dp sc ι tgt L st μ o) : Ex a0 own cb nL rt dp sc ι pc L (.int x :: st) μ o := by
  intro r hr p l e R s m args below meth c cells slots Q cy D C K H locs ls hW hS hl
  exact lv_if_eq C.1 C.2.1 d ht (fun _ => k1 r hr p l e R s m args below meth c cells slots Q cy D C K H locs ls hW hS hl) (fun z => absurd q z)
theorem Ex_if_eqF {x : Int32} {off : Int} {tgt : Nat} (d : decode cb pc = .ok (.ifCond .eq off, 3)) (ht : (pc : Int) + off = (tgt : Int)) (q : ¬ (x = 0)) (k2 : Ex a0 own cb nL rt dp sc ι (pc + 3) L st μ o) : Ex a0 own cb nL rt dp sc ι pc L (.int x :: st) μ o := by
  intro r hr p l e R s m args below meth c cells slots Q cy D C K H locs ls hW hS hl
  exact lv_if_eq C.1 C.2.1 d ht (fun z => absurd z q) (fun _ => k2 r hr p l e R s m args below meth c cells slots Q cy D C K H locs ls hW hS hl)
theorem Ex_icmp_eq {x y : Int32} {off : Int} {tgt : Nat} (d : decode cb pc = .ok (.if_icmp .eq off, 3)) (ht : (pc : Int) + off = (tgt : Int)) (k1 : Ex a0 own cb nL rt dp sc ι tgt L st μ o1) (k2 : Ex a0 own cb nL rt dp sc ι (pc + 3) L st μ o2) : Ex a0 own cb nL rt dp sc ι pc L (.int y :: .int x :: st) μ (if x = y then o1 else o2) := by
  intro r hr p l e R s m args below meth c cells slots Q cy D C K H locs ls hW hS hl
  exact lv_icmp_eq C.1 C.2.1 d ht (fun q => k1 r (by rw [if_pos q] at hr; exact hr) p l e R s m args below meth c cells slots Q cy D C K H locs ls hW hS hl) (fun q => k2 r (by rw [if_neg q] at hr; exact hr) p l e R s m args below meth c cells slots Q cy D C K H locs ls hW hS hl)
theorem Ex_icmp_eqT {x y : Int32} {off : Int} {tgt : Nat} (d : decode cb pc = .ok (.if_icmp .eq off, 3)) (ht : (pc : Int) + off = (tgt : Int)) (q : x = y) (k1 : Ex a0 own cb nL rt dp sc ι tgt L st μ o) : Ex a0 own cb nL rt dp sc ι pc L (.int y :: .int x :: st) μ o := by
  intro r hr p l e R s m args below meth c cells slots Q cy D C K H locs ls hW hS hl
  exact lv_icmp_eq C.1 C.2.1 d ht (fun _ => k1 r hr p l e R s m args below meth c cells slots Q cy D C K H locs ls hW hS hl) (fun z => absurd q z)
theorem Ex_icmp_eqF {x y : Int32} {off : Int} {tgt : Nat} (d : decode cb pc = .ok (.if_icmp .eq off, 3)) (ht : (pc : Int) + off = (tgt : Int)) (q : ¬ (x = y)) (k2 : Ex a0 own cb nL rt dp sc ι (pc + 3) L st μ o) : Ex a0 own cb nL rt dp sc ι pc L (.int y :: .int x :: st) μ o := by
  intro r hr p l e R s m args below meth c cells slots Q cy D C K H locs ls hW hS hl
  exact lv_icmp_eq C.1 C.2.1 d ht (fun z => absurd z q) (fun _ => k2 r hr p l e R s m args below meth c cells slots Q cy D C K H locs ls hW hS hl)
theorem Ex_if_ne {x : Int32} {off : Int} {tgt : Nat} (d : decode cb pc = .ok (.ifCond .ne off, 3)) (ht : (pc : Int) + off = (tgt : Int)) (k1 : Ex a0 own cb nL rt dp sc ι tgt L st μ o1) (k2 : Ex a0 own cb nL rt dp sc ι (pc + 3) L st μ o2) : Ex a0 own cb nL rt dp sc ι pc L (.int x :: st) μ (if x = 0 then o2 else o1) := by
  intro r hr p l e R s m args below meth c cells slots Q cy D C K H locs ls hW hS hl
  exact lv_if_ne C.1 C.2.1 d ht (fun q => k1 r (by rw [if_neg q] at hr; exact hr) p l e R s m args below meth c cells slots Q cy D C K H locs ls hW hS hl) (fun q => k2 r (by rw [if_pos q] at hr; exact hr) p l e R s m args below meth c cells slots Q cy D C K H locs ls hW hS hl)
theorem Ex_if_neT {x : Int32} {off : Int} {tgt : Nat} (d : decode cb pc = .ok (.ifCond .ne off, 3)) (ht : (pc : Int) + off = (tgt : Int)) (q : ¬ x = 0) (k1 : Ex a0 own cb nL rt dp sc ι tgt L st μ o) : Ex a0 own cb nL rt dp sc ι pc L (.int x :: st) μ o := by
  intro r hr p l e R s m args below meth c cells slots Q cy D C K H locs ls hW hS hl
  exact lv_if_ne C.1 C.2.1 d ht (fun _ => k1 r hr p l e R s m args below meth c cells slots Q cy D C K H locs ls hW hS hl) (fun z => absurd z q)
theorem Ex_if_neF {x : Int32} {off : Int} {tgt : Nat} (d : decode cb pc = .ok (.ifCond .ne off, 3)) (ht : (pc : Int) + off = (tgt : Int)) (q : x = 0) (k2 : Ex a0 own cb nL rt dp sc ι (pc + 3) L st μ o) : Ex a0 own cb nL rt dp sc ι pc L (.int x :: st) μ o := by
  intro r hr p l e R s m args below meth c cells slots Q cy D C K H locs ls hW hS hl
  exact lv_if_ne C.1 C.2.1 d ht (fun z => absurd q z) (fun _ => k2 r hr p l e R s m args below meth c cells slots Q cy D C K H locs ls hW hS hl)
theorem Ex_icmp_ne {x y : Int32} {off : Int} {tgt : Nat} (d : decode cb pc = .ok (.if_icmp .ne off, 3)) (ht : (pc : Int) + off = (tgt : Int)) (k1 : Ex a0 own cb nL rt dp sc ι tgt L st μ o1) (k2 : Ex a0 own cb nL rt dp sc ι (pc + 3) L st μ o2) : Ex a0 own cb nL rt dp sc ι pc L (.int y :: .int x :: st) μ (if x = y then o2 else o1) := by
  intro r hr p l e R s m args below meth c cells slots Q cy D C K H locs ls hW hS hl
  exact lv_icmp_ne C.1 C.2.1 d ht (fun q => k1 r (by rw [if_neg q] at hr; exact hr) p l e R s m args below meth c cells slots Q cy D C K H locs ls hW hS hl) (fun q => k2 r (by rw [if_pos q] at hr; exact hr) p l e R s m args below meth c cells slots Q cy D C K H locs ls hW hS hl)
theorem Ex_icmp_neT {x y : Int32} {off : Int} {tgt : Nat} (d : decode cb pc = .ok (.if_icmp .ne off, 3)) (ht : (pc : Int) + off = (tgt : Int)) (q : ¬ x = y) (k1 : Ex a0 own cb nL rt dp sc ι tgt L st μ o) : Ex a0 own cb nL rt dp sc ι pc L (.int y :: .int x :: st) μ o := by
  intro r hr p l e R s m args below meth c cells slots Q cy D C K H locs ls hW hS hl
  exact lv_icmp_ne C.1 C.2.1 d ht (fun _ => k1 r hr p l e R s m args below meth c cells slots Q cy D C K H locs ls hW hS hl) (fun z => absurd z q)
theorem Ex_icmp_neF {x y : Int32} {off : Int} {tgt : Nat} (d : decode cb pc = .ok (.if_icmp .ne off, 3)) (ht : (pc : Int) + off = (tgt : Int)) (q : x = y) (k2 : Ex a0 own cb nL rt dp sc ι (pc + 3) L st μ o) : Ex a0 own cb nL rt dp sc ι pc L (.int y :: .int x :: st) μ o := by
  intro r hr p l e R s m args below meth c cells slots Q cy D C K H locs ls hW hS hl
  exact lv_icmp_ne C.1 C.2.1 d ht (fun z => absurd q z) (fun _ => k2 r hr p l e R s m args below meth c cells slots Q cy D C K H locs ls hW hS hl)
theorem Ex_if_lt {x : Int32} {off : Int} {tgt : Nat} (d : decode cb pc = .ok (.ifCond .lt off, 3)) (ht : (pc : Int) + off = (tgt : Int)) (k1 : Ex a0 own cb nL rt dp sc ι tgt L st μ o1) (k2 : Ex a0 own cb nL rt dp sc ι (pc + 3) L st μ o2) : Ex a0 own cb nL rt dp sc ι pc L (.int x :: st) μ (if x < 0 then o1 else o2) := by
  intro r hr p l e R s m args below meth c cells slots Q cy D C K H locs ls hW hS hl
  exact lv_if_lt C.1 C.2.1 d ht (fun q => k1 r (by rw [if_pos q] at hr; exact hr) p l e R s m args below meth c cells slots Q cy D C K H locs ls hW hS hl) (fun q => k2 r (by rw [if_neg q] at hr; exact hr) p l e R s m args below meth c cells slots Q cy D C K H locs ls hW hS hl)
theorem Ex_if_ltT {x : Int32} {off : Int} {tgt : Nat} (d : decode cb pc = .ok (.ifCond .lt off, 3)) (ht : (pc : Int) + off = (tgt : Int)) (q : x < 0) (k1 : Ex a0 own cb nL rt dp sc ι tgt L st μ o) : Ex a0 own cb nL rt dp sc ι pc L (.int x :: st) μ o := by
  intro r hr p l e R s m args below meth c cells slots Q cy D C K H locs ls hW hS hl
  exact lv_if_lt C.1 C.2.1 d ht (fun _ => k1 r hr p l e R s m args below meth c cells slots Q cy D C K H locs ls hW hS hl) (fun z => absurd q z)
theorem Ex_if_ltF {x : Int32} {off : Int} {tgt : Nat} (d : decode cb pc = .ok (.ifCond .lt off, 3)) (ht : (pc : Int) + off = (tgt : Int)) (q : ¬ (x < 0)) (k2 : Ex a0 own cb nL rt dp sc ι (pc + 3) L st μ o) : Ex a0 own cb nL rt dp sc ι pc L (.int x :: st) μ o := by
  intro r hr p l e R s m args below meth c cells slots Q cy D C K H locs ls hW hS hl
  exact lv_if_lt C.1 C.2.1 d ht (fun z => absurd z q) (fun _ => k2 r hr p l e R s m args below meth c cells slots Q cy D C K H locs ls hW hS hl)
theorem Ex_icmp_lt {x y : Int32} {off : Int} {tgt : Nat} (d : decode cb pc = .ok (.if_icmp .lt off, 3)) (ht : (pc : Int) + off = (tgt : Int)) (k1 : Ex a0 own cb nL rt dp sc ι tgt L st μ o1) (k2 : Ex a0 own cb nL rt dp sc ι (pc + 3) L st μ o2) : Ex a0 own cb nL rt dp sc ι pc L (.int y :: .int x :: st) μ (if x < y then o1 else o2) := by
  intro r hr p l e R s m args below meth c cells slots Q cy D C K H locs ls hW hS hl
  exact lv_icmp_lt C.1 C.2.1 d ht (fun q => k1 r (by rw [if_pos q] at hr; exact hr) p l e R s m args below meth c cells slots Q cy D C K H locs ls hW hS hl) (fun q => k2 r (by rw [if_neg q] at hr; exact hr) p l e R s m args below meth c cells slots Q cy D C K H locs ls hW hS hl)
theorem Ex_icmp_ltT {x y : Int32} {off : Int} {tgt : Nat} (d : decode cb pc = .ok (.if_icmp .lt off, 3)) (ht : (pc : Int) + off = (tgt : Int)) (q : x < y) (k1 : Ex a0 own cb nL rt dp sc ι tgt L st μ o) : Ex a0 own cb nL rt dp sc ι pc L (.int y :: .int x :: st) μ o := by
  intro r hr p l e R s m args below meth c cells slots Q cy D C K H locs ls hW hS hl
  exact lv_icmp_lt C.1 C.2.1 d ht (fun _ => k1 r hr p l e R s m args below meth c cells slots Q cy D C K H locs ls hW hS hl) (fun z => absurd q z)
theorem Ex_icmp_ltF {x y : Int32} {off : Int} {tgt : Nat} (d : decode cb pc = .ok (.if_icmp .lt off, 3)) (ht : (pc : Int) + off = (tgt : Int)) (q : ¬ (x < y)) (k2 : Ex a0 own cb nL rt dp sc ι (pc + 3) L st μ o) : Ex a0 own cb nL rt dp sc ι pc L (.int y :: .int x :: st) μ o := by
  intro r hr p l e R s m args below meth c cells slots Q cy D C K H locs ls hW hS hl
  exact lv_icmp_lt C.1 C.2.1 d ht (fun z => absurd z q) (fun _ => k2 r hr p l e R s m args below meth c cells slots Q cy D C K H locs ls hW hS hl)
theorem Ex_if_ge {x : Int32} {off : Int} {tgt : Nat} (d : decode cb pc = .ok (.ifCond .ge off, 3)) (ht : (pc : Int) + off = (tgt : Int)) (k1 : Ex a0 own cb nL rt dp sc ι tgt L st μ o1) (k2 : Ex a0 own cb nL rt dp sc ι (pc + 3) L st μ o2) : Ex a0 own cb nL rt dp sc ι pc L (.int x :: st) μ (if x < 0 then o2 else o1) := by
  intro r hr p l e R s m args below meth c cells slots Q cy D C K H locs ls hW hS hl
  exact lv_if_ge C.1 C.2.1 d ht (fun q => k1 r (by rw [if_neg (by intro z; exact absurd q (Int32.not_le.mpr z))] at hr; exact hr) p l e R s m args below meth c cells slots Q cy D C K H locs ls hW hS hl) (fun q => k2 r (by rw [if_pos (Int32.not_le.mp q)] at hr; exact hr) p l e R s m args below meth c cells slots Q cy D C K H locs ls hW hS hl)
theorem Ex_if_geT {x : Int32} {off : Int} {tgt : Nat} (d : decode cb pc = .ok (.ifCond .ge off, 3)) (ht : (pc : Int) + off = (tgt : Int)) (q : 0 ≤ x) (k1 : Ex a0 own cb nL rt dp sc ι tgt L st μ o) : Ex a0 own cb nL rt dp sc ι pc L (.int x :: st) μ o := by
  intro r hr p l e R s m args below meth c cells slots Q cy D C K H locs ls hW hS hl
  exact lv_if_ge C.1 C.2.1 d ht (fun _ => k1 r hr p l e R s m args below meth c cells slots Q cy D C K H locs ls hW hS hl) (fun z => absurd q z)
theorem Ex_if_geF {x : Int32} {off : Int} {tgt : Nat} (d : decode cb pc = .ok (.ifCond .ge off, 3)) (ht : (pc : Int) + off = (tgt : Int)) (q : ¬ (0 ≤ x)) (k2 : Ex a0 own cb nL rt dp sc ι (pc + 3) L st μ o) : Ex a0 own cb nL rt dp sc ι pc L (.int x :: st) μ o := by
  intro r hr p l e R s m args below meth c cells slots Q cy D C K H locs ls hW hS hl
  exact lv_if_ge C.1 C.2.1 d ht (fun z => absurd z q) (fun _ => k2 r hr p l e R s m args below meth c cells slots Q cy D C K H locs ls hW hS hl)
theorem Ex_icmp_ge {x y : Int32} {off : Int} {tgt : Nat} (d : decode cb pc = .ok (.if_icmp .ge off, 3)) (ht : (pc : Int) + off = (tgt : Int)) (k1 : Ex a0 own cb nL rt dp sc ι tgt L st μ o1) (k2 : Ex a0 own cb nL rt dp sc ι (pc + 3) L st μ o2) : Ex a0 own cb nL rt dp sc ι pc L (.int y :: .int x :: st) μ (if x < y then o2 else o1) := by
  intro r hr p l e R s m args below meth c cells slots Q cy D C K H locs ls hW hS hl
  exact lv_icmp_ge C.1 C.2.1 d ht (fun q => k1 r (by rw [if_neg (by intro z; exact absurd q (Int32.not_le.mpr z))] at hr; exact hr) p l e R s m args below meth c cells slots Q cy D C K H locs ls hW hS hl) (fun q => k2 r (by rw [if_pos (Int32.not_le.mp q)] at hr; exact hr) p l e R s m args below meth c cells slots Q cy D C K H locs ls hW hS hl)
theorem Ex_icmp_geT {x y : Int32} {off : Int} {tgt : Nat} (d : decode cb pc = .ok (.if_icmp .ge off, 3)) (ht : (pc : Int) + off = (tgt : Int)) (q : y ≤ x) (k1 : Ex a0 own cb nL rt dp sc ι tgt L st μ o) : Ex a0 own cb nL rt dp sc ι pc L (.int y :: .int x :: st) μ o := by
  intro r hr p l e R s m args below meth c cells slots Q cy D C K H locs ls hW hS hl
  exact lv_icmp_ge C.1 C.2.1 d ht (fun _ => k1 r hr p l e R s m args below meth c cells slots Q cy D C K H locs ls hW hS hl) (fun z => absurd q z)
theorem Ex_icmp_geF {x y : Int32} {off : Int} {tgt : Nat} (d : decode cb pc = .ok (.if_icmp .ge off, 3)) (ht : (pc : Int) + off = (tgt : Int)) (q : ¬ (y ≤ x)) (k2 : Ex a0 own cb nL rt dp sc ι (pc + 3) L st μ o) : Ex a0 own cb nL rt dp sc ι pc L (.int y :: .int x :: st) μ o := by
  intro r hr p l e R s m args below meth c cells slots Q cy D C K H locs ls hW hS hl
  exact lv_icmp_ge C.1 C.2.1 d ht (fun z => absurd z q) (fun _ => k2 r hr p l e R s m args below meth c cells slots Q cy D C K H locs ls hW hS hl)
theorem Ex_if_gt {x : Int32} {off : Int} {tgt : Nat} (d : decode cb pc = .ok (.ifCond .gt off, 3)) (ht : (pc : Int) + off = (tgt : Int)) (k1 : Ex a0 own cb nL rt dp sc ι tgt L st μ o1) (k2 : Ex a0 own cb nL rt dp sc ι (pc + 3) L st μ o2) : Ex a0 own cb nL rt dp sc ι pc L (.int x :: st) μ (if 0 < x then o1 else o2) := by
  intro r hr p l e R s m args below meth c cells slots Q cy D C K H locs ls hW hS hl
  exact lv_if_gt C.1 C.2.1 d ht (fun q => k1 r (by rw [if_pos q] at hr; exact hr) p l e R s m args below meth c cells slots Q cy D C K H locs ls hW hS hl) (fun q => k2 r (by rw [if_neg q] at hr; exact hr) p l e R s m args below meth c cells slots Q cy D C K H locs ls hW hS hl)
theorem Ex_if_gtT {x : Int32} {off : Int} {tgt : Nat} (d : decode cb pc = .ok (.ifCond .gt off, 3)) (ht : (pc : Int) + off = (tgt : Int)) (q : 0 < x) (k1 : Ex a0 own cb nL rt dp sc ι tgt L st μ o) : Ex a0 own cb nL rt dp sc ι pc L (.int x :: st) μ o := by
  intro r hr p l e R s m args below meth c cells slots Q cy D C K H locs ls hW hS hl
  exact lv_if_gt C.1 C.2.1 d ht (fun _ => k1 r hr p l e R s m args below meth c cells slots Q cy D C K H locs ls hW hS hl) (fun z => absurd q z)
theorem Ex_if_gtF {x : Int32} {off : Int} {tgt : Nat} (d : decode cb pc = .ok (.ifCond .gt off, 3)) (ht : (pc : Int) + off = (tgt : Int)) (q : ¬ (0 < x)) (k2 : Ex a0 own cb nL rt dp sc ι (pc + 3) L st μ o) : Ex a0 own cb nL rt dp sc ι pc L (.int x :: st) μ o := by
  intro r hr p l e R s m args below meth c cells slots Q cy D C K H locs ls hW hS hl
  exact lv_if_gt C.1 C.2.1 d ht (fun z => absurd z q) (fun _ => k2 r hr p l e R s m args below meth c cells slots Q cy D C K H locs ls hW hS hl)
theorem Ex_icmp_gt {x y : Int32} {off : Int} {tgt : Nat} (d : decode cb pc = .ok (.if_icmp .gt off, 3)) (ht : (pc : Int) + off = (tgt : Int)) (k1 : Ex a0 own cb nL rt dp sc ι tgt L st μ o1) (k2 : Ex a0 own cb nL rt dp sc ι (pc + 3) L st μ o2) : Ex a0 own cb nL rt dp sc ι pc L (.int y :: .int x :: st) μ (if y < x then o1 else o2) := by
  intro r hr p l e R s m args below meth c cells slots Q cy D C K H locs ls hW hS hl
  exact lv_icmp_gt C.1 C.2.1 d ht (fun q => k1 r (by rw [if_pos q] at hr; exact hr) p l e R s m args below meth c cells slots Q cy D C K H locs ls hW hS hl) (fun q => k2 r (by rw [if_neg q] at hr; exact hr) p l e R s m args below meth c cells slots Q cy D C K H locs ls hW hS hl)
theorem Ex_icmp_gtT {x y : Int32} {off : Int} {tgt : Nat} (d : decode cb pc = .ok (.if_icmp .gt off, 3)) (ht : (pc : Int) + off = (tgt : Int)) (q : y < x) (k1 : Ex a0 own cb nL rt dp sc ι tgt L st μ o) : Ex a0 own cb nL rt dp sc ι pc L (.int y :: .int x :: st) μ o := by
  intro r hr p l e R s m args below meth c cells slots Q cy D C K H locs ls hW hS hl
  exact lv_icmp_gt C.1 C.2.1 d ht (fun _ => k1 r hr p l e R s m args below meth c cells slots Q cy D C K H locs ls hW hS hl) (fun z => absurd q z)
theorem Ex_icmp_gtF {x y : Int32} {off : Int} {tgt : Nat} (d : decode cb pc = .ok (.if_icmp .gt off, 3)) (ht : (pc : Int) + off = (tgt : Int)) (q : ¬ (y < x)) (k2 : Ex a0 own cb nL rt dp sc ι (pc + 3) L st μ o) : Ex a0 own cb nL rt dp sc ι pc L (.int y :: .int x :: st) μ o := by
  intro r hr p l e R s m args below meth c cells slots Q cy D C K H locs ls hW hS hl
  exact lv_icmp_gt C.1 C.2.1 d ht (fun z => absurd z q) (fun _ => k2 r hr p l e R s m args below meth c cells slots Q cy D C K H locs ls hW hS hl)
theorem Ex_if_le {x : Int32} {off : Int} {tgt : Nat} (d : decode cb pc = .ok (.ifCond .le off, 3)) (ht : (pc : Int) + off = (tgt : Int)) (k1 : Ex a0 own cb nL rt dp sc ι tgt L st μ o1) (k2 : Ex a0 own cb nL rt dp sc ι (pc + 3) L st μ o2) : Ex a0 own cb nL rt dp sc ι pc L (.int x :: st) μ (if 0 < x then o2 else o1) := by
  intro r hr p l e R s m args below meth c cells slots Q cy D C K H locs ls hW hS hl
  exact lv_if_le C.1 C.2.1 d ht (fun q => k1 r (by rw [if_neg (by intro z; exact absurd q (Int32.not_le.mpr z))] at hr; exact hr) p l e R s m args below meth c cells slots Q cy D C K H locs ls hW hS hl) (fun q => k2 r (by rw [if_pos (Int32.not_le.mp q)] at hr; exact hr) p l e R s m args below meth c cells slots Q cy D C K H locs ls hW hS hl)
theorem Ex_if_leT {x : Int32} {off : Int} {tgt : Nat} (d : decode cb pc = .ok (.ifCond .le off, 3)) (ht : (pc : Int) + off = (tgt : Int)) (q : x ≤ 0) (k1 : Ex a0 own cb nL rt dp sc ι tgt L st μ o) : Ex a0 own cb nL rt dp sc ι pc L (.int x :: st) μ o := by
  intro r hr p l e R s m args below meth c cells slots Q cy D C K H locs ls hW hS hl
  exact lv_if_le C.1 C.2.1 d ht (fun _ => k1 r hr p l e R s m args below meth c cells slots Q cy D C K H locs ls hW hS hl) (fun z => absurd q z)
theorem Ex_if_leF {x : Int32} {off : Int} {tgt : Nat} (d : decode cb pc = .ok (.ifCond .le off, 3)) (ht : (pc : Int) + off = (tgt : Int)) (q : ¬ (x ≤ 0)) (k2 : Ex a0 own cb nL rt dp sc ι (pc + 3) L st μ o) : Ex a0 own cb nL rt dp sc ι pc L (.int x :: st) μ o := by
  intro r hr p l e R s m args below meth c cells slots Q cy D C K H locs ls hW hS hl
  exact lv_if_le C.1 C.2.1 d ht (fun z => absurd z q) (fun _ => k2 r hr p l e R s m args below meth c cells slots Q cy D C K H locs ls hW hS hl)
theorem Ex_icmp_le {x y : Int32} {off : Int} {tgt : Nat} (d : decode cb pc = .ok (.if_icmp .le off, 3)) (ht : (pc : Int) + off = (tgt : Int)) (k1 : Ex a0 own cb nL rt dp sc ι tgt L st μ o1) (k2 : Ex a0 own cb nL rt dp sc ι (pc + 3) L st μ o2) : Ex a0 own cb nL rt dp sc ι pc L (.int y :: .int x :: st) μ (if y < x then o2 else o1) := by
  intro r hr p l e R s m args below meth c cells slots Q cy D C K H locs ls hW hS hl
  exact lv_icmp_le C.1 C.2.1 d ht (fun q => k1 r (by rw [if_neg (by intro z; exact absurd q (Int32.not_le.mpr z))] at hr; exact hr) p l e R s m args below meth c cells slots Q cy D C K H locs ls hW hS hl) (fun q => k2 r (by rw [if_pos (Int32.not_le.mp q)] at hr; exact hr) p l e R s m args below meth c cells slots Q cy D C K H locs ls hW hS hl)
theorem Ex_icmp_leT {x y : Int32} {off : Int} {tgt : Nat} (d : decode cb pc = .ok (.if_icmp .le off, 3)) (ht : (pc : Int) + off = (tgt : Int)) (q : x ≤ y) (k1 : Ex a0 own cb nL rt dp sc ι tgt L st μ o) : Ex a0 own cb nL rt dp sc ι pc L (.int y :: .int x :: st) μ o := by
  intro r hr p l e R s m args below meth c cells slots Q cy D C K H locs ls hW hS hl
  exact lv_icmp_le C.1 C.2.1 d ht (fun _ => k1 r hr p l e R s m args below meth c cells slots Q cy D C K H locs ls hW hS hl) (fun z => absurd q z)
theorem Ex_icmp_leF {x y : Int32} {off : Int} {tgt : Nat} (d : decode cb pc = .ok (.if_icmp .le off, 3)) (ht : (pc : Int) + off = (tgt : Int)) (q : ¬ (x ≤ y)) (k2 : Ex a0 own cb nL rt dp sc ι (pc + 3) L st μ o) : Ex a0 own cb nL rt dp sc ι pc L (.int y :: .int x :: st) μ o := by
  intro r hr p l e R s m args below meth c cells slots Q cy D C K H locs ls hW hS hl
  exact lv_icmp_le C.1 C.2.1 d ht (fun z => absurd z q) (fun _ => k2 r hr p l e R s m args below meth c cells slots Q cy D C K H locs ls hW hS hl)
theorem Ex_iret {v : Int32} {r0 : α} (d : decode cb pc = .ok (.ireturn, 1)) (hι : ι r0 = (some (.int v), μ)) (hn : ∀ ty, rt = some ty → narrow ty (.int v) = .int v) : Ex a0 own cb nL rt dp sc ι pc L [.int v] μ (some r0) := by
  intro r hr p l e R s m args below meth c cells slots Q cy D C K H locs ls hW hS hl
  cases hr
  unfold RC at K
  rw [hι] at K
  exact K H locs ls pc hW hS d (fun ty w h1 h2 => by cases h2; exact hn ty h1)
theorem Ex_lret {v : Int64} {r0 : α} (d : decode cb pc = .ok (.lreturn, 1)) (hι : ι r0 = (some (.long v), μ)) (hn : ∀ ty, rt = some ty → narrow ty (.long v) = .long v) : Ex a0 own cb nL rt dp sc ι pc L [.long v] μ (some r0) := by
  intro r hr p l e R s m args below meth c cells slots Q cy D C K H locs ls hW hS hl
  cases hr
  unfold RC at K
  rw [hι] at K
  exact K H locs ls pc hW hS d (fun ty w h1 h2 => by cases h2; exact hn ty h1)
theorem Ex_vret {r0 : α} (d : decode cb pc = .ok (.return_, 1)) (hι : ι r0 = (none, μ)) : Ex a0 own cb nL rt dp sc ι pc L [] μ (some r0) := by
  intro r hr p l e R s m args below meth c cells slots Q cy D C K H locs ls hW hS hl
  cases hr
  unfold RC at K
  rw [hι] at K
  exact K H locs ls pc hW hS d (fun ty w h1 h2 => by cases h2)
end ROWS
