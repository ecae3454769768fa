/-! fields, arrays, calls; a contract out of Ex -/
theorem gT_all {ws : List Cond} (ps : List Nat) (hp : ws = ps.filterMap (fun i => tables_1[i]?)) (h : ws.all goodWord = true) : ∀ w ∈ ws, w ∈ gT := by
  intro w hw
  have hg := List.all_eq_true.mp h w hw
  rw [hp] at hw
  obtain ⟨i, -, hi⟩ := List.mem_filterMap.mp hw
  exact gT_of i hi hg
theorem inG0 : ∀ w ∈ u_ws RX0 TX0 3, w ∈ gT := gT_all [160, 162, 164] (by decide +kernel) (by decide +kernel)
theorem inG1 : ∀ w ∈ u_ws RX1 TX1 2, w ∈ gT := gT_all [194, 196] (by decide +kernel) (by decide +kernel)
theorem inG2 : ∀ w ∈ u_ws RX2 TX2 3, w ∈ gT := gT_all [178, 180, 182] (by decide +kernel) (by decide +kernel)
theorem inG3 : ∀ w ∈ u_ws RX3 TX3 4, w ∈ gT := gT_all [145, 147, 149, 151] (by decide +kernel) (by decide +kernel)
theorem inG4 : ∀ w ∈ u_ws RX4 TX4 7, w ∈ gT := gT_all [53, 55, 57, 59, 61, 63, 65] (by decide +kernel) (by decide +kernel)
theorem inG5 : ∀ w ∈ u_ws RX5 TX5 2, w ∈ gT := gT_all [38, 40] (by decide +kernel) (by decide +kernel)
theorem inG6 : ∀ w ∈ u_ws RX6 TX6 5, w ∈ gT := gT_all [211, 213, 215, 217, 219] (by decide +kernel) (by decide +kernel)
theorem inG7 : ∀ w ∈ u_ws RX7 TX7 10, w ∈ gT := gT_all [104, 106, 108, 110, 112, 114, 116, 118, 120, 122] (by decide +kernel) (by decide +kernel)
theorem inG8 : ∀ w ∈ u_ws RX8 TX8 10, w ∈ gT := gT_all [232, 234, 236, 238, 240, 242, 244, 246, 248, 250] (by decide +kernel) (by decide +kernel)
theorem inG9 : ∀ w ∈ u_ws RX9 TX9 27, w ∈ gT := gT_all [697, 699, 701, 703, 705, 707, 709, 711, 713, 715, 717, 719, 721, 723, 725, 727, 729, 731, 733, 735, 737, 739, 741, 743, 745, 747, 749] (by decide +kernel) (by decide +kernel)
theorem cl_ok : ∀ (ci : Nat) (q : vw_C), vwCl[ci]? = some q → (∀ w ∈ u_ws q.1 q.2.1 q.2.2, w ∈ gT) ∧ (∃ ty : Nat → FieldType, ∀ k, k < q.2.2 → parseFieldDescriptor (q.2.1 k).2.2.1 = some (ty k)) ∧ (∀ a, a < q.2.2 → ∀ b, b < q.2.2 → a ≠ b → (q.2.1 a).2.1 ≠ (q.2.1 b).2.1) := by
  intro ci q h
  match ci, h with
  | 0, h => cases h; exact ⟨inG0, ⟨tyX0, tyX0_ok⟩, nmX0⟩
  | 1, h => cases h; exact ⟨inG1, ⟨tyX1, tyX1_ok⟩, nmX1⟩
  | 2, h => cases h; exact ⟨inG2, ⟨tyX2, tyX2_ok⟩, nmX2⟩
  | 3, h => cases h; exact ⟨inG3, ⟨tyX3, tyX3_ok⟩, nmX3⟩
  | 4, h => cases h; exact ⟨inG4, ⟨tyX4, tyX4_ok⟩, nmX4⟩
  | 5, h => cases h; exact ⟨inG5, ⟨tyX5, tyX5_ok⟩, nmX5⟩
  | 6, h => cases h; exact ⟨inG6, ⟨tyX6, tyX6_ok⟩, nmX6⟩
  | 7, h => cases h; exact ⟨inG7, ⟨tyX7, tyX7_ok⟩, nmX7⟩
  | 8, h => cases h; exact ⟨inG8, ⟨tyX8, tyX8_ok⟩, nmX8⟩
  | 9, h => cases h; exact ⟨inG9, ⟨tyX9, tyX9_ok⟩, nmX9⟩
  | n + 10, h => simp [vwCl] at h
/-- a field's link: pool number idx of the class own is field k of the kind ci -/
def FG (own : String) (idx ci k : Nat) : Prop := ∃ (C : String) (T : u_T) (N : Nat), vwCl[ci]? = some (C, T, N) ∧ k < N ∧ (Cond.fieldLink own idx (T k).1 (T k).2.1 (T k).2.2.1 ∈ gT ∨ ∃ host, Cond.fieldLinkNest own idx (T k).1 (T k).2.1 (T k).2.2.1 host ∈ nT)
/-- the field isn't final, and of the type ty -/
def FP (ci k : Nat) (ty : FieldType) : Prop := ∃ (C : String) (T : u_T) (N : Nat), vwCl[ci]? = some (C, T, N) ∧ (T k).2.2.2 = false ∧ parseFieldDescriptor (T k).2.2.1 = some ty
def CV (own : String) (idx : Nat) (y : MethodName) (cb2 : ByteArray) (nL2 : Nat) (rt2 : Option FieldType) (n : Nat) : Prop := Cond.methodLink own idx y ∈ gT ∧ Cond.instanceMethod y ∈ gT ∧ Cond.selects y.cls y y ∈ gT ∧ Cond.initialized y.cls ∈ gT ∧ Cond.code y cb2 nL2 rt2 ∈ gT ∧ (y.cls ≠ "java/lang/invoke/MethodHandle" ∧ y.cls ≠ "java/lang/invoke/VarHandle" ∧ (parseMethodDescriptor y.desc).map (fun d => d.parameters.length) = some n)
def CS (own : String) (idx : Nat) (y : MethodName) (cb2 : ByteArray) (nL2 : Nat) (rt2 : Option FieldType) (n : Nat) : Prop := Cond.methodLink own idx y ∈ gT ∧ Cond.static y ∈ gT ∧ Cond.initialized y.cls ∈ gT ∧ Cond.code y cb2 nL2 rt2 ∈ gT ∧ (y.cls ≠ "java/lang/invoke/MethodHandle" ∧ y.cls ≠ "java/lang/invoke/VarHandle" ∧ (parseMethodDescriptor y.desc).map (fun d => d.parameters.length) = some n)
theorem ent_ob {a0 : Nat} {cy : Nat → ClassId} {μ : Mem} {q k : Nat} (h : k < 1000) : entK a0 cy μ q k = .inr (k, fl a0 μ q k) := by simp [entK, h]
theorem ent_I {a0 : Nat} {cy : Nat → ClassId} {μ : Mem} {q n : Nat} (h : n < 1000) : entK a0 cy μ q (1000 + n) = .inl (cy 1, n, .inl (gI μ q)) := by
  unfold entK
  rw [if_neg (by omega), if_pos (by omega), Nat.add_sub_cancel_left]
theorem ent_Z {a0 : Nat} {cy : Nat → ClassId} {μ : Mem} {q n : Nat} (h : n < 1000) : entK a0 cy μ q (2000 + n) = .inl (cy 2, n, .inl (gI μ q)) := by
  unfold entK
  rw [if_neg (by omega), if_neg (by omega), if_pos (by omega), Nat.add_sub_cancel_left]
theorem ent_B {a0 : Nat} {cy : Nat → ClassId} {μ : Mem} {q n : Nat} (h : n < 1000) : entK a0 cy μ q (3000 + n) = .inl (cy 0, n, .inl (gI μ q)) := by
  unfold entK
  rw [if_neg (by omega), if_neg (by omega), if_neg (by omega), if_pos (by omega), Nat.add_sub_cancel_left]
theorem ent_C {a0 : Nat} {cy : Nat → ClassId} {μ : Mem} {q n : Nat} (h : n < 1000) : entK a0 cy μ q (4000 + n) = .inl (cy 3, n, .inr (.inr (.inr (.inr (fun j => some (a0 + gR μ q j)))))) := by
  unfold entK
  rw [if_neg (by omega), if_neg (by omega), if_neg (by omega), if_neg (by omega), if_pos (by omega), Nat.add_sub_cancel_left]
theorem ent_M {a0 : Nat} {cy : Nat → ClassId} {μ : Mem} {q n : Nat} (h : n < 1000) : entK a0 cy μ q (5000 + n) = .inl (cy 4, n, .inr (.inr (.inr (.inr (fun j => some (a0 + gR μ q j)))))) := by
  unfold entK
  rw [if_neg (by omega), if_neg (by omega), if_neg (by omega), if_neg (by omega), if_neg (by omega), Nat.add_sub_cancel_left]
theorem upd_sI {μ : Mem} {q j : Nat} {x : Int32} : upd (gI μ q) j x = gI (sI μ q j x) q := by
  funext i
  simp [upd, gI, sI]
theorem up_sR {a0 : Nat} {μ : Mem} {q j v : Nat} : va_up (fun j => some (a0 + gR μ q j)) j (some (a0 + v)) = fun i => some (a0 + gR (sR μ q j v) q i) := by
  funext i
  by_cases h : i = j <;> simp [va_up, gR, sR, h]
theorem Qd_pre {a0 : Nat} {cy : Nat → ClassId} {D : va_G} {μ : Mem} {av : List Value} : FrameBlind (va_Pc av (Wst a0 cy D μ)) := fun a U g mk q => ⟨q.1, q.2.1, va_K.moved (u := U) (U := U.calling g mk a) (Vm.Alike.refl U.vm) q.2.2.1, nT_same (u := U) (U := U.calling g mk a) rfl q.2.2.2⟩
def bW {α β : Type} (f : Option (β × Mem)) (k : β → Mem → Option α) : Option α := f.bind (fun x => k x.1 x.2)
section HEAP
variable {α : Type} {a0 : Nat} {own : String} {cb : ByteArray} {nL : Nat} {rt : Option FieldType} {dp : Nat} {sc : Option (Nat × Nat × (Nat → Int32))} {ι : α → Option Value × Mem} {pc : Nat} {L : List (Nat × Value)} {st : List Value} {μ : Mem} {o o1 o2 : Option α}
theorem Ex_wt (kk : WT μ → Ex a0 own cb nL rt dp sc ι pc L st μ o) : Ex a0 own cb nL rt dp sc ι pc L st μ o := by
  intro r hr p l e R s m args below meth c cells slots Q cy D C K H locs ls hW hS hl
  exact kk hW.2 r hr p l e R s m args below meth c cells slots Q cy D C K H locs ls hW hS hl
theorem WT_k {q j K k : Nat} (hw : WT μ) (hk : kd q = K) (hr : rty K j = k) (h9 : k < 9999) : kd (gR μ q j) = k := hw q j k (by rw [hk]; exact hr) h9
theorem Ex_top {x : Int32} {kf : Int32 → Option α} (kk : ∀ y, Ex a0 own cb nL rt dp sc ι pc L (.int y :: st) μ (kf y)) : Ex a0 own cb nL rt dp sc ι pc L (.int x :: st) μ (lt x kf) := kk x
theorem Ex_get {idx ci k q : Nat} {v : Value} (hf : FG own idx ci k) (hk : kd q = ci) (hc : ci < 1000) (hv : (fl a0 μ q ci)[k]? = some v) (d : decode cb pc = .ok (.getfield idx, 3)) (kk : Ex a0 own cb nL rt dp sc ι (pc + 3) L (v :: st) μ o) : Ex a0 own cb nL rt dp sc ι pc L (.ref (a0 + q) :: st) μ o := by
  intro r hr p l e R s m args below meth c cells slots Q cy D C K H locs ls hW hS hl
  obtain ⟨CC, T, N, h1, h2, h3⟩ := hf
  have he := wsM_get (a0 := a0) (cy := cy) (μ := μ) hk (by omega)
  rw [ent_ob hc] at he
  have kk := kk r hr p l e R s m args below meth c cells slots Q cy D C K H locs ls hW hS hl
  rcases h3 with h3 | ⟨host, h3⟩
  · exact va_get C.1 C.2.1 C.2.2.2.2.1 (cl_ok ci _ h1).1 C.2.2.2.1 C.2.2.2.2.2.2.1 hW.1 q he h1 k h2 (C.2.2.2.2.1 _ h3) (fun x h => h) hv d kk
  · exact va_getN C.1 C.2.1 C.2.2.2.2.1 (cl_ok ci _ h1).1 C.2.2.2.1 C.2.2.2.2.2.2.1 hW.1 q he h1 k h2 (va_Nw.use rfl (C.2.2.2.2.2.1 _ h3)) (fun x h => h) hv d kk
theorem Ex_put {idx ci k q : Nat} {ty : FieldType} {v : Value} {μ2 : Mem} (hf : FG own idx ci k) (hp : FP ci k ty) (hk : kd q = ci) (hc : ci < 1000) (hn : narrow ty v = v) (hfit : fits ty v = true) (hlen : k < (fl a0 μ q ci).length) (hs : fl a0 μ2 q ci = (fl a0 μ q ci).set k v) (ho : ∀ a, a ≠ q → (∀ j, gI μ2 a j = gI μ a j) ∧ (∀ j, gR μ2 a j = gR μ a j) ∧ gL μ2 a = gL μ a) (hwt : WT μ → WT μ2) (d : decode cb pc = .ok (.putfield idx, 3)) (kk : Ex a0 own cb nL rt dp sc ι (pc + 3) L st μ2 o) : Ex a0 own cb nL rt dp sc ι pc L (v :: .ref (a0 + q) :: st) μ o := by
  intro r hr p l e R s m args below meth c cells slots Q cy D C K H locs ls hW hS hl
  obtain ⟨CC, T, N, h1, h2, h3⟩ := hf
  obtain ⟨CC', T', N', h1', hfin, hd⟩ := hp
  cases h1.symm.trans h1'
  have he := wsM_get (a0 := a0) (cy := cy) (μ := μ) hk (by omega)
  rw [ent_ob hc] at he
  obtain ⟨hin, ⟨ty0, hty⟩, hnm⟩ := cl_ok ci _ h1
  have hset : (wsM a0 cy μ).set q (a0 + q, .inr (ci, (fl a0 μ q ci).set k v)) = wsM a0 cy μ2 := wsM_set hk (by rw [ent_ob hc, hs]) ho
  have kk : ∀ (H1 : Heap) (locs1 : List Loc), va_P D vwCl ((wsM a0 cy μ).set q (a0 + q, .inr (ci, (fl a0 μ q ci).set k v))) H1 → va_D (fun q => a0 ≤ q) ((wsM a0 cy μ).set q (a0 + q, .inr (ci, (fl a0 μ q ci).set k v))) → va_S (fun q => a0 ≤ q) s.heap H1 locs1 → W p l e R s m args below meth c H1 locs1 cells slots Q (F0 m (pc + 3) ls st) := by
    intro H1 locs1 hP1 _ hS1
    rw [hset] at hP1
    exact kk r hr p l e R s m args below meth c cells slots Q cy D C K H1 locs1 ls ⟨hP1, hwt hW.2⟩ hS1 hl
  rcases h3 with h3 | ⟨host, h3⟩
  · exact va_put C.1 C.2.1 C.2.2.2.2.1 hin ty0 hty hnm C.2.2.2.1 C.2.2.2.2.2.2.1 hW.1 mapW_D hS q he h1 k h2 (C.2.2.2.2.1 _ h3) (fun x h => h) hfin hd hn hfit hlen d kk
  · exact va_putN C.1 C.2.1 C.2.2.2.2.1 hin ty0 hty hnm C.2.2.2.1 C.2.2.2.2.2.2.1 hW.1 mapW_D hS q he h1 k h2 (va_Nw.use rfl (C.2.2.2.2.2.1 _ h3)) (fun x h => h) hfin hd hn hfit hlen d kk
theorem Ex_putI {idx ci k q : Nat} {ty : FieldType} {x : Int32} {kf : Mem → Option α} (hf : FG own idx ci k) (hp : FP ci k ty) (hk : kd q = ci) (hc : ci < 1000) (hn : narrow ty (.int x) = .int x) (hfit : fits ty (.int x) = true) (hlen : k < (fl a0 μ q ci).length) (hs : fl a0 (sI μ q k x) q ci = (fl a0 μ q ci).set k (.int x)) (d : decode cb pc = .ok (.putfield idx, 3)) (kk : ∀ μ1, Ex a0 own cb nL rt dp sc ι (pc + 3) L st μ1 (kf μ1)) : Ex a0 own cb nL rt dp sc ι pc L (.int x :: .ref (a0 + q) :: st) μ (lt (sI μ q k x) kf) :=
  Ex_put hf hp hk hc hn hfit hlen hs sI_off WT_sI d (kk _)
theorem Ex_putL {idx ci k q : Nat} {ty : FieldType} {x : Int64} {kf : Mem → Option α} (hf : FG own idx ci k) (hp : FP ci k ty) (hk : kd q = ci) (hc : ci < 1000) (hn : narrow ty (.long x) = .long x) (hfit : fits ty (.long x) = true) (hlen : k < (fl a0 μ q ci).length) (hs : fl a0 (sL μ q x) q ci = (fl a0 μ q ci).set k (.long x)) (d : decode cb pc = .ok (.putfield idx, 3)) (kk : ∀ μ1, Ex a0 own cb nL rt dp sc ι (pc + 3) L st μ1 (kf μ1)) : Ex a0 own cb nL rt dp sc ι pc L (.long x :: .ref (a0 + q) :: st) μ (lt (sL μ q x) kf) :=
  Ex_put hf hp hk hc hn hfit hlen hs sL_off WT_sL d (kk _)
theorem Ex_putR {idx ci k q v : Nat} {ty : FieldType} {kf : Mem → Option α} (hf : FG own idx ci k) (hp : FP ci k ty) (hk : kd q = ci) (hv : kd v = rty ci k) (hc : ci < 1000) (hn : narrow ty (.ref (a0 + v)) = .ref (a0 + v)) (hfit : fits ty (.ref (a0 + v)) = true) (hlen : k < (fl a0 μ q ci).length) (hs : fl a0 (sR μ q k v) q ci = (fl a0 μ q ci).set k (.ref (a0 + v))) (d : decode cb pc = .ok (.putfield idx, 3)) (kk : ∀ μ1, Ex a0 own cb nL rt dp sc ι (pc + 3) L st μ1 (kf μ1)) : Ex a0 own cb nL rt dp sc ι pc L (.ref (a0 + v) :: .ref (a0 + q) :: st) μ (lt (sR μ q k v) kf) :=
  Ex_put hf hp hk hc hn hfit hlen hs sR_off (fun h => WT_sR h (by rw [hk]; exact hv)) d (kk _)
theorem Ex_iald {q : Nat} (n : Nat) {i : Int32} (hk : kd q = 1000 + n) (hn : n < 1000) (d : decode cb pc = .ok (.iaload, 1)) (kk : Ex a0 own cb nL rt dp sc ι (pc + 1) L (.int (gI μ q (i.toNatClampNeg)) :: st) μ o) : Ex a0 own cb nL rt dp sc ι pc L (.int i :: .ref (a0 + q) :: st) μ (if ix i n = true then o else none) := by
  intro r hr p l e R s m args below meth c cells slots Q cy D C K H locs ls hW hS hl
  have he := wsM_get (a0 := a0) (cy := cy) (μ := μ) hk (by omega)
  rw [ent_I hn] at he
  by_cases hi : ix i n = true
  · rw [if_pos hi] at hr
    exact va_iald C.1 C.2.1 C.2.2.2.2.2.2.1 hW.1 q 1 he rfl (ix_in hi) d (kk r hr p l e R s m args below meth c cells slots Q cy D C K H locs ls hW hS hl)
  · rw [if_neg hi] at hr; cases hr
theorem Ex_ialdC {q : Nat} {j : Nat} (n : Nat) {i : Int32} (hk : kd q = 1000 + n) (hn : n < 1000) (hi : ix i n = true) (hj : i.toNatClampNeg = j) (d : decode cb pc = .ok (.iaload, 1)) (kk : Ex a0 own cb nL rt dp sc ι (pc + 1) L (.int (gI μ q (j)) :: st) μ o) : Ex a0 own cb nL rt dp sc ι pc L (.int i :: .ref (a0 + q) :: st) μ o := by
  intro r hr p l e R s m args below meth c cells slots Q cy D C K H locs ls hW hS hl
  have he := wsM_get (a0 := a0) (cy := cy) (μ := μ) hk (by omega)
  rw [ent_I hn] at he
  subst hj
  exact va_iald C.1 C.2.1 C.2.2.2.2.2.2.1 hW.1 q 1 he rfl (ix_in hi) d (kk r hr p l e R s m args below meth c cells slots Q cy D C K H locs ls hW hS hl)
theorem Ex_zald {q : Nat} (n : Nat) {i : Int32} (hk : kd q = 2000 + n) (hn : n < 1000) (d : decode cb pc = .ok (.baload, 1)) (kk : Ex a0 own cb nL rt dp sc ι (pc + 1) L (.int (gI μ q (i.toNatClampNeg)) :: st) μ o) : Ex a0 own cb nL rt dp sc ι pc L (.int i :: .ref (a0 + q) :: st) μ (if ix i n = true then o else none) := by
  intro r hr p l e R s m args below meth c cells slots Q cy D C K H locs ls hW hS hl
  have he := wsM_get (a0 := a0) (cy := cy) (μ := μ) hk (by omega)
  rw [ent_Z hn] at he
  by_cases hi : ix i n = true
  · rw [if_pos hi] at hr
    exact va_zald C.1 C.2.1 C.2.2.2.2.2.2.1 hW.1 q 2 he rfl (ix_in hi) d (kk r hr p l e R s m args below meth c cells slots Q cy D C K H locs ls hW hS hl)
  · rw [if_neg hi] at hr; cases hr
theorem Ex_zaldC {q : Nat} {j : Nat} (n : Nat) {i : Int32} (hk : kd q = 2000 + n) (hn : n < 1000) (hi : ix i n = true) (hj : i.toNatClampNeg = j) (d : decode cb pc = .ok (.baload, 1)) (kk : Ex a0 own cb nL rt dp sc ι (pc + 1) L (.int (gI μ q (j)) :: st) μ o) : Ex a0 own cb nL rt dp sc ι pc L (.int i :: .ref (a0 + q) :: st) μ o := by
  intro r hr p l e R s m args below meth c cells slots Q cy D C K H locs ls hW hS hl
  have he := wsM_get (a0 := a0) (cy := cy) (μ := μ) hk (by omega)
  rw [ent_Z hn] at he
  subst hj
  exact va_zald C.1 C.2.1 C.2.2.2.2.2.2.1 hW.1 q 2 he rfl (ix_in hi) d (kk r hr p l e R s m args below meth c cells slots Q cy D C K H locs ls hW hS hl)
theorem Ex_bald {q : Nat} (n : Nat) {i : Int32} (hk : kd q = 3000 + n) (hn : n < 1000) (d : decode cb pc = .ok (.baload, 1)) (kk : Ex a0 own cb nL rt dp sc ι (pc + 1) L (.int (gI μ q (i.toNatClampNeg)) :: st) μ o) : Ex a0 own cb nL rt dp sc ι pc L (.int i :: .ref (a0 + q) :: st) μ (if ix i n = true then o else none) := by
  intro r hr p l e R s m args below meth c cells slots Q cy D C K H locs ls hW hS hl
  have he := wsM_get (a0 := a0) (cy := cy) (μ := μ) hk (by omega)
  rw [ent_B hn] at he
  by_cases hi : ix i n = true
  · rw [if_pos hi] at hr
    exact va_bald C.1 C.2.1 C.2.2.2.2.2.2.1 hW.1 q 0 he rfl (ix_in hi) d (kk r hr p l e R s m args below meth c cells slots Q cy D C K H locs ls hW hS hl)
  · rw [if_neg hi] at hr; cases hr
theorem Ex_baldC {q : Nat} {j : Nat} (n : Nat) {i : Int32} (hk : kd q = 3000 + n) (hn : n < 1000) (hi : ix i n = true) (hj : i.toNatClampNeg = j) (d : decode cb pc = .ok (.baload, 1)) (kk : Ex a0 own cb nL rt dp sc ι (pc + 1) L (.int (gI μ q (j)) :: st) μ o) : Ex a0 own cb nL rt dp sc ι pc L (.int i :: .ref (a0 + q) :: st) μ o := by
  intro r hr p l e R s m args below meth c cells slots Q cy D C K H locs ls hW hS hl
  have he := wsM_get (a0 := a0) (cy := cy) (μ := μ) hk (by omega)
  rw [ent_B hn] at he
  subst hj
  exact va_bald C.1 C.2.1 C.2.2.2.2.2.2.1 hW.1 q 0 he rfl (ix_in hi) d (kk r hr p l e R s m args below meth c cells slots Q cy D C K H locs ls hW hS hl)
theorem Ex_cald {q : Nat} (n : Nat) {i : Int32} (hk : kd q = 4000 + n) (hn : n < 1000) (hr2 : ∀ j : Nat, j < n → rty (4000 + n) j = 0) (d : decode cb pc = .ok (.aaload, 1)) (kk : kd (gR μ q (i.toNatClampNeg)) = 0 → Ex a0 own cb nL rt dp sc ι (pc + 1) L (.ref (a0 + gR μ q (i.toNatClampNeg)) :: st) μ o) : Ex a0 own cb nL rt dp sc ι pc L (.int i :: .ref (a0 + q) :: st) μ (if ix i n = true then o else none) := by
  intro r hr p l e R s m args below meth c cells slots Q cy D C K H locs ls hW hS hl
  have he := wsM_get (a0 := a0) (cy := cy) (μ := μ) hk (by omega)
  rw [ent_C hn] at he
  by_cases hi : ix i n = true
  · rw [if_pos hi] at hr
    exact va_aldq C.1 C.2.1 C.2.2.2.2.2.2.1 hW.1 q 3 he rfl (ix_in hi) d (kk (WT_k hW.2 hk (hr2 _ (Nat.not_le.mp fun z => ix_in hi (Or.inr z))) (by omega)) r hr p l e R s m args below meth c cells slots Q cy D C K H locs ls hW hS hl)
  · rw [if_neg hi] at hr; cases hr
theorem Ex_caldC {q : Nat} {j : Nat} (n : Nat) {i : Int32} (hk : kd q = 4000 + n) (hn : n < 1000) (hr2 : ∀ j : Nat, j < n → rty (4000 + n) j = 0) (hi : ix i n = true) (hj : i.toNatClampNeg = j) (d : decode cb pc = .ok (.aaload, 1)) (kk : kd (gR μ q (j)) = 0 → Ex a0 own cb nL rt dp sc ι (pc + 1) L (.ref (a0 + gR μ q (j)) :: st) μ o) : Ex a0 own cb nL rt dp sc ι pc L (.int i :: .ref (a0 + q) :: st) μ o := by
  intro r hr p l e R s m args below meth c cells slots Q cy D C K H locs ls hW hS hl
  have he := wsM_get (a0 := a0) (cy := cy) (μ := μ) hk (by omega)
  rw [ent_C hn] at he
  subst hj
  exact va_aldq C.1 C.2.1 C.2.2.2.2.2.2.1 hW.1 q 3 he rfl (ix_in hi) d (kk (WT_k hW.2 hk (hr2 _ (Nat.not_le.mp fun z => ix_in hi (Or.inr z))) (by omega)) r hr p l e R s m args below meth c cells slots Q cy D C K H locs ls hW hS hl)
theorem Ex_mald {q : Nat} (n : Nat) {i : Int32} (hk : kd q = 5000 + n) (hn : n < 1000) (hr2 : ∀ j : Nat, j < n → rty (5000 + n) j = 3) (d : decode cb pc = .ok (.aaload, 1)) (kk : kd (gR μ q (i.toNatClampNeg)) = 3 → Ex a0 own cb nL rt dp sc ι (pc + 1) L (.ref (a0 + gR μ q (i.toNatClampNeg)) :: st) μ o) : Ex a0 own cb nL rt dp sc ι pc L (.int i :: .ref (a0 + q) :: st) μ (if ix i n = true then o else none) := by
  intro r hr p l e R s m args below meth c cells slots Q cy D C K H locs ls hW hS hl
  have he := wsM_get (a0 := a0) (cy := cy) (μ := μ) hk (by omega)
  rw [ent_M hn] at he
  by_cases hi : ix i n = true
  · rw [if_pos hi] at hr
    exact va_aldq C.1 C.2.1 C.2.2.2.2.2.2.1 hW.1 q 4 he rfl (ix_in hi) d (kk (WT_k hW.2 hk (hr2 _ (Nat.not_le.mp fun z => ix_in hi (Or.inr z))) (by omega)) r hr p l e R s m args below meth c cells slots Q cy D C K H locs ls hW hS hl)
  · rw [if_neg hi] at hr; cases hr
theorem Ex_maldC {q : Nat} {j : Nat} (n : Nat) {i : Int32} (hk : kd q = 5000 + n) (hn : n < 1000) (hr2 : ∀ j : Nat, j < n → rty (5000 + n) j = 3) (hi : ix i n = true) (hj : i.toNatClampNeg = j) (d : decode cb pc = .ok (.aaload, 1)) (kk : kd (gR μ q (j)) = 3 → Ex a0 own cb nL rt dp sc ι (pc + 1) L (.ref (a0 + gR μ q (j)) :: st) μ o) : Ex a0 own cb nL rt dp sc ι pc L (.int i :: .ref (a0 + q) :: st) μ o := by
  intro r hr p l e R s m args below meth c cells slots Q cy D C K H locs ls hW hS hl
  have he := wsM_get (a0 := a0) (cy := cy) (μ := μ) hk (by omega)
  rw [ent_M hn] at he
  subst hj
  exact va_aldq C.1 C.2.1 C.2.2.2.2.2.2.1 hW.1 q 4 he rfl (ix_in hi) d (kk (WT_k hW.2 hk (hr2 _ (Nat.not_le.mp fun z => ix_in hi (Or.inr z))) (by omega)) r hr p l e R s m args below meth c cells slots Q cy D C K H locs ls hW hS hl)
theorem Ex_iast {q : Nat} (n : Nat) {i x : Int32} {kf : Mem → Option α} (hk : kd q = 1000 + n) (hn : n < 1000) (d : decode cb pc = .ok (.iastore, 1)) (kk : ∀ μ1, Ex a0 own cb nL rt dp sc ι (pc + 1) L st μ1 (kf μ1)) : Ex a0 own cb nL rt dp sc ι pc L (.int x :: .int i :: .ref (a0 + q) :: st) μ ((if ix i n = true then lt (sI μ q (i.toNatClampNeg) (x)) kf else none)) := by
  intro r hr p l e R s m args below meth c cells slots Q cy D C K H locs ls hW hS hl
  have he := wsM_get (a0 := a0) (cy := cy) (μ := μ) hk (by omega)
  rw [ent_I hn] at he
  by_cases hi : ix i n = true
  case neg => rw [if_neg hi] at hr; cases hr
  rw [if_pos hi] at hr
  have hset : (wsM a0 cy μ).set q (a0 + q, .inl (cy 1, n, .inl (upd (gI μ q) i.toNatClampNeg (x)))) = wsM a0 cy (sI μ q i.toNatClampNeg (x)) := wsM_set hk (by rw [ent_I hn, upd_sI]) sI_off
  refine va_iast C.1 C.2.1 C.2.2.2.2.2.2.1 hW.1 mapW_D hS q 1 he rfl (ix_in hi) d (fun H1 locs1 hP1 _ hS1 => ?_)
  rw [hset] at hP1
  exact kk _ r hr p l e R s m args below meth c cells slots Q cy D C K H1 locs1 ls ⟨hP1, WT_sI hW.2⟩ hS1 hl
theorem Ex_iastC {q : Nat} {j : Nat} (n : Nat) {i x : Int32} {kf : Mem → Option α} (hk : kd q = 1000 + n) (hn : n < 1000) (hi : ix i n = true) (hj : i.toNatClampNeg = j) (d : decode cb pc = .ok (.iastore, 1)) (kk : ∀ μ1, Ex a0 own cb nL rt dp sc ι (pc + 1) L st μ1 (kf μ1)) : Ex a0 own cb nL rt dp sc ι pc L (.int x :: .int i :: .ref (a0 + q) :: st) μ (lt (sI μ q (j) (x)) kf) := by
  intro r hr p l e R s m args below meth c cells slots Q cy D C K H locs ls hW hS hl
  have he := wsM_get (a0 := a0) (cy := cy) (μ := μ) hk (by omega)
  rw [ent_I hn] at he
  subst hj
  have hset : (wsM a0 cy μ).set q (a0 + q, .inl (cy 1, n, .inl (upd (gI μ q) i.toNatClampNeg (x)))) = wsM a0 cy (sI μ q i.toNatClampNeg (x)) := wsM_set hk (by rw [ent_I hn, upd_sI]) sI_off
  refine va_iast C.1 C.2.1 C.2.2.2.2.2.2.1 hW.1 mapW_D hS q 1 he rfl (ix_in hi) d (fun H1 locs1 hP1 _ hS1 => ?_)
  rw [hset] at hP1
  exact kk _ r hr p l e R s m args below meth c cells slots Q cy D C K H1 locs1 ls ⟨hP1, WT_sI hW.2⟩ hS1 hl
theorem Ex_zast {q : Nat} (n : Nat) {i x : Int32} {kf : Mem → Option α} (hk : kd q = 2000 + n) (hn : n < 1000) (d : decode cb pc = .ok (.bastore, 1)) (kk : ∀ μ1, Ex a0 own cb nL rt dp sc ι (pc + 1) L st μ1 (kf μ1)) : Ex a0 own cb nL rt dp sc ι pc L (.int x :: .int i :: .ref (a0 + q) :: st) μ ((if ix i n = true then lt (sI μ q (i.toNatClampNeg) (vp_nar .boolean x)) kf else none)) := by
  intro r hr p l e R s m args below meth c cells slots Q cy D C K H locs ls hW hS hl
  have he := wsM_get (a0 := a0) (cy := cy) (μ := μ) hk (by omega)
  rw [ent_Z hn] at he
  by_cases hi : ix i n = true
  case neg => rw [if_neg hi] at hr; cases hr
  rw [if_pos hi] at hr
  have hset : (wsM a0 cy μ).set q (a0 + q, .inl (cy 2, n, .inl (upd (gI μ q) i.toNatClampNeg (vp_nar .boolean x)))) = wsM a0 cy (sI μ q i.toNatClampNeg (vp_nar .boolean x)) := wsM_set hk (by rw [ent_Z hn, upd_sI]) sI_off
  refine va_zast C.1 C.2.1 C.2.2.2.2.2.2.1 hW.1 mapW_D hS q 2 he rfl (ix_in hi) d (fun H1 locs1 hP1 _ hS1 => ?_)
  rw [hset] at hP1
  exact kk _ r hr p l e R s m args below meth c cells slots Q cy D C K H1 locs1 ls ⟨hP1, WT_sI hW.2⟩ hS1 hl
theorem Ex_zastC {q : Nat} {j : Nat} (n : Nat) {i x : Int32} {kf : Mem → Option α} (hk : kd q = 2000 + n) (hn : n < 1000) (hi : ix i n = true) (hj : i.toNatClampNeg = j) (d : decode cb pc = .ok (.bastore, 1)) (kk : ∀ μ1, Ex a0 own cb nL rt dp sc ι (pc + 1) L st μ1 (kf μ1)) : Ex a0 own cb nL rt dp sc ι pc L (.int x :: .int i :: .ref (a0 + q) :: st) μ (lt (sI μ q (j) (vp_nar .boolean x)) kf) := by
  intro r hr p l e R s m args below meth c cells slots Q cy D C K H locs ls hW hS hl
  have he := wsM_get (a0 := a0) (cy := cy) (μ := μ) hk (by omega)
  rw [ent_Z hn] at he
  subst hj
  have hset : (wsM a0 cy μ).set q (a0 + q, .inl (cy 2, n, .inl (upd (gI μ q) i.toNatClampNeg (vp_nar .boolean x)))) = wsM a0 cy (sI μ q i.toNatClampNeg (vp_nar .boolean x)) := wsM_set hk (by rw [ent_Z hn, upd_sI]) sI_off
  refine va_zast C.1 C.2.1 C.2.2.2.2.2.2.1 hW.1 mapW_D hS q 2 he rfl (ix_in hi) d (fun H1 locs1 hP1 _ hS1 => ?_)
  rw [hset] at hP1
  exact kk _ r hr p l e R s m args below meth c cells slots Q cy D C K H1 locs1 ls ⟨hP1, WT_sI hW.2⟩ hS1 hl
theorem Ex_bast {q : Nat} (n : Nat) {i x : Int32} {kf : Mem → Option α} (hk : kd q = 3000 + n) (hn : n < 1000) (d : decode cb pc = .ok (.bastore, 1)) (kk : ∀ μ1, Ex a0 own cb nL rt dp sc ι (pc + 1) L st μ1 (kf μ1)) : Ex a0 own cb nL rt dp sc ι pc L (.int x :: .int i :: .ref (a0 + q) :: st) μ ((if ix i n = true then lt (sI μ q (i.toNatClampNeg) (vp_nar .byte x)) kf else none)) := by
  intro r hr p l e R s m args below meth c cells slots Q cy D C K H locs ls hW hS hl
  have he := wsM_get (a0 := a0) (cy := cy) (μ := μ) hk (by omega)
  rw [ent_B hn] at he
  by_cases hi : ix i n = true
  case neg => rw [if_neg hi] at hr; cases hr
  rw [if_pos hi] at hr
  have hset : (wsM a0 cy μ).set q (a0 + q, .inl (cy 0, n, .inl (upd (gI μ q) i.toNatClampNeg (vp_nar .byte x)))) = wsM a0 cy (sI μ q i.toNatClampNeg (vp_nar .byte x)) := wsM_set hk (by rw [ent_B hn, upd_sI]) sI_off
  refine va_bast C.1 C.2.1 C.2.2.2.2.2.2.1 hW.1 mapW_D hS q 0 he rfl (ix_in hi) d (fun H1 locs1 hP1 _ hS1 => ?_)
  rw [hset] at hP1
  exact kk _ r hr p l e R s m args below meth c cells slots Q cy D C K H1 locs1 ls ⟨hP1, WT_sI hW.2⟩ hS1 hl
theorem Ex_bastC {q : Nat} {j : Nat} (n : Nat) {i x : Int32} {kf : Mem → Option α} (hk : kd q = 3000 + n) (hn : n < 1000) (hi : ix i n = true) (hj : i.toNatClampNeg = j) (d : decode cb pc = .ok (.bastore, 1)) (kk : ∀ μ1, Ex a0 own cb nL rt dp sc ι (pc + 1) L st μ1 (kf μ1)) : Ex a0 own cb nL rt dp sc ι pc L (.int x :: .int i :: .ref (a0 + q) :: st) μ (lt (sI μ q (j) (vp_nar .byte x)) kf) := by
  intro r hr p l e R s m args below meth c cells slots Q cy D C K H locs ls hW hS hl
  have he := wsM_get (a0 := a0) (cy := cy) (μ := μ) hk (by omega)
  rw [ent_B hn] at he
  subst hj
  have hset : (wsM a0 cy μ).set q (a0 + q, .inl (cy 0, n, .inl (upd (gI μ q) i.toNatClampNeg (vp_nar .byte x)))) = wsM a0 cy (sI μ q i.toNatClampNeg (vp_nar .byte x)) := wsM_set hk (by rw [ent_B hn, upd_sI]) sI_off
  refine va_bast C.1 C.2.1 C.2.2.2.2.2.2.1 hW.1 mapW_D hS q 0 he rfl (ix_in hi) d (fun H1 locs1 hP1 _ hS1 => ?_)
  rw [hset] at hP1
  exact kk _ r hr p l e R s m args below meth c cells slots Q cy D C K H1 locs1 ls ⟨hP1, WT_sI hW.2⟩ hS1 hl
theorem Ex_mast {q v : Nat} (n : Nat) {i : Int32} {kf : Mem → Option α} (hk : kd q = 5000 + n) (hn : n < 1000) (hv : kd v = 3) (hr2 : ∀ j : Nat, j < n → rty (5000 + n) j = 3) (d : decode cb pc = .ok (.aastore, 1)) (kk : ∀ μ1, Ex a0 own cb nL rt dp sc ι (pc + 1) L st μ1 (kf μ1)) : Ex a0 own cb nL rt dp sc ι pc L (.ref (a0 + v) :: .int i :: .ref (a0 + q) :: st) μ ((if ix i n = true then lt (sR μ q (i.toNatClampNeg) v) kf else none)) := by
  intro r hr p l e R s m args below meth c cells slots Q cy D C K H locs ls hW hS hl
  have he := wsM_get (a0 := a0) (cy := cy) (μ := μ) hk (by omega)
  rw [ent_M hn] at he
  have hev := wsM_get (a0 := a0) (cy := cy) (μ := μ) hv (by omega)
  rw [ent_ob (by omega)] at hev
  by_cases hi : ix i n = true
  case neg => rw [if_neg hi] at hr; cases hr
  rw [if_pos hi] at hr
  have hlt : i.toNatClampNeg < n := Nat.not_le.mp fun z => ix_in hi (Or.inr z)
  have hset : (wsM a0 cy μ).set q (a0 + q, .inl (cy 4, n, .inr (.inr (.inr (.inr (va_up (fun j => some (a0 + gR μ q j)) i.toNatClampNeg (some (a0 + v)))))))) = wsM a0 cy (sR μ q i.toNatClampNeg v) := wsM_set hk (by rw [ent_M hn, up_sR]) sR_off
  refine va_astq C.1 C.2.1 C.2.2.2.2.2.2.1 hW.1 mapW_D hS q 4 v 3 he rfl hev rfl (ix_in hi) d (fun H1 locs1 hP1 _ hS1 => ?_)
  rw [hset] at hP1
  exact kk _ r hr p l e R s m args below meth c cells slots Q cy D C K H1 locs1 ls ⟨hP1, WT_sR hW.2 (by rw [hk, hr2 _ hlt]; exact hv)⟩ hS1 hl
theorem Ex_mastC {q v : Nat} {j : Nat} (n : Nat) {i : Int32} {kf : Mem → Option α} (hk : kd q = 5000 + n) (hn : n < 1000) (hv : kd v = 3) (hr2 : ∀ j : Nat, j < n → rty (5000 + n) j = 3) (hi : ix i n = true) (hj : i.toNatClampNeg = j) (d : decode cb pc = .ok (.aastore, 1)) (kk : ∀ μ1, Ex a0 own cb nL rt dp sc ι (pc + 1) L st μ1 (kf μ1)) : Ex a0 own cb nL rt dp sc ι pc L (.ref (a0 + v) :: .int i :: .ref (a0 + q) :: st) μ (lt (sR μ q (j) v) kf) := by
  intro r hr p l e R s m args below meth c cells slots Q cy D C K H locs ls hW hS hl
  have he := wsM_get (a0 := a0) (cy := cy) (μ := μ) hk (by omega)
  rw [ent_M hn] at he
  have hev := wsM_get (a0 := a0) (cy := cy) (μ := μ) hv (by omega)
  rw [ent_ob (by omega)] at hev
  subst hj
  have hlt : i.toNatClampNeg < n := Nat.not_le.mp fun z => ix_in hi (Or.inr z)
  have hset : (wsM a0 cy μ).set q (a0 + q, .inl (cy 4, n, .inr (.inr (.inr (.inr (va_up (fun j => some (a0 + gR μ q j)) i.toNatClampNeg (some (a0 + v)))))))) = wsM a0 cy (sR μ q i.toNatClampNeg v) := wsM_set hk (by rw [ent_M hn, up_sR]) sR_off
  refine va_astq C.1 C.2.1 C.2.2.2.2.2.2.1 hW.1 mapW_D hS q 4 v 3 he rfl hev rfl (ix_in hi) d (fun H1 locs1 hP1 _ hS1 => ?_)
  rw [hset] at hP1
  exact kk _ r hr p l e R s m args below meth c cells slots Q cy D C K H1 locs1 ls ⟨hP1, WT_sR hW.2 (by rw [hk, hr2 _ hlt]; exact hv)⟩ hS1 hl
theorem Ex_sld {b Lb : Nat} {xs : Nat → Int32} {i : Int32} (hsc : sc = some (b, Lb, xs)) (d : decode cb pc = .ok (.iaload, 1)) (kk : Ex a0 own cb nL rt dp sc ι (pc + 1) L (.int (xs i.toNatClampNeg) :: st) μ o) : Ex a0 own cb nL rt dp sc ι pc L (.int i :: .ref b :: st) μ (if ix i Lb = true then o else none) := by
  intro r hr p l e R s m args below meth c cells slots Q cy D C K H locs ls hW hS hl
  by_cases hi : ix i Lb = true
  · rw [if_pos hi] at hr
    obtain ⟨h1, h2, h3⟩ := C.2.2.2.2.2.2.2.2 b Lb xs hsc
    exact va_sld C.1 C.2.1 h1 h2 (by omega) hS (ix_in hi) d (kk r hr p l e R s m args below meth c cells slots Q cy D C K H locs ls hW hS hl)
  · rw [if_neg hi] at hr; cases hr
theorem Ex_slen {b Lb : Nat} {xs : Nat → Int32} (hsc : sc = some (b, Lb, xs)) (d : decode cb pc = .ok (.arraylength, 1)) (kk : Ex a0 own cb nL rt dp sc ι (pc + 1) L (.int (Int32.ofNat Lb) :: st) μ o) : Ex a0 own cb nL rt dp sc ι pc L (.ref b :: st) μ o := by
  intro r hr p l e R s m args below meth c cells slots Q cy D C K H locs ls hW hS hl
  obtain ⟨h1, h2, h3⟩ := C.2.2.2.2.2.2.2.2 b Lb xs hsc
  exact va_slen C.1 C.2.1 h1 h2 (by omega) hS d (kk r hr p l e R s m args below meth c cells slots Q cy D C K H locs ls hW hS hl)
theorem Ex_if (c : Prop) [Decidable c] (k1 : c → Ex a0 own cb nL rt dp sc ι pc L st μ o1) (k2 : ¬ c → Ex a0 own cb nL rt dp sc ι pc L st μ o2) : Ex a0 own cb nL rt dp sc ι pc L st μ (if c then o1 else o2) := by
  by_cases h : c
  · rw [if_pos h]; exact k1 h
  · rw [if_neg h]; exact k2 h
theorem Ex_tblC {dflt lo hi : Int} {offs : Array Int} {len : Nat} {x : Int32} {off : Int} {tgt : Nat} (d : decode cb pc = .ok (.tableswitch dflt lo hi offs, len)) {i : Int} (hx : x.toInt = i) (h1 : ¬ i < lo) (h2 : ¬ hi < i) (ho : offs[(i - lo).toNat]? = some off) (ht : (pc : Int) + off = (tgt : Int)) (k : Ex a0 own cb nL rt dp sc ι tgt L st μ o) : Ex a0 own cb nL rt dp sc ι pc L (.int x :: st) μ o := by
  subst hx
  intro r hr p l e R s m args below meth c cells slots Q cy D C K H locs ls hW hS hl
  exact lv_tableIn C.1 C.2.1 d h1 h2 ho ht (k r hr p l e R s m args below meth c cells slots Q cy D C K H locs ls hW hS hl)
theorem Ex_tblD {dflt lo hi : Int} {offs : Array Int} {len : Nat} {x : Int32} {tgt : Nat} (d : decode cb pc = .ok (.tableswitch dflt lo hi offs, len)) (h : x.toInt < lo ∨ hi < x.toInt) (ht : (pc : Int) + dflt = (tgt : Int)) (k : Ex a0 own cb nL rt dp sc ι tgt L st μ o) : Ex a0 own cb nL rt dp sc ι pc L (.int x :: st) μ o := by
  intro r hr p l e R s m args below meth c cells slots Q cy D C K H locs ls hW hS hl
  exact lv_tableOut C.1 C.2.1 d h ht (k r hr p l e R s m args below meth c cells slots Q cy D C K H locs ls hW hS hl)
theorem Ex_look {dflt : Int} {ps : Array (Int × Int)} {len : Nat} {x : Int32} {off : Int} {tgt : Nat} (d : decode cb pc = .ok (.lookupswitch dflt ps, len)) (hp : (ps.toList.zip (ps.toList.drop 1)).all (fun (a, next) => a.1 < next.1) = true) (ho : Op.lookupswitch.offset ps.toList dflt x.toInt = off) (ht : (pc : Int) + off = (tgt : Int)) (k : Ex a0 own cb nL rt dp sc ι tgt L st μ o) : Ex a0 own cb nL rt dp sc ι pc L (.int x :: st) μ o := by
  intro r hr p l e R s m args below meth c cells slots Q cy D C K H locs ls hW hS hl
  exact lv_lookup C.1 C.2.1 d hp ho ht (k r hr p l e R s m args below meth c cells slots Q cy D C K H locs ls hW hS hl)
theorem Ex_run {p : Program} {l : Launch} {e : Env} {R : Room} {s : State} {m : MethodId} {args : Array Value} {below : List Frame} {meth : Method} {c : Code} {H : Heap} {locs : List Loc} {cells slots : Nat} {Q : State → Prop} {cy : Nat → ClassId} {D : va_G} {ls : Array Slot} {st0 : List Value} {rv : Option Value} {μ2 : Mem} {a : Array Value}
    (hr : va_Run p l e R s m args below meth c H locs cells slots 0 0 (F0 m pc ls st0) st (Qd a0 cy D rv μ2 a) (fun q => a0 ≤ q)) (hS : va_S (fun q => a0 ≤ q) s.heap H locs)
    (kk : ∀ (H1 : Heap) (locs1 : List Loc), Wd a0 cy D μ2 H1 → va_S (fun q => a0 ≤ q) s.heap H1 locs1 → W p l e R s m args below meth c H1 locs1 cells slots Q (F0 m (pc + 3) ls (rv.toList ++ st))) : W p l e R s m args below meth c H locs cells slots Q (F0 m pc ls st0) := by
  intro T hT X
  obtain ⟨v, st₀, t, T', LL, h0, X', hL, e1, e2, ⟨⟨hv, hWd⟩, hz, hk⟩, stp⟩ := hr T hT X
  cases hv
  rw [h0] at hz hk
  rw [← e1] at hWd hz hk
  obtain ⟨t2, a1, b1⟩ := kk T'.heap (locs ++ LL) hWd ⟨Nat.le_trans hS.1 hz, fun q h1 h2 => (hk q (Nat.lt_of_lt_of_le h1 hS.1) h2).trans (hS.2.1 q h1 h2), fun q hq => (List.mem_append.mp hq).elim (hS.2.2 q) (hL q)⟩ T' rfl X'
  exact ⟨t2, stp t2 a1, b1⟩
theorem Ex_callV {idx ci q n nL2 dp2 : Nat} {y : MethodName} {cb2 : ByteArray} {rt2 : Option FieldType} {As st0 : List Value} {rv : Option Value} {μ2 : Mem} (cv : CV own idx y cb2 nL2 rt2 n) (hk : kd q = ci) (hcl : (vwCl[ci]?).map (fun q => q.1) = some y.cls) (hn : As.length = n) (hd : dp2 < dp) (hm : nL2 ≤ 21) (hrest : (st.map fun v => v.category).sum ≤ 8) (hst : st0 = As.reverse ++ .ref (a0 + q) :: st) (hC : Ct a0 y cb2 nL2 rt2 dp2 (.ref (a0 + q) :: As) μ rv μ2) (d : decode cb pc = .ok (.invokevirtual idx, 3)) (kk : Ex a0 own cb nL rt dp sc ι (pc + 3) L (rv.toList ++ st) μ2 o) : Ex a0 own cb nL rt dp sc ι pc L st0 μ o := by
  intro r hr p l e R s m args below meth c cells slots Q cy D C K H locs ls hW hS hl
  obtain ⟨w1, w2, w3, w4, w5, w6⟩ := cv
  obtain ⟨hx, hb, hml, hown, hts, hnw, hK, ⟨r1, r2, r3, r4⟩, hsc⟩ := id C
  obtain ⟨⟨CC, T, N⟩, hci, hcn⟩ : ∃ q, vwCl[ci]? = some q ∧ q.1 = y.cls := by
    cases h : vwCl[ci]? with
    | none => rw [h] at hcl; cases hcl
    | some q => rw [h] at hcl; exact ⟨q, rfl, Option.some.inj hcl⟩
  have hci10 : ci < 10 := (List.getElem?_eq_some_iff.mp hci).1
  have he := wsM_get (a0 := a0) (cy := cy) (μ := μ) hk (by omega)
  rw [ent_ob (by omega)] at he
  have hrv := va_recv hK hW.1 hci he
  rw [hcn] at hrv
  have hG : GoodIn gT (wsV own idx y.cls y (.code y cb2 nL2 rt2 :: gT)) := by
    intro w hw
    have : w ∈ gT := by
      simp only [wsV, List.cons_append, List.nil_append, List.mem_cons] at hw
      rcases hw with rfl | rfl | rfl | rfl | rfl | hw <;> assumption
    exact gT_self w this
  exact Ex_run (va_runV (As := As) (rest := st) ⟨hx, hb, hml, hown, hts⟩ (hC l cy D) (cwV n hts hG rfl rfl rfl ⟨rfl, w6⟩ ⟨by show dp2 + 1 ≤ R.frames; omega, by show 8 + (nL2 + 11) + (40 * dp2 + 13) ≤ R.locals; omega⟩) ⟨Qd_pre, hrv, fun U hU hWm => ⟨rfl, by rw [hU]; exact hW, va_K.moved hWm.alike hK, nT_warm hWm hnw⟩⟩ rfl hn hl.1 hst (lv_room hrest) d ⟨r3, r4⟩) hS (fun H1 locs1 hW1 hS1 => kk r hr p l e R s m args below meth c cells slots Q cy D C K H1 locs1 ls hW1 hS1 hl)
theorem Ex_callS {idx n nL2 dp2 : Nat} {y : MethodName} {cb2 : ByteArray} {rt2 : Option FieldType} {As st0 : List Value} {rv : Option Value} {μ2 : Mem} (cv : CS own idx y cb2 nL2 rt2 n) (hn : As.length = n) (hd : dp2 < dp) (hm : nL2 ≤ 21) (hrest : (st.map fun v => v.category).sum ≤ 8) (hst : st0 = As.reverse ++ st) (hC : Ct a0 y cb2 nL2 rt2 dp2 As μ rv μ2) (d : decode cb pc = .ok (.invokestatic idx, 3)) (kk : Ex a0 own cb nL rt dp sc ι (pc + 3) L (rv.toList ++ st) μ2 o) : Ex a0 own cb nL rt dp sc ι pc L st0 μ o := by
  intro r hr p l e R s m args below meth c cells slots Q cy D C K H locs ls hW hS hl
  obtain ⟨w1, w2, w4, w5, w6⟩ := cv
  obtain ⟨hx, hb, hml, hown, hts, hnw, hK, ⟨r1, r2, r3, r4⟩, hsc⟩ := id C
  have hG : GoodIn gT (.code y cb2 nL2 rt2 :: gT) := by
    intro w hw
    have : w ∈ gT := by
      simp only [List.mem_cons] at hw
      rcases hw with rfl | hw <;> assumption
    exact gT_self w this
  exact Ex_run (va_runS (As := As) (rest := st) ⟨hx, hb, hml, hown, hts⟩ (hC l cy D) ⟨callB_of n hts hG rfl rfl rfl (hts _ w4) (hts _ w1) w6 ⟨by show dp2 + 1 ≤ R.frames; omega, by show 8 + (nL2 + 11) + (40 * dp2 + 13) ≤ R.locals; omega⟩, hts _ w2⟩ ⟨Qd_pre, fun U hU hWm => ⟨rfl, by rw [hU]; exact hW, va_K.moved hWm.alike hK, nT_warm hWm hnw⟩⟩ rfl hn hl.1 hst (lv_room hrest) d ⟨r3, r4⟩) hS (fun H1 locs1 hW1 hS1 => kk r hr p l e R s m args below meth c cells slots Q cy D C K H1 locs1 ls hW1 hS1 hl)
theorem Ex_callVR {idx ci q n nL2 dp2 : Nat} {y : MethodName} {cb2 : ByteArray} {rt2 : Option FieldType} (As : List Value) {st0 : List Value} {f : Option Int32} {kf : Int32 → Option α} (cv : CV own idx y cb2 nL2 rt2 n) (hk : kd q = ci) (hcl : (vwCl[ci]?).map (fun q => q.1) = some y.cls) (hn : As.length = n) (hd : dp2 < dp) (hm : nL2 ≤ 21) (hrest : (st.map fun v => v.category).sum ≤ 8) (hst : st0 = As.reverse ++ .ref (a0 + q) :: st) (hC : ∀ v, f = some v → Ct a0 y cb2 nL2 rt2 dp2 (.ref (a0 + q) :: As) μ (some (.int v)) μ) (d : decode cb pc = .ok (.invokevirtual idx, 3)) (kk : ∀ v, f = some v → Ex a0 own cb nL rt dp sc ι (pc + 3) L (.int v :: st) μ (kf v)) : Ex a0 own cb nL rt dp sc ι pc L st0 μ (f.bind kf) := by
  cases hf : f with
  | none => exact fun r hr => by cases hr
  | some v => exact Ex_callV cv hk hcl hn hd hm hrest hst (hC v hf) d (kk v hf)
theorem Ex_callVW {idx ci q n nL2 dp2 : Nat} {y : MethodName} {cb2 : ByteArray} {rt2 : Option FieldType} (As : List Value) {st0 : List Value} {f : Option (Int32 × Mem)} {kf : Int32 → Mem → Option α} (cv : CV own idx y cb2 nL2 rt2 n) (hk : kd q = ci) (hcl : (vwCl[ci]?).map (fun q => q.1) = some y.cls) (hn : As.length = n) (hd : dp2 < dp) (hm : nL2 ≤ 21) (hrest : (st.map fun v => v.category).sum ≤ 8) (hst : st0 = As.reverse ++ .ref (a0 + q) :: st) (hC : ∀ v μ2, f = some (v, μ2) → Ct a0 y cb2 nL2 rt2 dp2 (.ref (a0 + q) :: As) μ (some (.int v)) μ2) (d : decode cb pc = .ok (.invokevirtual idx, 3)) (kk : ∀ v μ2, f = some (v, μ2) → Ex a0 own cb nL rt dp sc ι (pc + 3) L (.int v :: st) μ2 (kf v μ2)) : Ex a0 own cb nL rt dp sc ι pc L st0 μ (bW f kf) := by
  cases hf : f with
  | none => exact fun r hr => by cases hr
  | some v => exact Ex_callV cv hk hcl hn hd hm hrest hst (hC v.1 v.2 hf) d (kk v.1 v.2 hf)
theorem Ex_callVV {idx ci q n nL2 dp2 : Nat} {y : MethodName} {cb2 : ByteArray} {rt2 : Option FieldType} (As : List Value) {st0 : List Value} {f : Option Mem} {kf : Mem → Option α} (cv : CV own idx y cb2 nL2 rt2 n) (hk : kd q = ci) (hcl : (vwCl[ci]?).map (fun q => q.1) = some y.cls) (hn : As.length = n) (hd : dp2 < dp) (hm : nL2 ≤ 21) (hrest : (st.map fun v => v.category).sum ≤ 8) (hst : st0 = As.reverse ++ .ref (a0 + q) :: st) (hC : ∀ μ2, f = some μ2 → Ct a0 y cb2 nL2 rt2 dp2 (.ref (a0 + q) :: As) μ none μ2) (d : decode cb pc = .ok (.invokevirtual idx, 3)) (kk : ∀ μ2, f = some μ2 → Ex a0 own cb nL rt dp sc ι (pc + 3) L st μ2 (kf μ2)) : Ex a0 own cb nL rt dp sc ι pc L st0 μ (f.bind kf) := by
  cases hf : f with
  | none => exact fun r hr => by cases hr
  | some v => exact Ex_callV cv hk hcl hn hd hm hrest hst (hC v hf) d (kk v hf)
theorem Ex_callVL {idx ci q n nL2 dp2 : Nat} {y : MethodName} {cb2 : ByteArray} {rt2 : Option FieldType} (As : List Value) {st0 : List Value} {f : Option Int64} {kf : Int64 → Option α} (cv : CV own idx y cb2 nL2 rt2 n) (hk : kd q = ci) (hcl : (vwCl[ci]?).map (fun q => q.1) = some y.cls) (hn : As.length = n) (hd : dp2 < dp) (hm : nL2 ≤ 21) (hrest : (st.map fun v => v.category).sum ≤ 8) (hst : st0 = As.reverse ++ .ref (a0 + q) :: st) (hC : ∀ v, f = some v → Ct a0 y cb2 nL2 rt2 dp2 (.ref (a0 + q) :: As) μ (some (.long v)) μ) (d : decode cb pc = .ok (.invokevirtual idx, 3)) (kk : ∀ v, f = some v → Ex a0 own cb nL rt dp sc ι (pc + 3) L (.long v :: st) μ (kf v)) : Ex a0 own cb nL rt dp sc ι pc L st0 μ (f.bind kf) := by
  cases hf : f with
  | none => exact fun r hr => by cases hr
  | some v => exact Ex_callV cv hk hcl hn hd hm hrest hst (hC v hf) d (kk v hf)
theorem Ex_callSR {idx n nL2 dp2 : Nat} {y : MethodName} {cb2 : ByteArray} {rt2 : Option FieldType} (As : List Value) {st0 : List Value} {f : Option Int32} {kf : Int32 → Option α} (cv : CS own idx y cb2 nL2 rt2 n) (hn : As.length = n) (hd : dp2 < dp) (hm : nL2 ≤ 21) (hrest : (st.map fun v => v.category).sum ≤ 8) (hst : st0 = As.reverse ++ st) (hC : ∀ v, f = some v → Ct a0 y cb2 nL2 rt2 dp2 As μ (some (.int v)) μ) (d : decode cb pc = .ok (.invokestatic idx, 3)) (kk : ∀ v, f = some v → Ex a0 own cb nL rt dp sc ι (pc + 3) L (.int v :: st) μ (kf v)) : Ex a0 own cb nL rt dp sc ι pc L st0 μ (f.bind kf) := by
  cases hf : f with
  | none => exact fun r hr => by cases hr
  | some v => exact Ex_callS cv hn hd hm hrest hst (hC v hf) d (kk v hf)
theorem Ex_callSW {idx n nL2 dp2 : Nat} {y : MethodName} {cb2 : ByteArray} {rt2 : Option FieldType} (As : List Value) {st0 : List Value} {f : Option (Int32 × Mem)} {kf : Int32 → Mem → Option α} (cv : CS own idx y cb2 nL2 rt2 n) (hn : As.length = n) (hd : dp2 < dp) (hm : nL2 ≤ 21) (hrest : (st.map fun v => v.category).sum ≤ 8) (hst : st0 = As.reverse ++ st) (hC : ∀ v μ2, f = some (v, μ2) → Ct a0 y cb2 nL2 rt2 dp2 As μ (some (.int v)) μ2) (d : decode cb pc = .ok (.invokestatic idx, 3)) (kk : ∀ v μ2, f = some (v, μ2) → Ex a0 own cb nL rt dp sc ι (pc + 3) L (.int v :: st) μ2 (kf v μ2)) : Ex a0 own cb nL rt dp sc ι pc L st0 μ (bW f kf) := by
  cases hf : f with
  | none => exact fun r hr => by cases hr
  | some v => exact Ex_callS cv hn hd hm hrest hst (hC v.1 v.2 hf) d (kk v.1 v.2 hf)
/-- a method's contract out of the walk of its body -/
theorem Ct_of {y : MethodName} {av : List Value} {rv : Option Value} {μ2 : Mem} (hpl : plainName y.cls = true) (hown : y.cls = own) (hlen : (lg_sl av).length ≤ nL) (hE : Ex a0 own cb nL rt dp none ι 0 (lv_args 0 av) [] μ o) {r : α} (hr : o = some r) (hι : ι r = (rv, μ2)) (hrt : match rv with | none => rt = none | some (.int _) => ∃ ty, rt = some ty | some (.long _) => rt = some .long | _ => False) : Ct a0 y cb nL rt dp av μ rv μ2 := by
  intro l cy D
  refine Met.ofW (cc := cb) (maxL := nL) (ret := rt) hpl rfl ?_
  intro p e s m args below meth c s₁ B hml hv
  obtain ⟨rfl, hWd, hK, hnw⟩ := hv
  have hts := atoms_spec (ws := .code y cb nL rt :: gT) B.pre
  have ho : s.vm.findClass own = some m.cls := by rw [← hown]; exact findClass_of_methodNamed B.named
  have hl := lv_entry av (n := nL) hlen
  rw [lg_entry_eq]
  refine hE r hr p l e (rmD dp) s m av.toArray below meth c 0 0 (MQ below (Qd a0 cy D rv μ2) av.toArray s 0 0 (fun q => a0 ≤ q)) cy D ⟨B.exec, B.bytes, hml, ho, fun w h => hts w (List.mem_cons_of_mem _ h), hnw, hK, ⟨Nat.le_refl _, Nat.le_refl _, Nat.le_refl _, Nat.le_refl _⟩, fun _ _ _ h => by cases h⟩ ?_ s.heap [] _ hWd va_S.rf hl
  intro H locs ls pc hW hS hd hnar
  have hlocks := B.notSynchronized
  have hret := B.returns
  rw [hι] at hW hd hnar
  rw [hι]
  have hq : ∀ t : State, t.heap = H → s.WarmedH t.vm → Qd a0 cy D rv μ2 av.toArray s (.returned rv) t := fun t ht _ => ⟨⟨rfl, by rw [ht]; exact hW⟩, hS.F ht⟩
  cases rv with
  | none => exact W.vret B.exec B.bytes (hret.trans hrt) hq hS.2.2 hd hlocks
  | some v =>
    cases v with
    | int v =>
      obtain ⟨ty, hty⟩ := hrt
      exact W.zret B.exec B.bytes (hret.trans hty) (hnar ty _ hty rfl) hq hS.2.2 hd hlocks
    | long v => exact W.lret B.exec B.bytes (hret.trans hrt) hq hS.2.2 hd hlocks
    | _ => exact hrt.elim
end HEAP
