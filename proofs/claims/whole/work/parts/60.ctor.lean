/-! THE CONSTRUCTORS: cells come one behind the other; PW: the first n cells of the world, whatever they hold -/
def PW (a0 n : Nat) (D : va_G) (E : Nat → va_E) (H : Heap) : Prop := va_P D vwCl (mapW a0 n E) H ∧ H.size = a0 + n
theorem PW_at {a0 n : Nat} {D : va_G} {E : Nat → va_E} {H : Heap} (h : PW a0 n D E H) {k : Nat} (hk : k < n) : va_at D vwCl (a0 + k, E k) H := h.1 k _ (mapW_get hk)
theorem PW_of {a0 n : Nat} {D : va_G} {E : Nat → va_E} {H : Heap} (h : ∀ k, k < n → va_at D vwCl (a0 + k, E k) H) (hz : H.size = a0 + n) : PW a0 n D E H := by
  refine ⟨fun k q hq => ?_, hz⟩
  by_cases hk : k < n
  · rw [mapW_get hk] at hq
    cases hq
    exact h k hk
  · have h1 : (mapW a0 n E)[k]? = none := by simp [mapW]; omega
    rw [h1] at hq
    cases hq
theorem PW_push {a0 n : Nat} {D : va_G} {E E1 : Nat → va_E} {e : va_E} {H H1 : Heap} (hP : PW a0 n D E H) (z : H1.size = H.size + 1) (o : ∀ q, q < H.size → H1[q]? = H[q]?) (he : va_at D vwCl (a0 + n, e) H1) (h1 : E1 n = e) (h2 : ∀ k, k < n → E1 k = E k) : PW a0 (n + 1) D E1 H1 := by
  refine PW_of (fun k hk => ?_) (by rw [z, hP.2]; omega)
  by_cases hkn : k = n
  · subst hkn; rw [h1]; exact he
  · have hk' : k < n := by omega
    rw [h2 k hk']
    exact (PW_at hP hk').kept (o _ (by show a0 + k < H.size; rw [hP.2]; omega))
theorem PW_set {a0 n q : Nat} {D : va_G} {E E1 : Nat → va_E} {e : va_E} {H H1 : Heap} (hP : PW a0 n D E H) (z : H1.size = H.size) (o : ∀ x, x ≠ a0 + q → H1[x]? = H[x]?) (he : va_at D vwCl (a0 + q, e) H1) (h1 : E1 q = e) (h2 : ∀ k, k ≠ q → E1 k = E k) : PW a0 n D E1 H1 := by
  refine PW_of (fun k hk => ?_) (by rw [z, hP.2])
  by_cases hkq : k = q
  · subst hkq; rw [h1]; exact he
  · rw [h2 k hkq]
    exact (PW_at hP hk).kept (o _ (by show a0 + k ≠ a0 + q; omega))
theorem arrV_congr {cA : ClassId} {n : Nat} {f g : Nat → Value} (h : ∀ j, j < n → f j = g j) : arrV cA n f = arrV cA n g := by
  unfold arrV
  congr 1
  apply Array.ext
  · simp
  · intro i h1 h2
    simp at h1
    simp [h i h1]
theorem at_refs {D : va_G} {cl : List vw_C} {a n : Nat} {cA : ClassId} {f g : Nat → Option Nat} {H : Heap} (h : ∀ j, j < n → f j = g j) (hf : va_at D cl (a, .inl (cA, n, .inr (.inr (.inr (.inr f))))) H) : va_at D cl (a, .inl (cA, n, .inr (.inr (.inr (.inr g))))) H := by
  show H[a]? = some (vp_cell cA (n, .inr (.inr (.inr (.inr g)))))
  have hf : H[a]? = some (vp_cell cA (n, .inr (.inr (.inr (.inr f))))) := hf
  rw [hf, vp_cell_q, vp_cell_q, arrV_congr (fun j hj => by rw [h j hj])]
def Fz (a0 : Nat) (cy : Nat → ClassId) (k : Nat) : va_E := entK a0 cy μ0 k (kd k)
def AOs (U : State) : Prop := va_AO "ElbowRanks$Course" U ∧ va_AO "ElbowRanks$Moment" U
theorem AOs.moved {u U : State} (hvm : u.vm.Alike U.vm) (h : AOs u) : AOs U := ⟨h.1.moved hvm, h.2.moved hvm⟩
/-- what a constructor starts from -/
def Wsc (a0 n : Nat) (cy : Nat → ClassId) (D : va_G) (E : Nat → va_E) (U : State) : Prop := PW a0 n D E U.heap ∧ va_K D vwCl (tysM cy) U ∧ (∀ w ∈ nT, va_Nw w U) ∧ AOs U
def Qc0 (a0 q n : Nat) (cy : Nat → ClassId) (D : va_G) (E : Nat → va_E) : Array Value → State → Outcome → State → Prop := fun _ st o t => (o = .returned none ∧ ∃ E1, PW a0 n D E1 t.heap ∧ (∀ k, k < q → E1 k = E k) ∧ ∀ k, q ≤ k → k < n → E1 k = Fz a0 cy k) ∧ va_F (fun q => a0 ≤ q) st t
abbrev rmC (dp mc ms : Nat) : Room := { frames := dp, cells := mc, slots := ms, locals := 40 * dp + 13 }
theorem Wsc_pre {a0 n : Nat} {cy : Nat → ClassId} {D : va_G} {E : Nat → va_E} {av : List Value} : FrameBlind (va_Pc av (Wsc a0 n cy D E)) := fun a U g mk q => ⟨q.1, q.2.1, va_K.moved (u := U) (U := U.calling g mk a) (Vm.Alike.refl U.vm) q.2.2.1, nT_same (u := U) (U := U.calling g mk a) rfl q.2.2.2.1, AOs.moved (u := U) (U := U.calling g mk a) (Vm.Alike.refl U.vm) q.2.2.2.2⟩
/-- a constructor's contract: the object at q is new (fs), mc cells of ms slots come -/
def Cc (a0 q : Nat) (y : MethodName) (cb : ByteArray) (nL dp mc ms ci : Nat) (fs : List Value) : Prop :=
  ∀ (l : Launch) (cy : Nat → ClassId) (D : va_G) (E : Nat → va_E), E q = .inr (ci, fs) → Met l y (.code y cb nL none :: gT) (rmC dp mc ms) (va_Pc [.ref (a0 + q)] (Wsc a0 (q + 1) cy D E)) (Qc0 a0 q (q + 1 + mc) cy D E) mc ms (fun q => a0 ≤ q)
section PWROWS
variable {p : Program} {l : Launch} {e : Env} {R : Room} {s : State} {m : MethodId} {args : Array Value} {below : List Frame} {meth : Method} {c : Code} {H : Heap} {locs : List Loc} {cells slots : Nat} {Q : State → Prop}
variable {cc : ByteArray} {pc : Nat} {ls : Array Slot} {rest : List Value} {a0 n : Nat} {D : va_G} {E : Nat → va_E} {own : String} {cy : Nat → ClassId}
theorem pw_objInit (hx : p.tables.exec = Jvm.exec) (hb : c.code = cc) (hml : c.maxLocals = ls.size) (hown : s.vm.findClass own = some m.cls) (hts : ∀ w ∈ gT, w.before args s = true) {idx a : Nat} (h1 : Cond.methodLink own idx Lib.objectInit ∈ gT) (h2 : Cond.instanceMethod Lib.objectInit ∈ gT) (h3 : Cond.code Lib.objectInit ⟨#[0xb1]⟩ 1 none ∈ gT) (hf : 1 ≤ R.frames) (hlo : 13 ≤ R.locals) (hd : decode cc pc = .ok (.invokespecial idx, 3)) (kk : W p l e R s m args below meth c H locs cells slots Q (F0 m (pc + 3) ls [])) : W p l e R s m args below meth c H locs cells slots Q (F0 m pc ls [.ref a]) :=
  W.objInit hx hb hown (hts _ h1) (hts _ h2) (hts _ h3) rfl hml.symm rfl hd hf (by show 2 * 0 + 0 + 12 ≤ R.locals; omega) kk
theorem pw_new (hx : p.tables.exec = Jvm.exec) (hb : c.code = cc) (hown : s.vm.findClass own = some m.cls) (hts : ∀ w ∈ gT, w.before args s = true) (hK : va_K D vwCl (tysM cy) s) {ci idx : Nat} {C : String} {T : u_T} {N : Nat} (hci : vwCl[ci]? = some (C, T, N)) {fs : List Value} (hfs : ∀ ty : Nat → FieldType, (∀ k, k < N → parseFieldDescriptor (T k).2.2.1 = some (ty k)) → ∀ j, j < N → defaultValue (ty j) = vp_V fs j) (h1 : Cond.classLink own idx C ∈ gT) (h2 : Cond.instantiable C N ∈ gT) (h3 : Cond.initialized C ∈ gT) (hP : PW a0 n D E H) (hS : va_S (fun q => a0 ≤ q) s.heap H locs) (hc : cells + 1 ≤ R.cells) (hsl : slots + N ≤ R.slots) (hd : decode cc pc = .ok (.new idx, 3))
    (kk : ∀ (H1 : Heap) (E1 : Nat → va_E), PW a0 (n + 1) D E1 H1 → E1 n = .inr (ci, fs) → (∀ k, k < n → E1 k = E k) → va_S (fun q => a0 ≤ q) s.heap H1 locs → W p l e R s m args below meth c H1 locs (cells + 1) (slots + N) Q (F0 m (pc + 3) ls (.ref (a0 + n) :: rest))) : W p l e R s m args below meth c H locs cells slots Q (F0 m pc ls rest) := by
  have hKn := hK.1 ci _ hci
  obtain ⟨hin, ⟨ty, hty⟩, -⟩ := cl_ok ci _ hci
  refine W.newcK hx hb hown (hts _ h1) (hts _ h2) (hts _ h3) rfl hd hc hsl hKn.2.1 hP.2 fun H1 kC hkC e1 z1 o1 => ?_
  refine kk H1 (fun k => if k = n then .inr (ci, fs) else E k) (PW_push hP (by rw [z1, hP.2]) (fun q hq => o1 q (by rw [← hP.2]; exact hq)) ?_ (if_pos rfl) (fun k hk => if_neg (by omega))) (if_pos rfl) (fun k hk => if_neg (by omega)) ⟨Nat.le_trans hS.1 (by rw [hP.2, z1]; omega), fun x g1 g2 => (o1 x (by rw [← hP.2]; exact Nat.lt_of_lt_of_le g1 hS.1)).trans (hS.2.1 x g1 g2), hS.2.2⟩
  exact ⟨_, hci, (u_born ty hts hin hKn hkC e1 hty).to (hfs ty hty)⟩
theorem pw_newa (hx : p.tables.exec = Jvm.exec) (hb : c.code = cc) (hts : ∀ w ∈ gT, w.before args s = true) (hK : va_K D vwCl (tysM cy) s) {atype : ArrayType} {ty : FieldType} (hty : newarray.typeOf atype = ty) (hdv : defaultValue ty = .int 0) (hnm : ∀ cA, va_RA s cA ty → s.vm.findClass ("[" ++ ty.toString) = some cA) (t0 : Nat) (ht : (tysM cy)[t0]? = some (cy t0, ty)) (h1 : Cond.arrayClass ty ∈ gT) {v : Int32} (N : Nat) (hn : ¬ v < 0) (hN : v.toNatClampNeg = N) (hbytes : N * componentBytes ty ≤ 536870912) (hP : PW a0 n D E H) (hS : va_S (fun q => a0 ≤ q) s.heap H locs) (hc : cells + 1 ≤ R.cells) (hsl : slots + N ≤ R.slots) (hd : decode cc pc = .ok (.newarray atype, 2))
    (kk : ∀ (H1 : Heap) (E1 : Nat → va_E), PW a0 (n + 1) D E1 H1 → E1 n = .inl (cy t0, N, .inl (fun _ => 0)) → (∀ k, k < n → E1 k = E k) → va_S (fun q => a0 ≤ q) s.heap H1 locs → W p l e R s m args below meth c H1 locs (cells + 1) (slots + N) Q (F0 m (pc + 2) ls (.ref (a0 + n) :: rest))) : W p l e R s m args below meth c H locs cells slots Q (F0 m pc ls (.int v :: rest)) := by
  subst hty
  refine va_newaK hx hb (hts _ h1) rfl hd rfl hn hN hbytes hc hsl hP.2 fun H1 cA e1 z1 o1 hAr hNm => ?_
  have hcA : cA = cy t0 := Option.some.inj (hNm.symm.trans (hnm _ (hK.2 t0 _ ht).2))
  subst hcA
  refine kk H1 (fun k => if k = n then .inl (cy t0, N, .inl (fun _ => 0)) else E k) (PW_push hP (by rw [z1, hP.2]) (fun q hq => o1 q (by rw [← hP.2]; exact hq)) ?_ (if_pos rfl) (fun k hk => if_neg (by omega))) (if_pos rfl) (fun k hk => if_neg (by omega)) ⟨Nat.le_trans hS.1 (by rw [hP.2, z1]; omega), fun x g1 g2 => (o1 x (by rw [← hP.2]; exact Nat.lt_of_lt_of_le g1 hS.1)).trans (hS.2.1 x g1 g2), hS.2.2⟩
  show H1[a0 + n]? = some (vp_cell (cy t0) (N, .inl (fun _ => 0)))
  rw [vp_cell_i, e1, hdv]
theorem pw_newq (hx : p.tables.exec = Jvm.exec) (hb : c.code = cc) (hown : s.vm.findClass own = some m.cls) (hts : ∀ w ∈ gT, w.before args s = true) (hK : va_K D vwCl (tysM cy) s) {C : String} {idx : Nat} (hao : va_AO C s) (t0 : Nat) (ht : (tysM cy)[t0]? = some (cy t0, .object C)) (h1 : Cond.classLink own idx C ∈ gT) {v : Int32} (N : Nat) (hn : ¬ v < 0) (hN : v.toNatClampNeg = N) (hbytes : N * 4 ≤ 536870912) (hP : PW a0 n D E H) (hS : va_S (fun q => a0 ≤ q) s.heap H locs) (hc : cells + 1 ≤ R.cells) (hsl : slots + N ≤ R.slots) (hd : decode cc pc = .ok (.anewarray idx, 3))
    (kk : ∀ (H1 : Heap) (E1 : Nat → va_E), PW a0 (n + 1) D E1 H1 → E1 n = .inl (cy t0, N, .inr (.inr (.inr (.inr (fun _ => none))))) → (∀ k, k < n → E1 k = E k) → va_S (fun q => a0 ≤ q) s.heap H1 locs → W p l e R s m args below meth c H1 locs (cells + 1) (slots + N) Q (F0 m (pc + 3) ls (.ref (a0 + n) :: rest))) : W p l e R s m args below meth c H locs cells slots Q (F0 m pc ls (.int v :: rest)) := by
  subst hN
  refine W.anew hx hb hown (hts _ h1) (va_AO.use hao) rfl hd rfl hn hbytes hc hsl fun cA kA comp f1 f2 f3 f4 => ?_
  generalize hH1 : H.push ({ cls := cA, slots := Array.replicate v.toNatClampNeg .null, vm := .none } : Cell) = H1
  have z1 : H1.size = H.size + 1 := by rw [← hH1, Array.size_push]
  have e1 : H1[H.size]? = some (arrV cA v.toNatClampNeg (fun _ => .null)) := by rw [← hH1, Array.getElem?_push_size, ← arrV_new]
  have o1 : ∀ q : Nat, q < H.size → H1[q]? = H[q]? := fun q hq => by rw [← hH1, Array.getElem?_push, if_neg (Nat.ne_of_lt hq)]
  obtain ⟨kA2, comp2, g2, g3, g4, g1⟩ := (hK.2 t0 _ ht).2
  have hcA : cA = cy t0 := Option.some.inj (f1.symm.trans g1)
  subst hcA
  rw [hP.2]
  refine kk H1 (fun k => if k = n then .inl (cy t0, v.toNatClampNeg, .inr (.inr (.inr (.inr (fun _ => none))))) else E k) (PW_push hP z1 o1 ?_ (if_pos rfl) (fun k hk => if_neg (by omega))) (if_pos rfl) (fun k hk => if_neg (by omega)) ⟨Nat.le_trans hS.1 (by rw [z1]; omega), fun x q1 q2 => (o1 x (Nat.lt_of_lt_of_le q1 hS.1)).trans (hS.2.1 x q1 q2), hS.2.2⟩
  show H1[a0 + n]? = some (vp_cell (cy t0) (_, .inr (.inr (.inr (.inr (fun _ => none))))))
  rw [vp_cell_q, ← hP.2, e1]
  rfl
theorem pw_putF (hx : p.tables.exec = Jvm.exec) (hb : c.code = cc) (hown : s.vm.findClass own = some m.cls) (hts : ∀ w ∈ gT, w.before args s = true) (hK : va_K D vwCl (tysM cy) s) {ci idx k q : Nat} {C : String} {T : u_T} {N : Nat} (hci : vwCl[ci]? = some (C, T, N)) (hk : k < N) (hfin : (T k).2.2.2 = true) (hin2 : meth.name = "<init>") (hdecl : (T k).1 = own) (h1 : Cond.fieldLink own idx (T k).1 (T k).2.1 (T k).2.2.1 ∈ gT) {fs : List Value} (hE : E q = .inr (ci, fs)) (hq : q < n) {ty : FieldType} {v : Value} (hd0 : parseFieldDescriptor (T k).2.2.1 = some ty) (hn : narrow ty v = v) (hfit : fits ty v = true) (hl : k < fs.length) (hP : PW a0 n D E H) (hS0 : va_S (fun q => a0 ≤ q) s.heap H locs) (hd : decode cc pc = .ok (.putfield idx, 3))
    (kk : ∀ (H1 : Heap) (E1 : Nat → va_E) (locs1 : List Loc), PW a0 n D E1 H1 → E1 q = .inr (ci, fs.set k v) → (∀ k, k ≠ q → E1 k = E k) → va_S (fun q => a0 ≤ q) s.heap H1 locs1 → W p l e R s m args below meth c H1 locs1 cells slots Q (F0 m (pc + 3) ls rest)) : W p l e R s m args below meth c H locs cells slots Q (F0 m pc ls (v :: .ref (a0 + q) :: rest)) := by
  obtain ⟨hin, ⟨ty0, hty⟩, hnm⟩ := cl_ok ci _ hci
  have hap := va_apart (own := own) hts hin ty0 hty hnm hK hci
  have hat := PW_at hP hq
  rw [hE] at hat
  obtain ⟨r, g1, cell, q1, q2, q3, q4⟩ := hat
  have hr : r = (C, T, N) := Option.some.inj (g1.symm.trans hci)
  subst hr
  obtain ⟨hS, hfc, kC, hkC, hkind⟩ := hK.1 ci _ hci
  obtain ⟨cf, kf, fi, f, hi, hsl⟩ := hS k hk
  have hlay := hts _ (hin _ (u_in_lay hk))
  unfold u_lay at hlay
  rw [if_pos hfin] at hlay
  have hst := (u_facts hfc hkC (u_lays hts hin hk) hi).1
  have hcf : m.cls = cf := by
    obtain ⟨_, _, c', _, _, _, -, -, hf', -, -, -, hown2, -⟩ := Cond.laysFinal_spec hlay
    have e1 : c' = cf := by have := hi.symm.trans hf'; simp at this; exact this.1.symm
    rw [hdecl] at hown2
    rw [← e1]; exact Option.some.inj (hown.symm.trans hown2)
  have h6 := u_fits hfc hkC hkind (Or.inr hlay) hi hd0 hn hfit
  refine W.putFinK hx hb hown (hts _ h1) hi hst hcf hin2 (by rw [q2]; exact h6) q1 q3 (by rw [hsl]; exact k2_hasslot (q4 k hk)) rfl rfl hd fun H' e1 e2 e3 => ?_
  rw [hsl] at e1 ⊢
  exact kk H' (fun k' => if k' = q then .inr (ci, fs.set k v) else E k') _ (PW_set (e := .inr (ci, fs.set k v)) hP e2 e3 ⟨_, hci, t_OB.to (V := updV (vp_V fs) k v) ⟨_, e1, q2, q3, t_set q4 hap hk v⟩ (fun j _ => vp_updV_set hl v j)⟩ (if_pos rfl) (fun k hk => if_neg hk)) (if_pos rfl) (fun k hk => if_neg hk) (hS0.put e2 e3 (Nat.le_add_right _ _))
theorem pw_put (hx : p.tables.exec = Jvm.exec) (hb : c.code = cc) (hown : s.vm.findClass own = some m.cls) (hts : ∀ w ∈ gT, w.before args s = true) (hK : va_K D vwCl (tysM cy) s) {ci idx k q : Nat} {C : String} {T : u_T} {N : Nat} (hci : vwCl[ci]? = some (C, T, N)) (hk : k < N) (hfin : (T k).2.2.2 = false) (h1 : Cond.fieldLink own idx (T k).1 (T k).2.1 (T k).2.2.1 ∈ gT) {fs : List Value} (hE : E q = .inr (ci, fs)) (hq : q < n) {ty : FieldType} {v : Value} (hd0 : parseFieldDescriptor (T k).2.2.1 = some ty) (hn : narrow ty v = v) (hfit : fits ty v = true) (hl : k < fs.length) (hP : PW a0 n D E H) (hS0 : va_S (fun q => a0 ≤ q) s.heap H locs) (hd : decode cc pc = .ok (.putfield idx, 3))
    (kk : ∀ (H1 : Heap) (E1 : Nat → va_E) (locs1 : List Loc), PW a0 n D E1 H1 → E1 q = .inr (ci, fs.set k v) → (∀ k, k ≠ q → E1 k = E k) → va_S (fun q => a0 ≤ q) s.heap H1 locs1 → W p l e R s m args below meth c H1 locs1 cells slots Q (F0 m (pc + 3) ls rest)) : W p l e R s m args below meth c H locs cells slots Q (F0 m pc ls (v :: .ref (a0 + q) :: rest)) := by
  obtain ⟨hin, ⟨ty0, hty⟩, hnm⟩ := cl_ok ci _ hci
  have hap := va_apart (own := own) hts hin ty0 hty hnm hK hci
  have hat := PW_at hP hq
  rw [hE] at hat
  obtain ⟨r, g1, cell, q1, q2, q3, q4⟩ := hat
  have hr : r = (C, T, N) := Option.some.inj (g1.symm.trans hci)
  subst hr
  obtain ⟨hS, hfc, kC, hkC, hkind⟩ := hK.1 ci _ hci
  obtain ⟨cf, kf, fi, f, hi, hsl⟩ := hS k hk
  have hlay := hts _ (hin _ (u_in_lay hk))
  unfold u_lay at hlay
  rw [if_neg (by rw [hfin]; decide)] at hlay
  have hst := (u_facts hfc hkC (u_lays hts hin hk) hi).1
  have h6 := u_store hfc hkC hkind hlay hi hd0 hn hfit
  refine W.putK hx hb (f := f) ⟨hown, hts _ h1, ⟨_, _, _, hi⟩, hst⟩ (by rw [q2]; exact h6) q1 q3 (by rw [hsl]; exact k2_hasslot (q4 k hk)) rfl rfl hd fun H' e1 e2 e3 => ?_
  rw [hsl] at e1 ⊢
  exact kk H' (fun k' => if k' = q then .inr (ci, fs.set k v) else E k') _ (PW_set (e := .inr (ci, fs.set k v)) hP e2 e3 ⟨_, hci, t_OB.to (V := updV (vp_V fs) k v) ⟨_, e1, q2, q3, t_set q4 hap hk v⟩ (fun j _ => vp_updV_set hl v j)⟩ (if_pos rfl) (fun k hk => if_neg hk)) (if_pos rfl) (fun k hk => if_neg hk) (hS0.put e2 e3 (Nat.le_add_right _ _))
theorem pw_get (hx : p.tables.exec = Jvm.exec) (hb : c.code = cc) (hown : s.vm.findClass own = some m.cls) (hts : ∀ w ∈ gT, w.before args s = true) (hK : va_K D vwCl (tysM cy) s) {ci idx k q : Nat} {C : String} {T : u_T} {N : Nat} (hci : vwCl[ci]? = some (C, T, N)) (hk : k < N) (h1 : Cond.fieldLink own idx (T k).1 (T k).2.1 (T k).2.2.1 ∈ gT) {fs : List Value} (hE : E q = .inr (ci, fs)) (hq : q < n) {v : Value} (hv : fs[k]? = some v) (hP : PW a0 n D E H) (hd : decode cc pc = .ok (.getfield idx, 3))
    (kk : W p l e R s m args below meth c H locs cells slots Q (F0 m (pc + 3) ls (v :: rest))) : W p l e R s m args below meth c H locs cells slots Q (F0 m pc ls (.ref (a0 + q) :: rest)) :=
  va_get hx hb hts (cl_ok ci _ hci).1 hown hK hP.1 q ((mapW_get hq).trans (by rw [hE])) hci k hk (hts _ h1) (fun x h => h) hv hd kk
theorem pw_aast (hx : p.tables.exec = Jvm.exec) (hb : c.code = cc) (hK : va_K D vwCl (tysM cy) s) {ci q v N : Nat} {r : vw_C} (hci : vwCl[ci]? = some r) (t0 : Nat) (ht : (tysM cy)[t0]? = some (cy t0, .object r.1)) {f : Nat → Option Nat} {vs : List Value} (hE : E q = .inl (cy t0, N, .inr (.inr (.inr (.inr f))))) (hq : q < n) (hv : E v = .inr (ci, vs)) (hvn : v < n) {i : Int32} (hi : vp_in i N) (hP : PW a0 n D E H) (hS : va_S (fun q => a0 ≤ q) s.heap H locs) (hd : decode cc pc = .ok (.aastore, 1))
    (kk : ∀ (H1 : Heap) (E1 : Nat → va_E) (locs1 : List Loc), PW a0 n D E1 H1 → E1 q = .inl (cy t0, N, .inr (.inr (.inr (.inr (va_up f i.toNatClampNeg (some (a0 + v))))))) → (∀ k, k ≠ q → E1 k = E k) → va_S (fun q => a0 ≤ q) s.heap H1 locs1 → W p l e R s m args below meth c H1 locs1 cells slots Q (F0 m (pc + 1) ls rest)) : W p l e R s m args below meth c H locs cells slots Q (F0 m pc ls (.ref (a0 + v) :: .int i :: .ref (a0 + q) :: rest)) := by
  have hlt : i.toNatClampNeg < N := Nat.not_le.mp fun z => hi (Or.inr z)
  have h0 : ¬ i < 0 := fun z => hi (Or.inl z)
  have hat := PW_at hP hq
  rw [hE] at hat
  have hat : H[a0 + q]? = some (vp_cell (cy t0) (N, .inr (.inr (.inr (.inr f))))) := hat
  have hav := PW_at hP hvn
  rw [hv] at hav
  obtain ⟨r', hr', cellV, g1, g2, g3, -⟩ := hav
  have hcls := (hK.1 ci r hci).2
  obtain ⟨kA, comp, k1, k2, k3, -⟩ := (hK.2 t0 _ ht).2
  have hcomp : comp = D.1 ci := Option.some.inj (k3.symm.trans hcls.1)
  subst hcomp
  obtain ⟨kC, hkC, -⟩ := hcls.2
  refine W.aast hx hb hat (fun q h => by cases h) (fun h => by cases h) k1 k2 rfl hkC ⟨h0, by show _ < (arrV _ _ _).slots.size; rw [arrV_size]; exact hlt⟩ g1 (fun q h => by rw [g3] at h; cases h) (by rw [g2]; exact hkC) (by rw [g2]; exact va_assign hcls) rfl rfl hd fun H1 e z oq => ?_
  refine kk H1 (fun k' => if k' = q then .inl (cy t0, N, .inr (.inr (.inr (.inr (va_up f i.toNatClampNeg (some (a0 + v))))))) else E k') _ (PW_set hP z oq ?_ (if_pos rfl) (fun k hk => if_neg hk)) (if_pos rfl) (fun k hk => if_neg hk) (hS.put z oq (Nat.le_add_right _ _))
  show H1[a0 + q]? = some (vp_cell _ _)
  rw [e]
  rw [vp_cell_q, vp_cell_q, arrV_store]
  congr 2
  funext x
  by_cases hxi : x = i.toNatClampNeg
  · subst hxi
    simp [updV, va_up, va_rf]
  · simp [updV, va_up, hxi]
/-- behind a constructor's call -/
theorem pw_run {q n2 mc ms : Nat} {st0 : List Value} {a : Array Value} (hr : va_Run p l e R s m args below meth c H locs cells slots mc ms (F0 m pc ls st0) rest (Qc0 a0 q n2 cy D E a) (fun q => a0 ≤ q)) (hS : va_S (fun q => a0 ≤ q) s.heap H locs)
    (kk : ∀ (H1 : Heap) (E1 : Nat → va_E) (locs1 : List Loc), PW a0 n2 D E1 H1 → (∀ k, k < q → E1 k = E k) → (∀ k, q ≤ k → k < n2 → E1 k = Fz a0 cy k) → va_S (fun q => a0 ≤ q) s.heap H1 locs1 → W p l e R s m args below meth c H1 locs1 (cells + mc) (slots + ms) Q (F0 m (pc + 3) ls rest)) : W p l e R s m args below meth c H locs cells slots Q (F0 m pc ls st0) := by
  intro T hT X
  obtain ⟨v, st₀, t, T', LL, h0, X', hL, e1, e2, ⟨⟨hv, E1, hW, hE1, hE2⟩, hz, hk⟩, stp⟩ := hr T hT X
  cases hv
  rw [h0] at hz hk
  rw [← e1] at hW hz hk
  obtain ⟨t2, a1, b1⟩ := kk T'.heap E1 (locs ++ LL) hW hE1 hE2 ⟨Nat.le_trans hS.1 hz, fun q h1 h2 => (hk q (Nat.lt_of_lt_of_le h1 hS.1) h2).trans (hS.2.1 q h1 h2), fun q hq => (List.mem_append.mp hq).elim (hS.2.2 q) (hL q)⟩ T' rfl X'
  exact ⟨t2, stp t2 a1, b1⟩
/-- the words of a constructor's call -/
def CIW (own : String) (idx : Nat) (y : MethodName) (cb2 : ByteArray) (nL2 : Nat) : Prop := (Cond.methodLink own idx y ∈ gT ∨ ∃ host, Cond.methodLinkNest own idx y host ∈ nT) ∧ Cond.instanceMethod y ∈ gT ∧ Cond.initialized y.cls ∈ gT ∧ Cond.code y cb2 nL2 none ∈ gT ∧ (y.name = "<init>" ∧ y.cls ≠ "java/lang/invoke/MethodHandle" ∧ y.cls ≠ "java/lang/invoke/VarHandle" ∧ (parseMethodDescriptor y.desc).map (fun d => d.parameters.length) = some 0)
theorem pw_call (hx : p.tables.exec = Jvm.exec) (hb : c.code = cc) {nL : Nat} (hml : c.maxLocals = nL) (hls : ls.size = nL) (hown : s.vm.findClass own = some m.cls) (hts : ∀ w ∈ gT, w.before args s = true) (hnw : ∀ w ∈ nT, va_Nw w s) (hK : va_K D vwCl (tysM cy) s) (hao : AOs s) {idx q nL2 dp2 mc ms ci : Nat} {y : MethodName} {cb2 : ByteArray} {fs : List Value} (cw : CIW own idx y cb2 nL2) (hm2 : nL2 ≤ 21) (hC : Cc a0 q y cb2 nL2 dp2 mc ms ci fs) (hE : E q = .inr (ci, fs)) (hqn : n = q + 1) (hf : dp2 + 1 ≤ R.frames) (hlo : 40 * (dp2 + 1) + 13 ≤ R.locals) (hc : cells + mc ≤ R.cells) (hsl : slots + ms ≤ R.slots) (hrest : (rest.map fun v => v.category).sum ≤ 8) (hP : PW a0 n D E H) (hS : va_S (fun q => a0 ≤ q) s.heap H locs) (hd : decode cc pc = .ok (.invokespecial idx, 3))
    (kk : ∀ (H1 : Heap) (E1 : Nat → va_E) (locs1 : List Loc), PW a0 (q + 1 + mc) D E1 H1 → (∀ k, k < q → E1 k = E k) → (∀ k, q ≤ k → k < q + 1 + mc → E1 k = Fz a0 cy k) → va_S (fun q => a0 ≤ q) s.heap H1 locs1 → W p l e R s m args below meth c H1 locs1 (cells + mc) (slots + ms) Q (F0 m (pc + 3) ls rest)) : W p l e R s m args below meth c H locs cells slots Q (F0 m pc ls (.ref (a0 + q) :: rest)) := by
  subst hqn
  obtain ⟨w1, w2, w3, w4, w5, w6, w7, w8⟩ := cw
  have hG : GoodIn gT (.code y cb2 nL2 none :: gT) := by
    intro w hw
    have : w ∈ gT := by
      simp only [List.mem_cons] at hw
      rcases hw with rfl | hw <;> assumption
    exact gT_self w this
  have hpre : PreS s H (va_Pc [.ref (a0 + q)] (Wsc a0 (q + 1) cy D E)) (.ref (a0 + q) :: []) := ⟨Wsc_pre, fun U hU hWm => ⟨rfl, by rw [hU]; exact hP, va_K.moved hWm.alike hK, nT_warm hWm hnw, hao.moved hWm.alike⟩⟩
  rcases w1 with w1 | ⟨host, w1⟩
  · exact pw_run (va_runI (As := []) (rest := rest) ⟨hx, hb, hml, hown, hts⟩ (hC l cy D E hE) (cwI 0 hts hG rfl rfl rfl (hts _ w3) (hts _ w1) (hts _ w2) w5 ⟨w6, w7, w8⟩ ⟨hf, by show 8 + (nL2 + 11) + (40 * dp2 + 13) ≤ R.locals; omega⟩) hpre rfl rfl hls rfl (lv_room hrest) hd ⟨hc, hsl⟩) hS kk
  · exact pw_run (va_runIN (As := []) (rest := rest) ⟨hx, hb, hml, hown, hts⟩ (hC l cy D E hE) ⟨va_cnB (ret := none) 0 hts hG rfl rfl rfl (hnw _ w1) (hts _ w3) ⟨w6, w7, w8⟩ ⟨hf, by show 8 + (nL2 + 11) + (40 * dp2 + 13) ≤ R.locals; omega⟩, w5, hts _ w2⟩ hpre rfl rfl hls rfl (lv_room hrest) hd ⟨hc, hsl⟩) hS kk
end PWROWS
theorem oi2 : Cond.instanceMethod Lib.objectInit ∈ gT := gT_of 19 (by decide +kernel) (by decide +kernel)
theorem oi3 : Cond.code Lib.objectInit ⟨#[0xb1]⟩ 1 none ∈ gT := gT_of 20 (by decide +kernel) (by decide +kernel)
theorem ac_int : Cond.arrayClass .int ∈ gT := gT_of 43 (by decide +kernel) (by decide +kernel)
theorem ac_byte : Cond.arrayClass .byte ∈ gT := gT_of 752 (by decide +kernel) (by decide +kernel)
theorem ac_boolean : Cond.arrayClass .boolean ∈ gT := gT_of 185 (by decide +kernel) (by decide +kernel)
theorem Fz_I {a0 k n : Nat} {cy : Nat → ClassId} (h : kd k = 1000 + n) (hn : n < 1000) : Fz a0 cy k = .inl (cy 1, n, .inl (fun _ => 0)) := by
  unfold Fz
  rw [h, ent_I hn]
  have : gI μ0 k = fun _ => 0 := by funext j; simp [gI, μ0, h]; omega
  rw [this]
theorem Fz_Z {a0 k n : Nat} {cy : Nat → ClassId} (h : kd k = 2000 + n) (hn : n < 1000) : Fz a0 cy k = .inl (cy 2, n, .inl (fun _ => 0)) := by
  unfold Fz
  rw [h, ent_Z hn]
  have : gI μ0 k = fun _ => 0 := by funext j; simp [gI, μ0, h]; omega
  rw [this]
theorem Fz_B {a0 k n : Nat} {cy : Nat → ClassId} (h : kd k = 3000 + n) (hn : n < 1000) : Fz a0 cy k = .inl (cy 0, n, .inl (fun _ => 0)) := by
  unfold Fz
  rw [h, ent_B hn]
  have : gI μ0 k = fun _ => 0 := by funext j; simp [gI, μ0, h]; omega
  rw [this]
theorem Fz_O {a0 k ci : Nat} {cy : Nat → ClassId} {vs : List Value} (h : kd k = ci) (hc : ci < 1000) (hv : fl a0 μ0 k ci = vs) : Fz a0 cy k = .inr (ci, vs) := by
  unfold Fz
  rw [h, ent_ob hc, hv]
theorem fwX5_9 : Cond.fieldLink RX5 9 (TX5 0).1 (TX5 0).2.1 (TX5 0).2.2.1 ∈ gT := gT_of 33 (by decide +kernel) (by decide +kernel)
theorem fwX5_15 : Cond.fieldLink RX5 15 (TX5 1).1 (TX5 1).2.1 (TX5 1).2.2.1 ∈ gT := gT_of 35 (by decide +kernel) (by decide +kernel)
theorem kz_5_1 {q : Nat} (h : kd q = 5) : kd (q + 1) = 1150 := kd_next (by decide +kernel) (by decide) h
theorem fwX3_9 : Cond.fieldLink RX3 9 (TX3 0).1 (TX3 0).2.1 (TX3 0).2.2.1 ∈ gT := gT_of 137 (by decide +kernel) (by decide +kernel)
theorem fwX3_15 : Cond.fieldLink RX3 15 (TX3 1).1 (TX3 1).2.1 (TX3 1).2.2.1 ∈ gT := gT_of 139 (by decide +kernel) (by decide +kernel)
theorem fwX3_18 : Cond.fieldLink RX3 18 (TX3 2).1 (TX3 2).2.1 (TX3 2).2.2.1 ∈ gT := gT_of 141 (by decide +kernel) (by decide +kernel)
theorem fwX3_21 : Cond.fieldLink RX3 21 (TX3 3).1 (TX3 3).2.1 (TX3 3).2.2.1 ∈ gT := gT_of 143 (by decide +kernel) (by decide +kernel)
theorem kz_3_1 {q : Nat} (h : kd q = 3) : kd (q + 1) = 1005 := kd_next (by decide +kernel) (by decide) h
theorem kz_3_2 {q : Nat} (h : kd q = 3) : kd (q + 2) = 1005 := kd_next (by decide +kernel) (by decide) h
theorem kz_3_3 {q : Nat} (h : kd q = 3) : kd (q + 3) = 1005 := kd_next (by decide +kernel) (by decide) h
theorem fwX1_9 : Cond.fieldLink RX1 9 (TX1 0).1 (TX1 0).2.1 (TX1 0).2.2.1 ∈ gT := gT_of 192 (by decide +kernel) (by decide +kernel)
theorem fwX1_15 : Cond.fieldLink RX1 15 (TX1 1).1 (TX1 1).2.1 (TX1 1).2.2.1 ∈ gT := gT_of 193 (by decide +kernel) (by decide +kernel)
theorem kz_1_1 {q : Nat} (h : kd q = 1) : kd (q + 1) = 1008 := kd_next (by decide +kernel) (by decide) h
theorem kz_1_2 {q : Nat} (h : kd q = 1) : kd (q + 2) = 1008 := kd_next (by decide +kernel) (by decide) h
theorem fwX2_9 : Cond.fieldLink RX2 9 (TX2 0).1 (TX2 0).2.1 (TX2 0).2.2.1 ∈ gT := gT_of 174 (by decide +kernel) (by decide +kernel)
theorem fwX2_15 : Cond.fieldLink RX2 15 (TX2 1).1 (TX2 1).2.1 (TX2 1).2.2.1 ∈ gT := gT_of 175 (by decide +kernel) (by decide +kernel)
theorem fwX2_18 : Cond.fieldLink RX2 18 (TX2 2).1 (TX2 2).2.1 (TX2 2).2.2.1 ∈ gT := gT_of 176 (by decide +kernel) (by decide +kernel)
theorem kz_2_1 {q : Nat} (h : kd q = 2) : kd (q + 1) = 1006 := kd_next (by decide +kernel) (by decide) h
theorem kz_2_2 {q : Nat} (h : kd q = 2) : kd (q + 2) = 1006 := kd_next (by decide +kernel) (by decide) h
theorem fwX6_9 : Cond.fieldLink RX6 9 (TX6 0).1 (TX6 0).2.1 (TX6 0).2.2.1 ∈ gT := gT_of 205 (by decide +kernel) (by decide +kernel)
theorem fwX6_15 : Cond.fieldLink RX6 15 (TX6 1).1 (TX6 1).2.1 (TX6 1).2.2.1 ∈ gT := gT_of 206 (by decide +kernel) (by decide +kernel)
theorem fwX6_18 : Cond.fieldLink RX6 18 (TX6 2).1 (TX6 2).2.1 (TX6 2).2.2.1 ∈ gT := gT_of 208 (by decide +kernel) (by decide +kernel)
theorem fwX6_21 : Cond.fieldLink RX6 21 (TX6 3).1 (TX6 3).2.1 (TX6 3).2.2.1 ∈ gT := gT_of 209 (by decide +kernel) (by decide +kernel)
theorem fwX6_25 : Cond.fieldLink RX6 25 (TX6 4).1 (TX6 4).2.1 (TX6 4).2.2.1 ∈ gT := gT_of 210 (by decide +kernel) (by decide +kernel)
theorem kz_6_1 {q : Nat} (h : kd q = 6) : kd (q + 1) = 1005 := kd_next (by decide +kernel) (by decide) h
theorem kz_6_2 {q : Nat} (h : kd q = 6) : kd (q + 2) = 1005 := kd_next (by decide +kernel) (by decide) h
theorem kz_6_3 {q : Nat} (h : kd q = 6) : kd (q + 3) = 1005 := kd_next (by decide +kernel) (by decide) h
theorem fwX7_9 : Cond.fieldLink RX7 9 (TX7 0).1 (TX7 0).2.1 (TX7 0).2.2.1 ∈ gT := gT_of 74 (by decide +kernel) (by decide +kernel)
theorem fwX7_15 : Cond.fieldLink RX7 15 (TX7 1).1 (TX7 1).2.1 (TX7 1).2.2.1 ∈ gT := gT_of 78 (by decide +kernel) (by decide +kernel)
theorem fwX7_18 : Cond.fieldLink RX7 18 (TX7 2).1 (TX7 2).2.1 (TX7 2).2.2.1 ∈ gT := gT_of 82 (by decide +kernel) (by decide +kernel)
theorem fwX7_22 : Cond.fieldLink RX7 22 (TX7 3).1 (TX7 3).2.1 (TX7 3).2.2.1 ∈ gT := gT_of 85 (by decide +kernel) (by decide +kernel)
theorem fwX7_25 : Cond.fieldLink RX7 25 (TX7 4).1 (TX7 4).2.1 (TX7 4).2.2.1 ∈ gT := gT_of 88 (by decide +kernel) (by decide +kernel)
theorem fwX7_28 : Cond.fieldLink RX7 28 (TX7 5).1 (TX7 5).2.1 (TX7 5).2.2.1 ∈ gT := gT_of 91 (by decide +kernel) (by decide +kernel)
theorem fwX7_31 : Cond.fieldLink RX7 31 (TX7 6).1 (TX7 6).2.1 (TX7 6).2.2.1 ∈ gT := gT_of 94 (by decide +kernel) (by decide +kernel)
theorem fwX7_34 : Cond.fieldLink RX7 34 (TX7 7).1 (TX7 7).2.1 (TX7 7).2.2.1 ∈ gT := gT_of 96 (by decide +kernel) (by decide +kernel)
theorem fwX7_37 : Cond.fieldLink RX7 37 (TX7 8).1 (TX7 8).2.1 (TX7 8).2.2.1 ∈ gT := gT_of 98 (by decide +kernel) (by decide +kernel)
theorem fwX7_40 : Cond.fieldLink RX7 40 (TX7 9).1 (TX7 9).2.1 (TX7 9).2.2.1 ∈ gT := gT_of 101 (by decide +kernel) (by decide +kernel)
theorem kz_7_1 {q : Nat} (h : kd q = 7) : kd (q + 1) = 1008 := kd_next (by decide +kernel) (by decide) h
theorem kz_7_2 {q : Nat} (h : kd q = 7) : kd (q + 2) = 1008 := kd_next (by decide +kernel) (by decide) h
theorem kz_7_3 {q : Nat} (h : kd q = 7) : kd (q + 3) = 1008 := kd_next (by decide +kernel) (by decide) h
theorem kz_7_4 {q : Nat} (h : kd q = 7) : kd (q + 4) = 1005 := kd_next (by decide +kernel) (by decide) h
theorem kz_7_5 {q : Nat} (h : kd q = 7) : kd (q + 5) = 1005 := kd_next (by decide +kernel) (by decide) h
theorem nwX4_9a : Cond.classLink RX4 9 RX5 ∈ gT := gT_of 27 (by decide +kernel) (by decide +kernel)
theorem in5b : Cond.instantiable RX5 2 ∈ gT := gT_of 28 (by decide +kernel) (by decide +kernel)
theorem in5c : Cond.initialized RX5 ∈ gT := gT_of 3 (by decide +kernel) (by decide +kernel)
theorem in5d : ∀ ty : Nat → FieldType, (∀ k, k < 2 → parseFieldDescriptor (TX5 k).2.2.1 = some (ty k)) → ∀ j, j < 2 → defaultValue (ty j) = vp_V [.null, .int 0] j := by
  intro ty h j hj
  have h2 := tyX5_ok j hj
  rw [h j hj] at h2
  rw [Option.some.inj h2]
  rcases (show j = 0 ∨ j = 1 by omega) with rfl | rfl <;> rfl
theorem ciwX4_11 : CIW RX4 11 yX5_init cX5_init 1 := ⟨Or.inr ⟨"ElbowRanks", nT_of 29 (by decide +kernel) (by decide +kernel)⟩, gT_of 30 (by decide +kernel) (by decide +kernel), gT_of 3 (by decide +kernel) (by decide +kernel), gT_of 31 (by decide +kernel) (by decide +kernel), ⟨by decide +kernel, by decide +kernel, by decide +kernel, by decide +kernel⟩⟩
theorem kz_4_1 {q : Nat} (h : kd q = 4) : kd (q + 1) = 5 := kd_next (by decide +kernel) (by decide) h
theorem fwX4_12 : Cond.fieldLink RX4 12 (TX4 0).1 (TX4 0).2.1 (TX4 0).2.2.1 ∈ gT := gT_of 44 (by decide +kernel) (by decide +kernel)
theorem fwX4_18 : Cond.fieldLink RX4 18 (TX4 1).1 (TX4 1).2.1 (TX4 1).2.2.1 ∈ gT := gT_of 46 (by decide +kernel) (by decide +kernel)
theorem fwX4_22 : Cond.fieldLink RX4 22 (TX4 2).1 (TX4 2).2.1 (TX4 2).2.2.1 ∈ gT := gT_of 47 (by decide +kernel) (by decide +kernel)
theorem fwX4_25 : Cond.fieldLink RX4 25 (TX4 3).1 (TX4 3).2.1 (TX4 3).2.2.1 ∈ gT := gT_of 49 (by decide +kernel) (by decide +kernel)
theorem fwX4_28 : Cond.fieldLink RX4 28 (TX4 4).1 (TX4 4).2.1 (TX4 4).2.2.1 ∈ gT := gT_of 50 (by decide +kernel) (by decide +kernel)
theorem fwX4_31 : Cond.fieldLink RX4 31 (TX4 5).1 (TX4 5).2.1 (TX4 5).2.2.1 ∈ gT := gT_of 51 (by decide +kernel) (by decide +kernel)
theorem fwX4_35 : Cond.fieldLink RX4 35 (TX4 6).1 (TX4 6).2.1 (TX4 6).2.2.1 ∈ gT := gT_of 52 (by decide +kernel) (by decide +kernel)
theorem kz_0_1 {q : Nat} (h : kd q = 0) : kd (q + 1) = 3 := kd_next (by decide +kernel) (by decide) h
theorem kz_0_5 {q : Nat} (h : kd q = 0) : kd (q + 5) = 5010 := kd_next (by decide +kernel) (by decide) h
theorem fwX0_18 : Cond.fieldLink RX0 18 (TX0 1).1 (TX0 1).2.1 (TX0 1).2.2.1 ∈ gT := gT_of 157 (by decide +kernel) (by decide +kernel)
theorem nwX0_9a : Cond.classLink RX0 9 RX3 ∈ gT := gT_of 131 (by decide +kernel) (by decide +kernel)
theorem in3b : Cond.instantiable RX3 4 ∈ gT := gT_of 132 (by decide +kernel) (by decide +kernel)
theorem in3c : Cond.initialized RX3 ∈ gT := gT_of 6 (by decide +kernel) (by decide +kernel)
theorem in3d : ∀ ty : Nat → FieldType, (∀ k, k < 4 → parseFieldDescriptor (TX3 k).2.2.1 = some (ty k)) → ∀ j, j < 4 → defaultValue (ty j) = vp_V [.null, .null, .null, .int 0] j := by
  intro ty h j hj
  have h2 := tyX3_ok j hj
  rw [h j hj] at h2
  rw [Option.some.inj h2]
  rcases (show j = 0 ∨ j = 1 ∨ j = 2 ∨ j = 3 by omega) with rfl | rfl | rfl | rfl <;> rfl
theorem ciwX0_11 : CIW RX0 11 yX3_init cX3_init 1 := ⟨Or.inr ⟨"ElbowRanks", nT_of 133 (by decide +kernel) (by decide +kernel)⟩, gT_of 134 (by decide +kernel) (by decide +kernel), gT_of 6 (by decide +kernel) (by decide +kernel), gT_of 135 (by decide +kernel) (by decide +kernel), ⟨by decide +kernel, by decide +kernel, by decide +kernel, by decide +kernel⟩⟩
theorem fwX0_12 : Cond.fieldLink RX0 12 (TX0 0).1 (TX0 0).2.1 (TX0 0).2.2.1 ∈ gT := gT_of 155 (by decide +kernel) (by decide +kernel)
theorem fwX0_22 : Cond.fieldLink RX0 22 (TX0 2).1 (TX0 2).2.1 (TX0 2).2.2.1 ∈ gT := gT_of 158 (by decide +kernel) (by decide +kernel)
theorem nwX8_7a : Cond.classLink RX8 7 RX4 ∈ gT := gT_of 21 (by decide +kernel) (by decide +kernel)
theorem in4b : Cond.instantiable RX4 7 ∈ gT := gT_of 22 (by decide +kernel) (by decide +kernel)
theorem in4c : Cond.initialized RX4 ∈ gT := gT_of 2 (by decide +kernel) (by decide +kernel)
theorem in4d : ∀ ty : Nat → FieldType, (∀ k, k < 7 → parseFieldDescriptor (TX4 k).2.2.1 = some (ty k)) → ∀ j, j < 7 → defaultValue (ty j) = vp_V [.null, .int 0, .int 0, .int 0, .int 0, .int 0, .int 0] j := by
  intro ty h j hj
  have h2 := tyX4_ok j hj
  rw [h j hj] at h2
  rw [Option.some.inj h2]
  rcases (show j = 0 ∨ j = 1 ∨ j = 2 ∨ j = 3 ∨ j = 4 ∨ j = 5 ∨ j = 6 by omega) with rfl | rfl | rfl | rfl | rfl | rfl | rfl <;> rfl
theorem ciwX8_9 : CIW RX8 9 yX4_init cX4_init 1 := ⟨Or.inr ⟨"ElbowRanks", nT_of 23 (by decide +kernel) (by decide +kernel)⟩, gT_of 24 (by decide +kernel) (by decide +kernel), gT_of 2 (by decide +kernel) (by decide +kernel), gT_of 25 (by decide +kernel) (by decide +kernel), ⟨by decide +kernel, by decide +kernel, by decide +kernel, by decide +kernel⟩⟩
theorem kz_8_1 {q : Nat} (h : kd q = 8) : kd (q + 1) = 4 := kd_next (by decide +kernel) (by decide) h
theorem fwX8_10 : Cond.fieldLink RX8 10 (TX8 0).1 (TX8 0).2.1 (TX8 0).2.2.1 ∈ gT := gT_of 222 (by decide +kernel) (by decide +kernel)
theorem nwX8_16a : Cond.classLink RX8 16 RX7 ∈ gT := gT_of 68 (by decide +kernel) (by decide +kernel)
theorem in7b : Cond.instantiable RX7 10 ∈ gT := gT_of 69 (by decide +kernel) (by decide +kernel)
theorem in7c : Cond.initialized RX7 ∈ gT := gT_of 4 (by decide +kernel) (by decide +kernel)
theorem in7d : ∀ ty : Nat → FieldType, (∀ k, k < 10 → parseFieldDescriptor (TX7 k).2.2.1 = some (ty k)) → ∀ j, j < 10 → defaultValue (ty j) = vp_V [.int 0, .int 0, .null, .null, .null, .int 0, .null, .null, .int 0, .int 0] j := by
  intro ty h j hj
  have h2 := tyX7_ok j hj
  rw [h j hj] at h2
  rw [Option.some.inj h2]
  rcases (show j = 0 ∨ j = 1 ∨ j = 2 ∨ j = 3 ∨ j = 4 ∨ j = 5 ∨ j = 6 ∨ j = 7 ∨ j = 8 ∨ j = 9 by omega) with rfl | rfl | rfl | rfl | rfl | rfl | rfl | rfl | rfl | rfl <;> rfl
theorem ciwX8_18 : CIW RX8 18 yX7_init cX7_init 1 := ⟨Or.inr ⟨"ElbowRanks", nT_of 70 (by decide +kernel) (by decide +kernel)⟩, gT_of 71 (by decide +kernel) (by decide +kernel), gT_of 4 (by decide +kernel) (by decide +kernel), gT_of 72 (by decide +kernel) (by decide +kernel), ⟨by decide +kernel, by decide +kernel, by decide +kernel, by decide +kernel⟩⟩
theorem kz_8_4 {q : Nat} (h : kd q = 8) : kd (q + 4) = 7 := kd_next (by decide +kernel) (by decide) h
theorem fwX8_19 : Cond.fieldLink RX8 19 (TX8 1).1 (TX8 1).2.1 (TX8 1).2.2.1 ∈ gT := gT_of 223 (by decide +kernel) (by decide +kernel)
theorem kz_8_10 {q : Nat} (h : kd q = 8) : kd (q + 10) = 7 := kd_next (by decide +kernel) (by decide) h
theorem fwX8_23 : Cond.fieldLink RX8 23 (TX8 2).1 (TX8 2).2.1 (TX8 2).2.2.1 ∈ gT := gT_of 224 (by decide +kernel) (by decide +kernel)
theorem nwX8_26a : Cond.classLink RX8 26 RX0 ∈ gT := gT_of 125 (by decide +kernel) (by decide +kernel)
theorem in0b : Cond.instantiable RX0 3 ∈ gT := gT_of 126 (by decide +kernel) (by decide +kernel)
theorem in0c : Cond.initialized RX0 ∈ gT := gT_of 5 (by decide +kernel) (by decide +kernel)
theorem in0d : ∀ ty : Nat → FieldType, (∀ k, k < 3 → parseFieldDescriptor (TX0 k).2.2.1 = some (ty k)) → ∀ j, j < 3 → defaultValue (ty j) = vp_V [.null, .null, .int 0] j := by
  intro ty h j hj
  have h2 := tyX0_ok j hj
  rw [h j hj] at h2
  rw [Option.some.inj h2]
  rcases (show j = 0 ∨ j = 1 ∨ j = 2 by omega) with rfl | rfl | rfl <;> rfl
theorem ciwX8_28 : CIW RX8 28 yX0_init cX0_init 2 := ⟨Or.inl (gT_of 127 (by decide +kernel) (by decide +kernel)), gT_of 128 (by decide +kernel) (by decide +kernel), gT_of 5 (by decide +kernel) (by decide +kernel), gT_of 129 (by decide +kernel) (by decide +kernel), ⟨by decide +kernel, by decide +kernel, by decide +kernel, by decide +kernel⟩⟩
theorem kz_8_16 {q : Nat} (h : kd q = 8) : kd (q + 16) = 0 := kd_next (by decide +kernel) (by decide) h
theorem fwX8_29 : Cond.fieldLink RX8 29 (TX8 3).1 (TX8 3).2.1 (TX8 3).2.2.1 ∈ gT := gT_of 225 (by decide +kernel) (by decide +kernel)
theorem fwX8_33 : Cond.fieldLink RX8 33 (TX8 4).1 (TX8 4).2.1 (TX8 4).2.2.1 ∈ gT := gT_of 226 (by decide +kernel) (by decide +kernel)
theorem fwX8_37 : Cond.fieldLink RX8 37 (TX8 5).1 (TX8 5).2.1 (TX8 5).2.2.1 ∈ gT := gT_of 227 (by decide +kernel) (by decide +kernel)
theorem nwX8_41a : Cond.classLink RX8 41 RX2 ∈ gT := gT_of 168 (by decide +kernel) (by decide +kernel)
theorem in2b : Cond.instantiable RX2 3 ∈ gT := gT_of 169 (by decide +kernel) (by decide +kernel)
theorem in2c : Cond.initialized RX2 ∈ gT := gT_of 7 (by decide +kernel) (by decide +kernel)
theorem in2d : ∀ ty : Nat → FieldType, (∀ k, k < 3 → parseFieldDescriptor (TX2 k).2.2.1 = some (ty k)) → ∀ j, j < 3 → defaultValue (ty j) = vp_V [.null, .null, .int 0] j := by
  intro ty h j hj
  have h2 := tyX2_ok j hj
  rw [h j hj] at h2
  rw [Option.some.inj h2]
  rcases (show j = 0 ∨ j = 1 ∨ j = 2 by omega) with rfl | rfl | rfl <;> rfl
theorem ciwX8_43 : CIW RX8 43 yX2_init cX2_init 1 := ⟨Or.inr ⟨"ElbowRanks", nT_of 170 (by decide +kernel) (by decide +kernel)⟩, gT_of 171 (by decide +kernel) (by decide +kernel), gT_of 7 (by decide +kernel) (by decide +kernel), gT_of 172 (by decide +kernel) (by decide +kernel), ⟨by decide +kernel, by decide +kernel, by decide +kernel, by decide +kernel⟩⟩
theorem kz_8_64 {q : Nat} (h : kd q = 8) : kd (q + 64) = 2 := kd_next (by decide +kernel) (by decide) h
theorem fwX8_44 : Cond.fieldLink RX8 44 (TX8 6).1 (TX8 6).2.1 (TX8 6).2.2.1 ∈ gT := gT_of 228 (by decide +kernel) (by decide +kernel)
theorem nwX8_48a : Cond.classLink RX8 48 RX1 ∈ gT := gT_of 186 (by decide +kernel) (by decide +kernel)
theorem in1b : Cond.instantiable RX1 2 ∈ gT := gT_of 187 (by decide +kernel) (by decide +kernel)
theorem in1c : Cond.initialized RX1 ∈ gT := gT_of 8 (by decide +kernel) (by decide +kernel)
theorem in1d : ∀ ty : Nat → FieldType, (∀ k, k < 2 → parseFieldDescriptor (TX1 k).2.2.1 = some (ty k)) → ∀ j, j < 2 → defaultValue (ty j) = vp_V [.null, .null] j := by
  intro ty h j hj
  have h2 := tyX1_ok j hj
  rw [h j hj] at h2
  rw [Option.some.inj h2]
  rcases (show j = 0 ∨ j = 1 by omega) with rfl | rfl <;> rfl
theorem ciwX8_50 : CIW RX8 50 yX1_init cX1_init 1 := ⟨Or.inr ⟨"ElbowRanks", nT_of 188 (by decide +kernel) (by decide +kernel)⟩, gT_of 189 (by decide +kernel) (by decide +kernel), gT_of 8 (by decide +kernel) (by decide +kernel), gT_of 190 (by decide +kernel) (by decide +kernel), ⟨by decide +kernel, by decide +kernel, by decide +kernel, by decide +kernel⟩⟩
theorem kz_8_67 {q : Nat} (h : kd q = 8) : kd (q + 67) = 1 := kd_next (by decide +kernel) (by decide) h
theorem fwX8_51 : Cond.fieldLink RX8 51 (TX8 7).1 (TX8 7).2.1 (TX8 7).2.2.1 ∈ gT := gT_of 229 (by decide +kernel) (by decide +kernel)
theorem nwX8_55a : Cond.classLink RX8 55 RX6 ∈ gT := gT_of 199 (by decide +kernel) (by decide +kernel)
theorem in6b : Cond.instantiable RX6 5 ∈ gT := gT_of 200 (by decide +kernel) (by decide +kernel)
theorem in6c : Cond.initialized RX6 ∈ gT := gT_of 9 (by decide +kernel) (by decide +kernel)
theorem in6d : ∀ ty : Nat → FieldType, (∀ k, k < 5 → parseFieldDescriptor (TX6 k).2.2.1 = some (ty k)) → ∀ j, j < 5 → defaultValue (ty j) = vp_V [.null, .null, .null, .int 0, .int 0] j := by
  intro ty h j hj
  have h2 := tyX6_ok j hj
  rw [h j hj] at h2
  rw [Option.some.inj h2]
  rcases (show j = 0 ∨ j = 1 ∨ j = 2 ∨ j = 3 ∨ j = 4 by omega) with rfl | rfl | rfl | rfl | rfl <;> rfl
theorem ciwX8_57 : CIW RX8 57 yX6_init cX6_init 1 := ⟨Or.inr ⟨"ElbowRanks", nT_of 201 (by decide +kernel) (by decide +kernel)⟩, gT_of 202 (by decide +kernel) (by decide +kernel), gT_of 9 (by decide +kernel) (by decide +kernel), gT_of 203 (by decide +kernel) (by decide +kernel), ⟨by decide +kernel, by decide +kernel, by decide +kernel, by decide +kernel⟩⟩
theorem kz_8_70 {q : Nat} (h : kd q = 8) : kd (q + 70) = 6 := kd_next (by decide +kernel) (by decide) h
theorem fwX8_58 : Cond.fieldLink RX8 58 (TX8 8).1 (TX8 8).2.1 (TX8 8).2.2.1 ∈ gT := gT_of 230 (by decide +kernel) (by decide +kernel)
theorem fwX8_62 : Cond.fieldLink RX8 62 (TX8 9).1 (TX8 9).2.1 (TX8 9).2.2.1 ∈ gT := gT_of 231 (by decide +kernel) (by decide +kernel)
theorem kz_8_62 {q : Nat} (h : kd q = 8) : kd (q + 62) = 4002 := kd_next (by decide +kernel) (by decide) h
theorem kz_8_63 {q : Nat} (h : kd q = 8) : kd (q + 63) = 2002 := kd_next (by decide +kernel) (by decide) h
theorem fwX9_7 : Cond.fieldLink RX9 7 (TX9 1).1 (TX9 1).2.1 (TX9 1).2.2.1 ∈ gT := gT_of 671 (by decide +kernel) (by decide +kernel)
theorem fwX9_13 : Cond.fieldLink RX9 13 (TX9 3).1 (TX9 3).2.1 (TX9 3).2.2.1 ∈ gT := gT_of 673 (by decide +kernel) (by decide +kernel)
theorem fwX9_17 : Cond.fieldLink RX9 17 (TX9 4).1 (TX9 4).2.1 (TX9 4).2.2.1 ∈ gT := gT_of 674 (by decide +kernel) (by decide +kernel)
theorem fwX9_20 : Cond.fieldLink RX9 20 (TX9 5).1 (TX9 5).2.1 (TX9 5).2.2.1 ∈ gT := gT_of 675 (by decide +kernel) (by decide +kernel)
theorem fwX9_23 : Cond.fieldLink RX9 23 (TX9 6).1 (TX9 6).2.1 (TX9 6).2.2.1 ∈ gT := gT_of 676 (by decide +kernel) (by decide +kernel)
theorem fwX9_26 : Cond.fieldLink RX9 26 (TX9 7).1 (TX9 7).2.1 (TX9 7).2.2.1 ∈ gT := gT_of 677 (by decide +kernel) (by decide +kernel)
theorem fwX9_29 : Cond.fieldLink RX9 29 (TX9 8).1 (TX9 8).2.1 (TX9 8).2.2.1 ∈ gT := gT_of 678 (by decide +kernel) (by decide +kernel)
theorem fwX9_32 : Cond.fieldLink RX9 32 (TX9 9).1 (TX9 9).2.1 (TX9 9).2.2.1 ∈ gT := gT_of 679 (by decide +kernel) (by decide +kernel)
theorem fwX9_35 : Cond.fieldLink RX9 35 (TX9 10).1 (TX9 10).2.1 (TX9 10).2.2.1 ∈ gT := gT_of 680 (by decide +kernel) (by decide +kernel)
theorem fwX9_38 : Cond.fieldLink RX9 38 (TX9 11).1 (TX9 11).2.1 (TX9 11).2.2.1 ∈ gT := gT_of 681 (by decide +kernel) (by decide +kernel)
theorem fwX9_41 : Cond.fieldLink RX9 41 (TX9 12).1 (TX9 12).2.1 (TX9 12).2.2.1 ∈ gT := gT_of 682 (by decide +kernel) (by decide +kernel)
theorem fwX9_44 : Cond.fieldLink RX9 44 (TX9 19).1 (TX9 19).2.1 (TX9 19).2.2.1 ∈ gT := gT_of 689 (by decide +kernel) (by decide +kernel)
theorem fwX9_47 : Cond.fieldLink RX9 47 (TX9 20).1 (TX9 20).2.1 (TX9 20).2.2.1 ∈ gT := gT_of 690 (by decide +kernel) (by decide +kernel)
theorem fwX9_51 : Cond.fieldLink RX9 51 (TX9 21).1 (TX9 21).2.1 (TX9 21).2.2.1 ∈ gT := gT_of 691 (by decide +kernel) (by decide +kernel)
theorem fwX9_54 : Cond.fieldLink RX9 54 (TX9 22).1 (TX9 22).2.1 (TX9 22).2.2.1 ∈ gT := gT_of 692 (by decide +kernel) (by decide +kernel)
theorem fwX9_57 : Cond.fieldLink RX9 57 (TX9 23).1 (TX9 23).2.1 (TX9 23).2.2.1 ∈ gT := gT_of 693 (by decide +kernel) (by decide +kernel)
theorem fwX9_60 : Cond.fieldLink RX9 60 (TX9 24).1 (TX9 24).2.1 (TX9 24).2.2.1 ∈ gT := gT_of 694 (by decide +kernel) (by decide +kernel)
theorem fwX9_63 : Cond.fieldLink RX9 63 (TX9 25).1 (TX9 25).2.1 (TX9 25).2.2.1 ∈ gT := gT_of 695 (by decide +kernel) (by decide +kernel)
theorem nwL_7a : Cond.classLink RL 7 RX8 ∈ gT := gT_of 13 (by decide +kernel) (by decide +kernel)
theorem in8b : Cond.instantiable RX8 10 ∈ gT := gT_of 14 (by decide +kernel) (by decide +kernel)
theorem in8c : Cond.initialized RX8 ∈ gT := gT_of 1 (by decide +kernel) (by decide +kernel)
theorem in8d : ∀ ty : Nat → FieldType, (∀ k, k < 10 → parseFieldDescriptor (TX8 k).2.2.1 = some (ty k)) → ∀ j, j < 10 → defaultValue (ty j) = vp_V [.null, .null, .null, .null, .null, .null, .null, .null, .null, .long 0] j := by
  intro ty h j hj
  have h2 := tyX8_ok j hj
  rw [h j hj] at h2
  rw [Option.some.inj h2]
  rcases (show j = 0 ∨ j = 1 ∨ j = 2 ∨ j = 3 ∨ j = 4 ∨ j = 5 ∨ j = 6 ∨ j = 7 ∨ j = 8 ∨ j = 9 by omega) with rfl | rfl | rfl | rfl | rfl | rfl | rfl | rfl | rfl | rfl <;> rfl
theorem nwL_10a : Cond.classLink RL 10 RX9 ∈ gT := gT_of 656 (by decide +kernel) (by decide +kernel)
theorem in9b : Cond.instantiable RX9 27 ∈ gT := gT_of 657 (by decide +kernel) (by decide +kernel)
theorem in9c : Cond.initialized RX9 ∈ gT := gT_of 10 (by decide +kernel) (by decide +kernel)
theorem in9d : ∀ ty : Nat → FieldType, (∀ k, k < 27 → parseFieldDescriptor (TX9 k).2.2.1 = some (ty k)) → ∀ j, j < 27 → defaultValue (ty j) = vp_V [.long 0, .null, .int 0, .null, .null, .null, .null, .null, .null, .null, .null, .null, .null, .int 0, .int 0, .int 0, .int 0, .int 0, .int 0, .null, .null, .null, .null, .null, .null, .null, .int 0] j := by
  intro ty h j hj
  have h2 := tyX9_ok j hj
  rw [h j hj] at h2
  rw [Option.some.inj h2]
  rcases (show j = 0 ∨ j = 1 ∨ j = 2 ∨ j = 3 ∨ j = 4 ∨ j = 5 ∨ j = 6 ∨ j = 7 ∨ j = 8 ∨ j = 9 ∨ j = 10 ∨ j = 11 ∨ j = 12 ∨ j = 13 ∨ j = 14 ∨ j = 15 ∨ j = 16 ∨ j = 17 ∨ j = 18 ∨ j = 19 ∨ j = 20 ∨ j = 21 ∨ j = 22 ∨ j = 23 ∨ j = 24 ∨ j = 25 ∨ j = 26 by omega) with rfl | rfl | rfl | rfl | rfl | rfl | rfl | rfl | rfl | rfl | rfl | rfl | rfl | rfl | rfl | rfl | rfl | rfl | rfl | rfl | rfl | rfl | rfl | rfl | rfl | rfl | rfl <;> rfl
theorem ciwL_9 : CIW RL 9 yX8_init cX8_init 2 := ⟨Or.inl (gT_of 15 (by decide +kernel) (by decide +kernel)), gT_of 16 (by decide +kernel) (by decide +kernel), gT_of 1 (by decide +kernel) (by decide +kernel), gT_of 17 (by decide +kernel) (by decide +kernel), ⟨by decide +kernel, by decide +kernel, by decide +kernel, by decide +kernel⟩⟩
theorem ciwL_12 : CIW RL 12 yX9_init cX9_init 1 := ⟨Or.inl (gT_of 658 (by decide +kernel) (by decide +kernel)), gT_of 659 (by decide +kernel) (by decide +kernel), gT_of 10 (by decide +kernel) (by decide +kernel), gT_of 660 (by decide +kernel) (by decide +kernel), ⟨by decide +kernel, by decide +kernel, by decide +kernel, by decide +kernel⟩⟩
set_option maxRecDepth 100000 in
set_option maxHeartbeats 4000000 in
theorem c_X5_init (a0 q : Nat) (hk : kd q = 5) : Cc a0 q yX5_init cX5_init 1 1 1 150 5 [.null, .int 0] := by
  intro l cy D E hE
  refine Met.ofW (cc := cX5_init) (maxL := 1) (ret := none) (by decide +kernel) rfl ?_
  intro p e s m args below meth c s₁ B hml hv
  obtain ⟨rfl, hP, hK, hnw, hao⟩ := hv
  have hts0 := atoms_spec (ws := .code yX5_init cX5_init 1 none :: gT) B.pre
  have hts : ∀ w ∈ gT, w.before _ s = true := fun w h => hts0 w (List.mem_cons_of_mem _ h)
  have hx := B.exec
  have hb := B.bytes
  have hr := B.returns
  have hlocks := B.notSynchronized
  have hown : s.vm.findClass RX5 = some m.cls := findClass_of_methodNamed B.named
  have hin : meth.name = "<init>" := (name_of_methodNamed B.named B.method).1
  have hS : va_S (fun q => a0 ≤ q) s.heap s.heap [] := va_S.rf
  have hl := lv_entry ([.ref (a0 + q)]) (n := 1) (Nat.le_of_ble_eq_true rfl)
  rw [lg_entry_eq]
  generalize (lg_sl ([.ref (a0 + q)]) ++ List.replicate (1 - (lg_sl ([.ref (a0 + q)])).length) Slot.unset).toArray = ls at hl ⊢
  have hl : lv_has ls 1 [(0, .ref (a0 + q))] := hl
  refine lv_aload_n hx hb dX5_init_0 rfl (lv_at hl 0 rfl) ?_
  refine pw_objInit hx hb (hml.trans hl.1.symm) hown hts (gT_of 32 (by decide +kernel) (by decide +kernel)) oi2 oi3 (Nat.le_of_ble_eq_true rfl) (Nat.le_of_ble_eq_true rfl) dX5_init_1 ?_
  refine lv_aload_n hx hb dX5_init_4 rfl (lv_at hl 0 rfl) ?_
  refine lv_sipush (v := 150) hx hb dX5_init_5 (by decide) ?_
  refine pw_newa hx hb hts hK (ty := .int) rfl rfl (fun cA h => h) 1 rfl ac_int 150 (by decide) (by decide) (by decide) hP hS (Nat.le_of_ble_eq_true rfl) (Nat.le_of_ble_eq_true rfl) dX5_init_8 (fun H E1 hP hN1 hO1 hS => ?_)
  have hP : PW a0 (q + 2) D E1 H := hP
  have hq1 : E1 (q) = .inr (5, [.null, .int 0]) := (hO1 _ (by omega)).trans hE
  refine pw_putF (k := 0) (q := q) (ty := (.array .int)) (v := .ref (a0 + (q + 1))) hx hb hown hts hK (ci := 5) (C := RX5) (T := TX5) (N := 2) rfl (by decide) rfl hin rfl fwX5_9 hq1 (by omega) (by decide +kernel) rfl rfl (Nat.le_of_ble_eq_true rfl) hP hS dX5_init_10 (fun H E2 locs hP hN2 hO2 hS => ?_)
  have hq2 : E2 (q) = .inr (5, [.ref (a0 + (q + 1)), .int 0]) := hN2
  refine lv_aload_n hx hb dX5_init_13 rfl (lv_at hl 0 rfl) ?_
  refine lv_iconst (v := 0) hx hb dX5_init_14 (by decide) ?_
  refine pw_put (k := 1) (q := q) (ty := .int) (v := .int 0) hx hb hown hts hK (ci := 5) (C := RX5) (T := TX5) (N := 2) rfl (by decide) rfl fwX5_15 hq2 (by omega) (by decide +kernel) rfl rfl (Nat.le_of_ble_eq_true rfl) hP hS dX5_init_15 (fun H E3 locs hP hN3 hO3 hS => ?_)
  have hq3 : E3 (q) = .inr (5, [.ref (a0 + (q + 1)), .int 0]) := hN3
  refine W.vret hx hb hr (fun t ht _ => ⟨⟨rfl, E3, by rw [ht]; exact hP, fun k hk1 => by rw [hO3 _ (by omega), hO2 _ (by omega), hO1 _ (by omega)], fun k hk1 hk2 => ?_⟩, hS.F ht⟩) hS.2.2 dX5_init_18 hlocks
  rcases (show k = q ∨ k = q + 1 by omega) with h | h
  · subst h; rw [hq3]; exact (Fz_O hk (by decide) (by simp [fl, gI, gR, gL, μ0, hk])).symm
  · subst h; exact (by rw [hO3 _ (by omega), hO2 _ (by omega), hN1]; exact (Fz_I (n := 150) (kz_5_1 hk) (by decide)).symm)

set_option maxRecDepth 100000 in
set_option maxHeartbeats 4000000 in
theorem c_X3_init (a0 q : Nat) (hk : kd q = 3) : Cc a0 q yX3_init cX3_init 1 1 3 15 3 [.null, .null, .null, .int 0] := by
  intro l cy D E hE
  refine Met.ofW (cc := cX3_init) (maxL := 1) (ret := none) (by decide +kernel) rfl ?_
  intro p e s m args below meth c s₁ B hml hv
  obtain ⟨rfl, hP, hK, hnw, hao⟩ := hv
  have hts0 := atoms_spec (ws := .code yX3_init cX3_init 1 none :: gT) B.pre
  have hts : ∀ w ∈ gT, w.before _ s = true := fun w h => hts0 w (List.mem_cons_of_mem _ h)
  have hx := B.exec
  have hb := B.bytes
  have hr := B.returns
  have hlocks := B.notSynchronized
  have hown : s.vm.findClass RX3 = some m.cls := findClass_of_methodNamed B.named
  have hin : meth.name = "<init>" := (name_of_methodNamed B.named B.method).1
  have hS : va_S (fun q => a0 ≤ q) s.heap s.heap [] := va_S.rf
  have hl := lv_entry ([.ref (a0 + q)]) (n := 1) (Nat.le_of_ble_eq_true rfl)
  rw [lg_entry_eq]
  generalize (lg_sl ([.ref (a0 + q)]) ++ List.replicate (1 - (lg_sl ([.ref (a0 + q)])).length) Slot.unset).toArray = ls at hl ⊢
  have hl : lv_has ls 1 [(0, .ref (a0 + q))] := hl
  refine lv_aload_n hx hb dX3_init_0 rfl (lv_at hl 0 rfl) ?_
  refine pw_objInit hx hb (hml.trans hl.1.symm) hown hts (gT_of 136 (by decide +kernel) (by decide +kernel)) oi2 oi3 (Nat.le_of_ble_eq_true rfl) (Nat.le_of_ble_eq_true rfl) dX3_init_1 ?_
  refine lv_aload_n hx hb dX3_init_4 rfl (lv_at hl 0 rfl) ?_
  refine lv_iconst (v := 5) hx hb dX3_init_5 (by decide) ?_
  refine pw_newa hx hb hts hK (ty := .int) rfl rfl (fun cA h => h) 1 rfl ac_int 5 (by decide) (by decide) (by decide) hP hS (Nat.le_of_ble_eq_true rfl) (Nat.le_of_ble_eq_true rfl) dX3_init_6 (fun H E1 hP hN1 hO1 hS => ?_)
  have hP : PW a0 (q + 2) D E1 H := hP
  have hq1 : E1 (q) = .inr (3, [.null, .null, .null, .int 0]) := (hO1 _ (by omega)).trans hE
  refine pw_putF (k := 0) (q := q) (ty := (.array .int)) (v := .ref (a0 + (q + 1))) hx hb hown hts hK (ci := 3) (C := RX3) (T := TX3) (N := 4) rfl (by decide) rfl hin rfl fwX3_9 hq1 (by omega) (by decide +kernel) rfl rfl (Nat.le_of_ble_eq_true rfl) hP hS dX3_init_8 (fun H E2 locs hP hN2 hO2 hS => ?_)
  have hq2 : E2 (q) = .inr (3, [.ref (a0 + (q + 1)), .null, .null, .int 0]) := hN2
  refine lv_aload_n hx hb dX3_init_11 rfl (lv_at hl 0 rfl) ?_
  refine lv_iconst (v := 5) hx hb dX3_init_12 (by decide) ?_
  refine pw_newa hx hb hts hK (ty := .int) rfl rfl (fun cA h => h) 1 rfl ac_int 5 (by decide) (by decide) (by decide) hP hS (Nat.le_of_ble_eq_true rfl) (Nat.le_of_ble_eq_true rfl) dX3_init_13 (fun H E3 hP hN3 hO3 hS => ?_)
  have hP : PW a0 (q + 3) D E3 H := hP
  have hq3 : E3 (q) = .inr (3, [.ref (a0 + (q + 1)), .null, .null, .int 0]) := (hO3 _ (by omega)).trans hq2
  refine pw_putF (k := 1) (q := q) (ty := (.array .int)) (v := .ref (a0 + (q + 2))) hx hb hown hts hK (ci := 3) (C := RX3) (T := TX3) (N := 4) rfl (by decide) rfl hin rfl fwX3_15 hq3 (by omega) (by decide +kernel) rfl rfl (Nat.le_of_ble_eq_true rfl) hP hS dX3_init_15 (fun H E4 locs hP hN4 hO4 hS => ?_)
  have hq4 : E4 (q) = .inr (3, [.ref (a0 + (q + 1)), .ref (a0 + (q + 2)), .null, .int 0]) := hN4
  refine lv_aload_n hx hb dX3_init_18 rfl (lv_at hl 0 rfl) ?_
  refine lv_iconst (v := 5) hx hb dX3_init_19 (by decide) ?_
  refine pw_newa hx hb hts hK (ty := .int) rfl rfl (fun cA h => h) 1 rfl ac_int 5 (by decide) (by decide) (by decide) hP hS (Nat.le_of_ble_eq_true rfl) (Nat.le_of_ble_eq_true rfl) dX3_init_20 (fun H E5 hP hN5 hO5 hS => ?_)
  have hP : PW a0 (q + 4) D E5 H := hP
  have hq5 : E5 (q) = .inr (3, [.ref (a0 + (q + 1)), .ref (a0 + (q + 2)), .null, .int 0]) := (hO5 _ (by omega)).trans hq4
  refine pw_putF (k := 2) (q := q) (ty := (.array .int)) (v := .ref (a0 + (q + 3))) hx hb hown hts hK (ci := 3) (C := RX3) (T := TX3) (N := 4) rfl (by decide) rfl hin rfl fwX3_18 hq5 (by omega) (by decide +kernel) rfl rfl (Nat.le_of_ble_eq_true rfl) hP hS dX3_init_22 (fun H E6 locs hP hN6 hO6 hS => ?_)
  have hq6 : E6 (q) = .inr (3, [.ref (a0 + (q + 1)), .ref (a0 + (q + 2)), .ref (a0 + (q + 3)), .int 0]) := hN6
  refine lv_aload_n hx hb dX3_init_25 rfl (lv_at hl 0 rfl) ?_
  refine lv_iconst (v := 0) hx hb dX3_init_26 (by decide) ?_
  refine pw_put (k := 3) (q := q) (ty := .int) (v := .int 0) hx hb hown hts hK (ci := 3) (C := RX3) (T := TX3) (N := 4) rfl (by decide) rfl fwX3_21 hq6 (by omega) (by decide +kernel) rfl rfl (Nat.le_of_ble_eq_true rfl) hP hS dX3_init_27 (fun H E7 locs hP hN7 hO7 hS => ?_)
  have hq7 : E7 (q) = .inr (3, [.ref (a0 + (q + 1)), .ref (a0 + (q + 2)), .ref (a0 + (q + 3)), .int 0]) := hN7
  refine W.vret hx hb hr (fun t ht _ => ⟨⟨rfl, E7, by rw [ht]; exact hP, fun k hk1 => by rw [hO7 _ (by omega), hO6 _ (by omega), hO5 _ (by omega), hO4 _ (by omega), hO3 _ (by omega), hO2 _ (by omega), hO1 _ (by omega)], fun k hk1 hk2 => ?_⟩, hS.F ht⟩) hS.2.2 dX3_init_30 hlocks
  rcases (show k = q ∨ k = q + 1 ∨ k = q + 2 ∨ k = q + 3 by omega) with h | h | h | h
  · subst h; rw [hq7]; exact (Fz_O hk (by decide) (by simp [fl, gI, gR, gL, μ0, hk])).symm
  · subst h; exact (by rw [hO7 _ (by omega), hO6 _ (by omega), hO5 _ (by omega), hO4 _ (by omega), hO3 _ (by omega), hO2 _ (by omega), hN1]; exact (Fz_I (n := 5) (kz_3_1 hk) (by decide)).symm)
  · subst h; exact (by rw [hO7 _ (by omega), hO6 _ (by omega), hO5 _ (by omega), hO4 _ (by omega), hN3]; exact (Fz_I (n := 5) (kz_3_2 hk) (by decide)).symm)
  · subst h; exact (by rw [hO7 _ (by omega), hO6 _ (by omega), hN5]; exact (Fz_I (n := 5) (kz_3_3 hk) (by decide)).symm)

set_option maxRecDepth 100000 in
set_option maxHeartbeats 4000000 in
theorem c_X1_init (a0 q : Nat) (hk : kd q = 1) : Cc a0 q yX1_init cX1_init 1 1 2 16 1 [.null, .null] := by
  intro l cy D E hE
  refine Met.ofW (cc := cX1_init) (maxL := 1) (ret := none) (by decide +kernel) rfl ?_
  intro p e s m args below meth c s₁ B hml hv
  obtain ⟨rfl, hP, hK, hnw, hao⟩ := hv
  have hts0 := atoms_spec (ws := .code yX1_init cX1_init 1 none :: gT) B.pre
  have hts : ∀ w ∈ gT, w.before _ s = true := fun w h => hts0 w (List.mem_cons_of_mem _ h)
  have hx := B.exec
  have hb := B.bytes
  have hr := B.returns
  have hlocks := B.notSynchronized
  have hown : s.vm.findClass RX1 = some m.cls := findClass_of_methodNamed B.named
  have hin : meth.name = "<init>" := (name_of_methodNamed B.named B.method).1
  have hS : va_S (fun q => a0 ≤ q) s.heap s.heap [] := va_S.rf
  have hl := lv_entry ([.ref (a0 + q)]) (n := 1) (Nat.le_of_ble_eq_true rfl)
  rw [lg_entry_eq]
  generalize (lg_sl ([.ref (a0 + q)]) ++ List.replicate (1 - (lg_sl ([.ref (a0 + q)])).length) Slot.unset).toArray = ls at hl ⊢
  have hl : lv_has ls 1 [(0, .ref (a0 + q))] := hl
  refine lv_aload_n hx hb dX1_init_0 rfl (lv_at hl 0 rfl) ?_
  refine pw_objInit hx hb (hml.trans hl.1.symm) hown hts (gT_of 191 (by decide +kernel) (by decide +kernel)) oi2 oi3 (Nat.le_of_ble_eq_true rfl) (Nat.le_of_ble_eq_true rfl) dX1_init_1 ?_
  refine lv_aload_n hx hb dX1_init_4 rfl (lv_at hl 0 rfl) ?_
  refine lv_bipush (v := 8) hx hb dX1_init_5 (by decide) ?_
  refine pw_newa hx hb hts hK (ty := .int) rfl rfl (fun cA h => h) 1 rfl ac_int 8 (by decide) (by decide) (by decide) hP hS (Nat.le_of_ble_eq_true rfl) (Nat.le_of_ble_eq_true rfl) dX1_init_7 (fun H E1 hP hN1 hO1 hS => ?_)
  have hP : PW a0 (q + 2) D E1 H := hP
  have hq1 : E1 (q) = .inr (1, [.null, .null]) := (hO1 _ (by omega)).trans hE
  refine pw_putF (k := 0) (q := q) (ty := (.array .int)) (v := .ref (a0 + (q + 1))) hx hb hown hts hK (ci := 1) (C := RX1) (T := TX1) (N := 2) rfl (by decide) rfl hin rfl fwX1_9 hq1 (by omega) (by decide +kernel) rfl rfl (Nat.le_of_ble_eq_true rfl) hP hS dX1_init_9 (fun H E2 locs hP hN2 hO2 hS => ?_)
  have hq2 : E2 (q) = .inr (1, [.ref (a0 + (q + 1)), .null]) := hN2
  refine lv_aload_n hx hb dX1_init_12 rfl (lv_at hl 0 rfl) ?_
  refine lv_bipush (v := 8) hx hb dX1_init_13 (by decide) ?_
  refine pw_newa hx hb hts hK (ty := .int) rfl rfl (fun cA h => h) 1 rfl ac_int 8 (by decide) (by decide) (by decide) hP hS (Nat.le_of_ble_eq_true rfl) (Nat.le_of_ble_eq_true rfl) dX1_init_15 (fun H E3 hP hN3 hO3 hS => ?_)
  have hP : PW a0 (q + 3) D E3 H := hP
  have hq3 : E3 (q) = .inr (1, [.ref (a0 + (q + 1)), .null]) := (hO3 _ (by omega)).trans hq2
  refine pw_putF (k := 1) (q := q) (ty := (.array .int)) (v := .ref (a0 + (q + 2))) hx hb hown hts hK (ci := 1) (C := RX1) (T := TX1) (N := 2) rfl (by decide) rfl hin rfl fwX1_15 hq3 (by omega) (by decide +kernel) rfl rfl (Nat.le_of_ble_eq_true rfl) hP hS dX1_init_17 (fun H E4 locs hP hN4 hO4 hS => ?_)
  have hq4 : E4 (q) = .inr (1, [.ref (a0 + (q + 1)), .ref (a0 + (q + 2))]) := hN4
  refine W.vret hx hb hr (fun t ht _ => ⟨⟨rfl, E4, by rw [ht]; exact hP, fun k hk1 => by rw [hO4 _ (by omega), hO3 _ (by omega), hO2 _ (by omega), hO1 _ (by omega)], fun k hk1 hk2 => ?_⟩, hS.F ht⟩) hS.2.2 dX1_init_20 hlocks
  rcases (show k = q ∨ k = q + 1 ∨ k = q + 2 by omega) with h | h | h
  · subst h; rw [hq4]; exact (Fz_O hk (by decide) (by simp [fl, gI, gR, gL, μ0, hk])).symm
  · subst h; exact (by rw [hO4 _ (by omega), hO3 _ (by omega), hO2 _ (by omega), hN1]; exact (Fz_I (n := 8) (kz_1_1 hk) (by decide)).symm)
  · subst h; exact (by rw [hO4 _ (by omega), hN3]; exact (Fz_I (n := 8) (kz_1_2 hk) (by decide)).symm)

set_option maxRecDepth 100000 in
set_option maxHeartbeats 4000000 in
theorem c_X2_init (a0 q : Nat) (hk : kd q = 2) : Cc a0 q yX2_init cX2_init 1 1 2 12 2 [.null, .null, .int 0] := by
  intro l cy D E hE
  refine Met.ofW (cc := cX2_init) (maxL := 1) (ret := none) (by decide +kernel) rfl ?_
  intro p e s m args below meth c s₁ B hml hv
  obtain ⟨rfl, hP, hK, hnw, hao⟩ := hv
  have hts0 := atoms_spec (ws := .code yX2_init cX2_init 1 none :: gT) B.pre
  have hts : ∀ w ∈ gT, w.before _ s = true := fun w h => hts0 w (List.mem_cons_of_mem _ h)
  have hx := B.exec
  have hb := B.bytes
  have hr := B.returns
  have hlocks := B.notSynchronized
  have hown : s.vm.findClass RX2 = some m.cls := findClass_of_methodNamed B.named
  have hin : meth.name = "<init>" := (name_of_methodNamed B.named B.method).1
  have hS : va_S (fun q => a0 ≤ q) s.heap s.heap [] := va_S.rf
  have hl := lv_entry ([.ref (a0 + q)]) (n := 1) (Nat.le_of_ble_eq_true rfl)
  rw [lg_entry_eq]
  generalize (lg_sl ([.ref (a0 + q)]) ++ List.replicate (1 - (lg_sl ([.ref (a0 + q)])).length) Slot.unset).toArray = ls at hl ⊢
  have hl : lv_has ls 1 [(0, .ref (a0 + q))] := hl
  refine lv_aload_n hx hb dX2_init_0 rfl (lv_at hl 0 rfl) ?_
  refine pw_objInit hx hb (hml.trans hl.1.symm) hown hts (gT_of 173 (by decide +kernel) (by decide +kernel)) oi2 oi3 (Nat.le_of_ble_eq_true rfl) (Nat.le_of_ble_eq_true rfl) dX2_init_1 ?_
  refine lv_aload_n hx hb dX2_init_4 rfl (lv_at hl 0 rfl) ?_
  refine lv_bipush (v := 6) hx hb dX2_init_5 (by decide) ?_
  refine pw_newa hx hb hts hK (ty := .int) rfl rfl (fun cA h => h) 1 rfl ac_int 6 (by decide) (by decide) (by decide) hP hS (Nat.le_of_ble_eq_true rfl) (Nat.le_of_ble_eq_true rfl) dX2_init_7 (fun H E1 hP hN1 hO1 hS => ?_)
  have hP : PW a0 (q + 2) D E1 H := hP
  have hq1 : E1 (q) = .inr (2, [.null, .null, .int 0]) := (hO1 _ (by omega)).trans hE
  refine pw_putF (k := 0) (q := q) (ty := (.array .int)) (v := .ref (a0 + (q + 1))) hx hb hown hts hK (ci := 2) (C := RX2) (T := TX2) (N := 3) rfl (by decide) rfl hin rfl fwX2_9 hq1 (by omega) (by decide +kernel) rfl rfl (Nat.le_of_ble_eq_true rfl) hP hS dX2_init_9 (fun H E2 locs hP hN2 hO2 hS => ?_)
  have hq2 : E2 (q) = .inr (2, [.ref (a0 + (q + 1)), .null, .int 0]) := hN2
  refine lv_aload_n hx hb dX2_init_12 rfl (lv_at hl 0 rfl) ?_
  refine lv_bipush (v := 6) hx hb dX2_init_13 (by decide) ?_
  refine pw_newa hx hb hts hK (ty := .int) rfl rfl (fun cA h => h) 1 rfl ac_int 6 (by decide) (by decide) (by decide) hP hS (Nat.le_of_ble_eq_true rfl) (Nat.le_of_ble_eq_true rfl) dX2_init_15 (fun H E3 hP hN3 hO3 hS => ?_)
  have hP : PW a0 (q + 3) D E3 H := hP
  have hq3 : E3 (q) = .inr (2, [.ref (a0 + (q + 1)), .null, .int 0]) := (hO3 _ (by omega)).trans hq2
  refine pw_putF (k := 1) (q := q) (ty := (.array .int)) (v := .ref (a0 + (q + 2))) hx hb hown hts hK (ci := 2) (C := RX2) (T := TX2) (N := 3) rfl (by decide) rfl hin rfl fwX2_15 hq3 (by omega) (by decide +kernel) rfl rfl (Nat.le_of_ble_eq_true rfl) hP hS dX2_init_17 (fun H E4 locs hP hN4 hO4 hS => ?_)
  have hq4 : E4 (q) = .inr (2, [.ref (a0 + (q + 1)), .ref (a0 + (q + 2)), .int 0]) := hN4
  refine lv_aload_n hx hb dX2_init_20 rfl (lv_at hl 0 rfl) ?_
  refine lv_iconst (v := 0) hx hb dX2_init_21 (by decide) ?_
  refine pw_put (k := 2) (q := q) (ty := .int) (v := .int 0) hx hb hown hts hK (ci := 2) (C := RX2) (T := TX2) (N := 3) rfl (by decide) rfl fwX2_18 hq4 (by omega) (by decide +kernel) rfl rfl (Nat.le_of_ble_eq_true rfl) hP hS dX2_init_22 (fun H E5 locs hP hN5 hO5 hS => ?_)
  have hq5 : E5 (q) = .inr (2, [.ref (a0 + (q + 1)), .ref (a0 + (q + 2)), .int 0]) := hN5
  refine W.vret hx hb hr (fun t ht _ => ⟨⟨rfl, E5, by rw [ht]; exact hP, fun k hk1 => by rw [hO5 _ (by omega), hO4 _ (by omega), hO3 _ (by omega), hO2 _ (by omega), hO1 _ (by omega)], fun k hk1 hk2 => ?_⟩, hS.F ht⟩) hS.2.2 dX2_init_25 hlocks
  rcases (show k = q ∨ k = q + 1 ∨ k = q + 2 by omega) with h | h | h
  · subst h; rw [hq5]; exact (Fz_O hk (by decide) (by simp [fl, gI, gR, gL, μ0, hk])).symm
  · subst h; exact (by rw [hO5 _ (by omega), hO4 _ (by omega), hO3 _ (by omega), hO2 _ (by omega), hN1]; exact (Fz_I (n := 6) (kz_2_1 hk) (by decide)).symm)
  · subst h; exact (by rw [hO5 _ (by omega), hO4 _ (by omega), hN3]; exact (Fz_I (n := 6) (kz_2_2 hk) (by decide)).symm)

set_option maxRecDepth 100000 in
set_option maxHeartbeats 4000000 in
theorem c_X6_init (a0 q : Nat) (hk : kd q = 6) : Cc a0 q yX6_init cX6_init 1 1 3 15 6 [.null, .null, .null, .int 0, .int 0] := by
  intro l cy D E hE
  refine Met.ofW (cc := cX6_init) (maxL := 1) (ret := none) (by decide +kernel) rfl ?_
  intro p e s m args below meth c s₁ B hml hv
  obtain ⟨rfl, hP, hK, hnw, hao⟩ := hv
  have hts0 := atoms_spec (ws := .code yX6_init cX6_init 1 none :: gT) B.pre
  have hts : ∀ w ∈ gT, w.before _ s = true := fun w h => hts0 w (List.mem_cons_of_mem _ h)
  have hx := B.exec
  have hb := B.bytes
  have hr := B.returns
  have hlocks := B.notSynchronized
  have hown : s.vm.findClass RX6 = some m.cls := findClass_of_methodNamed B.named
  have hin : meth.name = "<init>" := (name_of_methodNamed B.named B.method).1
  have hS : va_S (fun q => a0 ≤ q) s.heap s.heap [] := va_S.rf
  have hl := lv_entry ([.ref (a0 + q)]) (n := 1) (Nat.le_of_ble_eq_true rfl)
  rw [lg_entry_eq]
  generalize (lg_sl ([.ref (a0 + q)]) ++ List.replicate (1 - (lg_sl ([.ref (a0 + q)])).length) Slot.unset).toArray = ls at hl ⊢
  have hl : lv_has ls 1 [(0, .ref (a0 + q))] := hl
  refine lv_aload_n hx hb dX6_init_0 rfl (lv_at hl 0 rfl) ?_
  refine pw_objInit hx hb (hml.trans hl.1.symm) hown hts (gT_of 204 (by decide +kernel) (by decide +kernel)) oi2 oi3 (Nat.le_of_ble_eq_true rfl) (Nat.le_of_ble_eq_true rfl) dX6_init_1 ?_
  refine lv_aload_n hx hb dX6_init_4 rfl (lv_at hl 0 rfl) ?_
  refine lv_iconst (v := 5) hx hb dX6_init_5 (by decide) ?_
  refine pw_newa hx hb hts hK (ty := .int) rfl rfl (fun cA h => h) 1 rfl ac_int 5 (by decide) (by decide) (by decide) hP hS (Nat.le_of_ble_eq_true rfl) (Nat.le_of_ble_eq_true rfl) dX6_init_6 (fun H E1 hP hN1 hO1 hS => ?_)
  have hP : PW a0 (q + 2) D E1 H := hP
  have hq1 : E1 (q) = .inr (6, [.null, .null, .null, .int 0, .int 0]) := (hO1 _ (by omega)).trans hE
  refine pw_putF (k := 0) (q := q) (ty := (.array .int)) (v := .ref (a0 + (q + 1))) hx hb hown hts hK (ci := 6) (C := RX6) (T := TX6) (N := 5) rfl (by decide) rfl hin rfl fwX6_9 hq1 (by omega) (by decide +kernel) rfl rfl (Nat.le_of_ble_eq_true rfl) hP hS dX6_init_8 (fun H E2 locs hP hN2 hO2 hS => ?_)
  have hq2 : E2 (q) = .inr (6, [.ref (a0 + (q + 1)), .null, .null, .int 0, .int 0]) := hN2
  refine lv_aload_n hx hb dX6_init_11 rfl (lv_at hl 0 rfl) ?_
  refine lv_iconst (v := 5) hx hb dX6_init_12 (by decide) ?_
  refine pw_newa hx hb hts hK (ty := .int) rfl rfl (fun cA h => h) 1 rfl ac_int 5 (by decide) (by decide) (by decide) hP hS (Nat.le_of_ble_eq_true rfl) (Nat.le_of_ble_eq_true rfl) dX6_init_13 (fun H E3 hP hN3 hO3 hS => ?_)
  have hP : PW a0 (q + 3) D E3 H := hP
  have hq3 : E3 (q) = .inr (6, [.ref (a0 + (q + 1)), .null, .null, .int 0, .int 0]) := (hO3 _ (by omega)).trans hq2
  refine pw_putF (k := 1) (q := q) (ty := (.array .int)) (v := .ref (a0 + (q + 2))) hx hb hown hts hK (ci := 6) (C := RX6) (T := TX6) (N := 5) rfl (by decide) rfl hin rfl fwX6_15 hq3 (by omega) (by decide +kernel) rfl rfl (Nat.le_of_ble_eq_true rfl) hP hS dX6_init_15 (fun H E4 locs hP hN4 hO4 hS => ?_)
  have hq4 : E4 (q) = .inr (6, [.ref (a0 + (q + 1)), .ref (a0 + (q + 2)), .null, .int 0, .int 0]) := hN4
  refine lv_aload_n hx hb dX6_init_18 rfl (lv_at hl 0 rfl) ?_
  refine lv_iconst (v := 5) hx hb dX6_init_19 (by decide) ?_
  refine pw_newa hx hb hts hK (ty := .int) rfl rfl (fun cA h => h) 1 rfl ac_int 5 (by decide) (by decide) (by decide) hP hS (Nat.le_of_ble_eq_true rfl) (Nat.le_of_ble_eq_true rfl) dX6_init_20 (fun H E5 hP hN5 hO5 hS => ?_)
  have hP : PW a0 (q + 4) D E5 H := hP
  have hq5 : E5 (q) = .inr (6, [.ref (a0 + (q + 1)), .ref (a0 + (q + 2)), .null, .int 0, .int 0]) := (hO5 _ (by omega)).trans hq4
  refine pw_putF (k := 2) (q := q) (ty := (.array .int)) (v := .ref (a0 + (q + 3))) hx hb hown hts hK (ci := 6) (C := RX6) (T := TX6) (N := 5) rfl (by decide) rfl hin rfl fwX6_18 hq5 (by omega) (by decide +kernel) rfl rfl (Nat.le_of_ble_eq_true rfl) hP hS dX6_init_22 (fun H E6 locs hP hN6 hO6 hS => ?_)
  have hq6 : E6 (q) = .inr (6, [.ref (a0 + (q + 1)), .ref (a0 + (q + 2)), .ref (a0 + (q + 3)), .int 0, .int 0]) := hN6
  refine lv_aload_n hx hb dX6_init_25 rfl (lv_at hl 0 rfl) ?_
  refine lv_iconst (v := 0) hx hb dX6_init_26 (by decide) ?_
  refine pw_put (k := 3) (q := q) (ty := .int) (v := .int 0) hx hb hown hts hK (ci := 6) (C := RX6) (T := TX6) (N := 5) rfl (by decide) rfl fwX6_21 hq6 (by omega) (by decide +kernel) rfl rfl (Nat.le_of_ble_eq_true rfl) hP hS dX6_init_27 (fun H E7 locs hP hN7 hO7 hS => ?_)
  have hq7 : E7 (q) = .inr (6, [.ref (a0 + (q + 1)), .ref (a0 + (q + 2)), .ref (a0 + (q + 3)), .int 0, .int 0]) := hN7
  refine lv_aload_n hx hb dX6_init_30 rfl (lv_at hl 0 rfl) ?_
  refine lv_iconst (v := 0) hx hb dX6_init_31 (by decide) ?_
  refine pw_put (k := 4) (q := q) (ty := .int) (v := .int 0) hx hb hown hts hK (ci := 6) (C := RX6) (T := TX6) (N := 5) rfl (by decide) rfl fwX6_25 hq7 (by omega) (by decide +kernel) rfl rfl (Nat.le_of_ble_eq_true rfl) hP hS dX6_init_32 (fun H E8 locs hP hN8 hO8 hS => ?_)
  have hq8 : E8 (q) = .inr (6, [.ref (a0 + (q + 1)), .ref (a0 + (q + 2)), .ref (a0 + (q + 3)), .int 0, .int 0]) := hN8
  refine W.vret hx hb hr (fun t ht _ => ⟨⟨rfl, E8, by rw [ht]; exact hP, fun k hk1 => by rw [hO8 _ (by omega), hO7 _ (by omega), hO6 _ (by omega), hO5 _ (by omega), hO4 _ (by omega), hO3 _ (by omega), hO2 _ (by omega), hO1 _ (by omega)], fun k hk1 hk2 => ?_⟩, hS.F ht⟩) hS.2.2 dX6_init_35 hlocks
  rcases (show k = q ∨ k = q + 1 ∨ k = q + 2 ∨ k = q + 3 by omega) with h | h | h | h
  · subst h; rw [hq8]; exact (Fz_O hk (by decide) (by simp [fl, gI, gR, gL, μ0, hk])).symm
  · subst h; exact (by rw [hO8 _ (by omega), hO7 _ (by omega), hO6 _ (by omega), hO5 _ (by omega), hO4 _ (by omega), hO3 _ (by omega), hO2 _ (by omega), hN1]; exact (Fz_I (n := 5) (kz_6_1 hk) (by decide)).symm)
  · subst h; exact (by rw [hO8 _ (by omega), hO7 _ (by omega), hO6 _ (by omega), hO5 _ (by omega), hO4 _ (by omega), hN3]; exact (Fz_I (n := 5) (kz_6_2 hk) (by decide)).symm)
  · subst h; exact (by rw [hO8 _ (by omega), hO7 _ (by omega), hO6 _ (by omega), hN5]; exact (Fz_I (n := 5) (kz_6_3 hk) (by decide)).symm)

set_option maxRecDepth 100000 in
set_option maxHeartbeats 4000000 in
theorem c_X7_init (a0 q : Nat) (hk : kd q = 7) : Cc a0 q yX7_init cX7_init 1 1 5 34 7 [.int 0, .int 0, .null, .null, .null, .int 0, .null, .null, .int 0, .int 0] := by
  intro l cy D E hE
  refine Met.ofW (cc := cX7_init) (maxL := 1) (ret := none) (by decide +kernel) rfl ?_
  intro p e s m args below meth c s₁ B hml hv
  obtain ⟨rfl, hP, hK, hnw, hao⟩ := hv
  have hts0 := atoms_spec (ws := .code yX7_init cX7_init 1 none :: gT) B.pre
  have hts : ∀ w ∈ gT, w.before _ s = true := fun w h => hts0 w (List.mem_cons_of_mem _ h)
  have hx := B.exec
  have hb := B.bytes
  have hr := B.returns
  have hlocks := B.notSynchronized
  have hown : s.vm.findClass RX7 = some m.cls := findClass_of_methodNamed B.named
  have hin : meth.name = "<init>" := (name_of_methodNamed B.named B.method).1
  have hS : va_S (fun q => a0 ≤ q) s.heap s.heap [] := va_S.rf
  have hl := lv_entry ([.ref (a0 + q)]) (n := 1) (Nat.le_of_ble_eq_true rfl)
  rw [lg_entry_eq]
  generalize (lg_sl ([.ref (a0 + q)]) ++ List.replicate (1 - (lg_sl ([.ref (a0 + q)])).length) Slot.unset).toArray = ls at hl ⊢
  have hl : lv_has ls 1 [(0, .ref (a0 + q))] := hl
  refine lv_aload_n hx hb dX7_init_0 rfl (lv_at hl 0 rfl) ?_
  refine pw_objInit hx hb (hml.trans hl.1.symm) hown hts (gT_of 73 (by decide +kernel) (by decide +kernel)) oi2 oi3 (Nat.le_of_ble_eq_true rfl) (Nat.le_of_ble_eq_true rfl) dX7_init_1 ?_
  refine lv_aload_n hx hb dX7_init_4 rfl (lv_at hl 0 rfl) ?_
  refine lv_iconst (v := 2) hx hb dX7_init_5 (by decide) ?_
  refine pw_put (k := 0) (q := q) (ty := .int) (v := .int 2) hx hb hown hts hK (ci := 7) (C := RX7) (T := TX7) (N := 10) rfl (by decide) rfl fwX7_9 hE (by omega) (by decide +kernel) rfl rfl (Nat.le_of_ble_eq_true rfl) hP hS dX7_init_6 (fun H E1 locs hP hN1 hO1 hS => ?_)
  have hq1 : E1 (q) = .inr (7, [.int 2, .int 0, .null, .null, .null, .int 0, .null, .null, .int 0, .int 0]) := hN1
  refine lv_aload_n hx hb dX7_init_9 rfl (lv_at hl 0 rfl) ?_
  refine lv_iconst (v := 0) hx hb dX7_init_10 (by decide) ?_
  refine pw_put (k := 1) (q := q) (ty := .int) (v := .int 0) hx hb hown hts hK (ci := 7) (C := RX7) (T := TX7) (N := 10) rfl (by decide) rfl fwX7_15 hq1 (by omega) (by decide +kernel) rfl rfl (Nat.le_of_ble_eq_true rfl) hP hS dX7_init_11 (fun H E2 locs hP hN2 hO2 hS => ?_)
  have hq2 : E2 (q) = .inr (7, [.int 2, .int 0, .null, .null, .null, .int 0, .null, .null, .int 0, .int 0]) := hN2
  refine lv_aload_n hx hb dX7_init_14 rfl (lv_at hl 0 rfl) ?_
  refine lv_bipush (v := 8) hx hb dX7_init_15 (by decide) ?_
  refine pw_newa hx hb hts hK (ty := .int) rfl rfl (fun cA h => h) 1 rfl ac_int 8 (by decide) (by decide) (by decide) hP hS (Nat.le_of_ble_eq_true rfl) (Nat.le_of_ble_eq_true rfl) dX7_init_17 (fun H E3 hP hN3 hO3 hS => ?_)
  have hP : PW a0 (q + 2) D E3 H := hP
  have hq3 : E3 (q) = .inr (7, [.int 2, .int 0, .null, .null, .null, .int 0, .null, .null, .int 0, .int 0]) := (hO3 _ (by omega)).trans hq2
  refine pw_putF (k := 2) (q := q) (ty := (.array .int)) (v := .ref (a0 + (q + 1))) hx hb hown hts hK (ci := 7) (C := RX7) (T := TX7) (N := 10) rfl (by decide) rfl hin rfl fwX7_18 hq3 (by omega) (by decide +kernel) rfl rfl (Nat.le_of_ble_eq_true rfl) hP hS dX7_init_19 (fun H E4 locs hP hN4 hO4 hS => ?_)
  have hq4 : E4 (q) = .inr (7, [.int 2, .int 0, .ref (a0 + (q + 1)), .null, .null, .int 0, .null, .null, .int 0, .int 0]) := hN4
  refine lv_aload_n hx hb dX7_init_22 rfl (lv_at hl 0 rfl) ?_
  refine lv_bipush (v := 8) hx hb dX7_init_23 (by decide) ?_
  refine pw_newa hx hb hts hK (ty := .int) rfl rfl (fun cA h => h) 1 rfl ac_int 8 (by decide) (by decide) (by decide) hP hS (Nat.le_of_ble_eq_true rfl) (Nat.le_of_ble_eq_true rfl) dX7_init_25 (fun H E5 hP hN5 hO5 hS => ?_)
  have hP : PW a0 (q + 3) D E5 H := hP
  have hq5 : E5 (q) = .inr (7, [.int 2, .int 0, .ref (a0 + (q + 1)), .null, .null, .int 0, .null, .null, .int 0, .int 0]) := (hO5 _ (by omega)).trans hq4
  refine pw_putF (k := 3) (q := q) (ty := (.array .int)) (v := .ref (a0 + (q + 2))) hx hb hown hts hK (ci := 7) (C := RX7) (T := TX7) (N := 10) rfl (by decide) rfl hin rfl fwX7_22 hq5 (by omega) (by decide +kernel) rfl rfl (Nat.le_of_ble_eq_true rfl) hP hS dX7_init_27 (fun H E6 locs hP hN6 hO6 hS => ?_)
  have hq6 : E6 (q) = .inr (7, [.int 2, .int 0, .ref (a0 + (q + 1)), .ref (a0 + (q + 2)), .null, .int 0, .null, .null, .int 0, .int 0]) := hN6
  refine lv_aload_n hx hb dX7_init_30 rfl (lv_at hl 0 rfl) ?_
  refine lv_bipush (v := 8) hx hb dX7_init_31 (by decide) ?_
  refine pw_newa hx hb hts hK (ty := .int) rfl rfl (fun cA h => h) 1 rfl ac_int 8 (by decide) (by decide) (by decide) hP hS (Nat.le_of_ble_eq_true rfl) (Nat.le_of_ble_eq_true rfl) dX7_init_33 (fun H E7 hP hN7 hO7 hS => ?_)
  have hP : PW a0 (q + 4) D E7 H := hP
  have hq7 : E7 (q) = .inr (7, [.int 2, .int 0, .ref (a0 + (q + 1)), .ref (a0 + (q + 2)), .null, .int 0, .null, .null, .int 0, .int 0]) := (hO7 _ (by omega)).trans hq6
  refine pw_putF (k := 4) (q := q) (ty := (.array .int)) (v := .ref (a0 + (q + 3))) hx hb hown hts hK (ci := 7) (C := RX7) (T := TX7) (N := 10) rfl (by decide) rfl hin rfl fwX7_25 hq7 (by omega) (by decide +kernel) rfl rfl (Nat.le_of_ble_eq_true rfl) hP hS dX7_init_35 (fun H E8 locs hP hN8 hO8 hS => ?_)
  have hq8 : E8 (q) = .inr (7, [.int 2, .int 0, .ref (a0 + (q + 1)), .ref (a0 + (q + 2)), .ref (a0 + (q + 3)), .int 0, .null, .null, .int 0, .int 0]) := hN8
  refine lv_aload_n hx hb dX7_init_38 rfl (lv_at hl 0 rfl) ?_
  refine lv_iconst (v := 0) hx hb dX7_init_39 (by decide) ?_
  refine pw_put (k := 5) (q := q) (ty := .int) (v := .int 0) hx hb hown hts hK (ci := 7) (C := RX7) (T := TX7) (N := 10) rfl (by decide) rfl fwX7_28 hq8 (by omega) (by decide +kernel) rfl rfl (Nat.le_of_ble_eq_true rfl) hP hS dX7_init_40 (fun H E9 locs hP hN9 hO9 hS => ?_)
  have hq9 : E9 (q) = .inr (7, [.int 2, .int 0, .ref (a0 + (q + 1)), .ref (a0 + (q + 2)), .ref (a0 + (q + 3)), .int 0, .null, .null, .int 0, .int 0]) := hN9
  refine lv_aload_n hx hb dX7_init_43 rfl (lv_at hl 0 rfl) ?_
  refine lv_iconst (v := 5) hx hb dX7_init_44 (by decide) ?_
  refine pw_newa hx hb hts hK (ty := .int) rfl rfl (fun cA h => h) 1 rfl ac_int 5 (by decide) (by decide) (by decide) hP hS (Nat.le_of_ble_eq_true rfl) (Nat.le_of_ble_eq_true rfl) dX7_init_45 (fun H E10 hP hN10 hO10 hS => ?_)
  have hP : PW a0 (q + 5) D E10 H := hP
  have hq10 : E10 (q) = .inr (7, [.int 2, .int 0, .ref (a0 + (q + 1)), .ref (a0 + (q + 2)), .ref (a0 + (q + 3)), .int 0, .null, .null, .int 0, .int 0]) := (hO10 _ (by omega)).trans hq9
  refine pw_putF (k := 6) (q := q) (ty := (.array .int)) (v := .ref (a0 + (q + 4))) hx hb hown hts hK (ci := 7) (C := RX7) (T := TX7) (N := 10) rfl (by decide) rfl hin rfl fwX7_31 hq10 (by omega) (by decide +kernel) rfl rfl (Nat.le_of_ble_eq_true rfl) hP hS dX7_init_47 (fun H E11 locs hP hN11 hO11 hS => ?_)
  have hq11 : E11 (q) = .inr (7, [.int 2, .int 0, .ref (a0 + (q + 1)), .ref (a0 + (q + 2)), .ref (a0 + (q + 3)), .int 0, .ref (a0 + (q + 4)), .null, .int 0, .int 0]) := hN11
  refine lv_aload_n hx hb dX7_init_50 rfl (lv_at hl 0 rfl) ?_
  refine lv_iconst (v := 5) hx hb dX7_init_51 (by decide) ?_
  refine pw_newa hx hb hts hK (ty := .int) rfl rfl (fun cA h => h) 1 rfl ac_int 5 (by decide) (by decide) (by decide) hP hS (Nat.le_of_ble_eq_true rfl) (Nat.le_of_ble_eq_true rfl) dX7_init_52 (fun H E12 hP hN12 hO12 hS => ?_)
  have hP : PW a0 (q + 6) D E12 H := hP
  have hq12 : E12 (q) = .inr (7, [.int 2, .int 0, .ref (a0 + (q + 1)), .ref (a0 + (q + 2)), .ref (a0 + (q + 3)), .int 0, .ref (a0 + (q + 4)), .null, .int 0, .int 0]) := (hO12 _ (by omega)).trans hq11
  refine pw_putF (k := 7) (q := q) (ty := (.array .int)) (v := .ref (a0 + (q + 5))) hx hb hown hts hK (ci := 7) (C := RX7) (T := TX7) (N := 10) rfl (by decide) rfl hin rfl fwX7_34 hq12 (by omega) (by decide +kernel) rfl rfl (Nat.le_of_ble_eq_true rfl) hP hS dX7_init_54 (fun H E13 locs hP hN13 hO13 hS => ?_)
  have hq13 : E13 (q) = .inr (7, [.int 2, .int 0, .ref (a0 + (q + 1)), .ref (a0 + (q + 2)), .ref (a0 + (q + 3)), .int 0, .ref (a0 + (q + 4)), .ref (a0 + (q + 5)), .int 0, .int 0]) := hN13
  refine lv_aload_n hx hb dX7_init_57 rfl (lv_at hl 0 rfl) ?_
  refine lv_iconst (v := 4) hx hb dX7_init_58 (by decide) ?_
  refine pw_put (k := 8) (q := q) (ty := .int) (v := .int 4) hx hb hown hts hK (ci := 7) (C := RX7) (T := TX7) (N := 10) rfl (by decide) rfl fwX7_37 hq13 (by omega) (by decide +kernel) rfl rfl (Nat.le_of_ble_eq_true rfl) hP hS dX7_init_59 (fun H E14 locs hP hN14 hO14 hS => ?_)
  have hq14 : E14 (q) = .inr (7, [.int 2, .int 0, .ref (a0 + (q + 1)), .ref (a0 + (q + 2)), .ref (a0 + (q + 3)), .int 0, .ref (a0 + (q + 4)), .ref (a0 + (q + 5)), .int 4, .int 0]) := hN14
  refine lv_aload_n hx hb dX7_init_62 rfl (lv_at hl 0 rfl) ?_
  refine lv_iconst (v := 1) hx hb dX7_init_63 (by decide) ?_
  refine pw_put (k := 9) (q := q) (ty := .int) (v := .int 1) hx hb hown hts hK (ci := 7) (C := RX7) (T := TX7) (N := 10) rfl (by decide) rfl fwX7_40 hq14 (by omega) (by decide +kernel) rfl rfl (Nat.le_of_ble_eq_true rfl) hP hS dX7_init_64 (fun H E15 locs hP hN15 hO15 hS => ?_)
  have hq15 : E15 (q) = .inr (7, [.int 2, .int 0, .ref (a0 + (q + 1)), .ref (a0 + (q + 2)), .ref (a0 + (q + 3)), .int 0, .ref (a0 + (q + 4)), .ref (a0 + (q + 5)), .int 4, .int 1]) := hN15
  refine W.vret hx hb hr (fun t ht _ => ⟨⟨rfl, E15, by rw [ht]; exact hP, fun k hk1 => by rw [hO15 _ (by omega), hO14 _ (by omega), hO13 _ (by omega), hO12 _ (by omega), hO11 _ (by omega), hO10 _ (by omega), hO9 _ (by omega), hO8 _ (by omega), hO7 _ (by omega), hO6 _ (by omega), hO5 _ (by omega), hO4 _ (by omega), hO3 _ (by omega), hO2 _ (by omega), hO1 _ (by omega)], fun k hk1 hk2 => ?_⟩, hS.F ht⟩) hS.2.2 dX7_init_67 hlocks
  rcases (show k = q ∨ k = q + 1 ∨ k = q + 2 ∨ k = q + 3 ∨ k = q + 4 ∨ k = q + 5 by omega) with h | h | h | h | h | h
  · subst h; rw [hq15]; exact (Fz_O hk (by decide) (by simp [fl, gI, gR, gL, μ0, hk])).symm
  · subst h; exact (by rw [hO15 _ (by omega), hO14 _ (by omega), hO13 _ (by omega), hO12 _ (by omega), hO11 _ (by omega), hO10 _ (by omega), hO9 _ (by omega), hO8 _ (by omega), hO7 _ (by omega), hO6 _ (by omega), hO5 _ (by omega), hO4 _ (by omega), hN3]; exact (Fz_I (n := 8) (kz_7_1 hk) (by decide)).symm)
  · subst h; exact (by rw [hO15 _ (by omega), hO14 _ (by omega), hO13 _ (by omega), hO12 _ (by omega), hO11 _ (by omega), hO10 _ (by omega), hO9 _ (by omega), hO8 _ (by omega), hO7 _ (by omega), hO6 _ (by omega), hN5]; exact (Fz_I (n := 8) (kz_7_2 hk) (by decide)).symm)
  · subst h; exact (by rw [hO15 _ (by omega), hO14 _ (by omega), hO13 _ (by omega), hO12 _ (by omega), hO11 _ (by omega), hO10 _ (by omega), hO9 _ (by omega), hO8 _ (by omega), hN7]; exact (Fz_I (n := 8) (kz_7_3 hk) (by decide)).symm)
  · subst h; exact (by rw [hO15 _ (by omega), hO14 _ (by omega), hO13 _ (by omega), hO12 _ (by omega), hO11 _ (by omega), hN10]; exact (Fz_I (n := 5) (kz_7_4 hk) (by decide)).symm)
  · subst h; exact (by rw [hO15 _ (by omega), hO14 _ (by omega), hO13 _ (by omega), hN12]; exact (Fz_I (n := 5) (kz_7_5 hk) (by decide)).symm)

set_option maxRecDepth 100000 in
set_option maxHeartbeats 4000000 in
theorem c_X4_init (a0 q : Nat) (hk : kd q = 4) : Cc a0 q yX4_init cX4_init 1 2 2 152 4 [.null, .int 0, .int 0, .int 0, .int 0, .int 0, .int 0] := by
  intro l cy D E hE
  refine Met.ofW (cc := cX4_init) (maxL := 1) (ret := none) (by decide +kernel) rfl ?_
  intro p e s m args below meth c s₁ B hml hv
  obtain ⟨rfl, hP, hK, hnw, hao⟩ := hv
  have hts0 := atoms_spec (ws := .code yX4_init cX4_init 1 none :: gT) B.pre
  have hts : ∀ w ∈ gT, w.before _ s = true := fun w h => hts0 w (List.mem_cons_of_mem _ h)
  have hx := B.exec
  have hb := B.bytes
  have hr := B.returns
  have hlocks := B.notSynchronized
  have hown : s.vm.findClass RX4 = some m.cls := findClass_of_methodNamed B.named
  have hin : meth.name = "<init>" := (name_of_methodNamed B.named B.method).1
  have hS : va_S (fun q => a0 ≤ q) s.heap s.heap [] := va_S.rf
  have hl := lv_entry ([.ref (a0 + q)]) (n := 1) (Nat.le_of_ble_eq_true rfl)
  rw [lg_entry_eq]
  generalize (lg_sl ([.ref (a0 + q)]) ++ List.replicate (1 - (lg_sl ([.ref (a0 + q)])).length) Slot.unset).toArray = ls at hl ⊢
  have hl : lv_has ls 1 [(0, .ref (a0 + q))] := hl
  refine lv_aload_n hx hb dX4_init_0 rfl (lv_at hl 0 rfl) ?_
  refine pw_objInit hx hb (hml.trans hl.1.symm) hown hts (gT_of 26 (by decide +kernel) (by decide +kernel)) oi2 oi3 (Nat.le_of_ble_eq_true rfl) (Nat.le_of_ble_eq_true rfl) dX4_init_1 ?_
  refine lv_aload_n hx hb dX4_init_4 rfl (lv_at hl 0 rfl) ?_
  refine pw_new hx hb hown hts hK (ci := 5) (C := RX5) (T := TX5) (N := 2) rfl in5d nwX4_9a in5b in5c hP hS (Nat.le_of_ble_eq_true rfl) (Nat.le_of_ble_eq_true rfl) dX4_init_5 (fun H E1 hP hN1 hO1 hS => ?_)
  have hP : PW a0 (q + 2) D E1 H := hP
  have hq1 : E1 (q) = .inr (4, [.null, .int 0, .int 0, .int 0, .int 0, .int 0, .int 0]) := (hO1 _ (by omega)).trans hE
  refine lv_dup hx hb dX4_init_8 rfl ?_
  refine pw_call (q := q + 1) (rest := [.ref (a0 + (q + 1)), .ref (a0 + q)]) hx hb hml hl.1 hown hts hnw hK hao ciwX4_11 (by decide) (c_X5_init a0 (q + 1) (kz_4_1 hk)) hN1 rfl (Nat.le_of_ble_eq_true rfl) (Nat.le_of_ble_eq_true rfl) (Nat.le_of_ble_eq_true rfl) (Nat.le_of_ble_eq_true rfl) (Nat.le_of_ble_eq_true rfl) hP hS dX4_init_9 (fun H E2 locs hP hO2 hN2 hS => ?_)
  have hP : PW a0 (q + 3) D E2 H := hP
  have hq2 : E2 (q) = .inr (4, [.null, .int 0, .int 0, .int 0, .int 0, .int 0, .int 0]) := (hO2 _ (by omega)).trans hq1
  refine pw_putF (k := 0) (q := q) (ty := (.object "ElbowRanks$Text")) (v := .ref (a0 + (q + 1))) hx hb hown hts hK (ci := 4) (C := RX4) (T := TX4) (N := 7) rfl (by decide) rfl hin rfl fwX4_12 hq2 (by omega) (by decide +kernel) rfl rfl (Nat.le_of_ble_eq_true rfl) hP hS dX4_init_12 (fun H E3 locs hP hN3 hO3 hS => ?_)
  have hq3 : E3 (q) = .inr (4, [.ref (a0 + (q + 1)), .int 0, .int 0, .int 0, .int 0, .int 0, .int 0]) := hN3
  refine lv_aload_n hx hb dX4_init_15 rfl (lv_at hl 0 rfl) ?_
  refine lv_iconst (v := 0) hx hb dX4_init_16 (by decide) ?_
  refine pw_put (k := 1) (q := q) (ty := .int) (v := .int 0) hx hb hown hts hK (ci := 4) (C := RX4) (T := TX4) (N := 7) rfl (by decide) rfl fwX4_18 hq3 (by omega) (by decide +kernel) rfl rfl (Nat.le_of_ble_eq_true rfl) hP hS dX4_init_17 (fun H E4 locs hP hN4 hO4 hS => ?_)
  have hq4 : E4 (q) = .inr (4, [.ref (a0 + (q + 1)), .int 0, .int 0, .int 0, .int 0, .int 0, .int 0]) := hN4
  refine lv_aload_n hx hb dX4_init_20 rfl (lv_at hl 0 rfl) ?_
  refine lv_iconst (v := 0) hx hb dX4_init_21 (by decide) ?_
  refine pw_put (k := 2) (q := q) (ty := .int) (v := .int 0) hx hb hown hts hK (ci := 4) (C := RX4) (T := TX4) (N := 7) rfl (by decide) rfl fwX4_22 hq4 (by omega) (by decide +kernel) rfl rfl (Nat.le_of_ble_eq_true rfl) hP hS dX4_init_22 (fun H E5 locs hP hN5 hO5 hS => ?_)
  have hq5 : E5 (q) = .inr (4, [.ref (a0 + (q + 1)), .int 0, .int 0, .int 0, .int 0, .int 0, .int 0]) := hN5
  refine lv_aload_n hx hb dX4_init_25 rfl (lv_at hl 0 rfl) ?_
  refine lv_iconst (v := 0) hx hb dX4_init_26 (by decide) ?_
  refine pw_put (k := 3) (q := q) (ty := .int) (v := .int 0) hx hb hown hts hK (ci := 4) (C := RX4) (T := TX4) (N := 7) rfl (by decide) rfl fwX4_25 hq5 (by omega) (by decide +kernel) rfl rfl (Nat.le_of_ble_eq_true rfl) hP hS dX4_init_27 (fun H E6 locs hP hN6 hO6 hS => ?_)
  have hq6 : E6 (q) = .inr (4, [.ref (a0 + (q + 1)), .int 0, .int 0, .int 0, .int 0, .int 0, .int 0]) := hN6
  refine lv_aload_n hx hb dX4_init_30 rfl (lv_at hl 0 rfl) ?_
  refine lv_iconst (v := 0) hx hb dX4_init_31 (by decide) ?_
  refine pw_put (k := 4) (q := q) (ty := .int) (v := .int 0) hx hb hown hts hK (ci := 4) (C := RX4) (T := TX4) (N := 7) rfl (by decide) rfl fwX4_28 hq6 (by omega) (by decide +kernel) rfl rfl (Nat.le_of_ble_eq_true rfl) hP hS dX4_init_32 (fun H E7 locs hP hN7 hO7 hS => ?_)
  have hq7 : E7 (q) = .inr (4, [.ref (a0 + (q + 1)), .int 0, .int 0, .int 0, .int 0, .int 0, .int 0]) := hN7
  refine lv_aload_n hx hb dX4_init_35 rfl (lv_at hl 0 rfl) ?_
  refine lv_iconst (v := 0) hx hb dX4_init_36 (by decide) ?_
  refine pw_put (k := 5) (q := q) (ty := .boolean) (v := .int 0) hx hb hown hts hK (ci := 4) (C := RX4) (T := TX4) (N := 7) rfl (by decide) rfl fwX4_31 hq7 (by omega) (by decide +kernel) rfl rfl (Nat.le_of_ble_eq_true rfl) hP hS dX4_init_37 (fun H E8 locs hP hN8 hO8 hS => ?_)
  have hq8 : E8 (q) = .inr (4, [.ref (a0 + (q + 1)), .int 0, .int 0, .int 0, .int 0, .int 0, .int 0]) := hN8
  refine lv_aload_n hx hb dX4_init_40 rfl (lv_at hl 0 rfl) ?_
  refine lv_iconst (v := 0) hx hb dX4_init_41 (by decide) ?_
  refine pw_put (k := 6) (q := q) (ty := .boolean) (v := .int 0) hx hb hown hts hK (ci := 4) (C := RX4) (T := TX4) (N := 7) rfl (by decide) rfl fwX4_35 hq8 (by omega) (by decide +kernel) rfl rfl (Nat.le_of_ble_eq_true rfl) hP hS dX4_init_42 (fun H E9 locs hP hN9 hO9 hS => ?_)
  have hq9 : E9 (q) = .inr (4, [.ref (a0 + (q + 1)), .int 0, .int 0, .int 0, .int 0, .int 0, .int 0]) := hN9
  refine W.vret hx hb hr (fun t ht _ => ⟨⟨rfl, E9, by rw [ht]; exact hP, fun k hk1 => by rw [hO9 _ (by omega), hO8 _ (by omega), hO7 _ (by omega), hO6 _ (by omega), hO5 _ (by omega), hO4 _ (by omega), hO3 _ (by omega), hO2 _ (by omega), hO1 _ (by omega)], fun k hk1 hk2 => ?_⟩, hS.F ht⟩) hS.2.2 dX4_init_45 hlocks
  rcases (show k = q ∨ (q + 1 ≤ k ∧ k < q + 3) by omega) with h | h
  · subst h; rw [hq9]; exact (Fz_O hk (by decide) (by simp [fl, gI, gR, gL, μ0, hk])).symm
  · exact (by rw [hO9 _ (by omega), hO8 _ (by omega), hO7 _ (by omega), hO6 _ (by omega), hO5 _ (by omega), hO4 _ (by omega), hO3 _ (by omega)]; exact hN2 k (by omega) (by omega))
