theorem kd_course {q : Nat} (hk : kd q = 0) {i : Nat} (hi : i < 10) : kd (q + 6 + 4 * i) = 3 := by
  have h : (List.range 185).all (fun q => !(kd q == 0) || (List.range 10).all (fun i => kd (q + 6 + 4 * i) == 3)) = true := by decide +kernel
  have h1 := List.all_eq_true.mp h q (List.mem_range.mpr (kd_lt hk (by decide)))
  simp only [hk, beq_self_eq_true, Bool.not_true, Bool.false_or] at h1
  have h2 := List.all_eq_true.mp h1 i (List.mem_range.mpr hi)
  simpa using h2
theorem up_refs {i : Nat} (hi : i < 1000) (g : Nat → Nat) : va_up (fun j => if j < i then some (g j) else none) (nI i).toNatClampNeg (some (g i)) = fun j => if j < i + 1 then some (g j) else none := by
  rw [nI_clamp (by omega)]
  funext j
  by_cases h : j = i
  · subst h; simp [va_up]
  · by_cases h2 : j < i
    · have h3 : j < i + 1 := by omega
      simp [va_up, h, h2, h3]
    · have h3 : ¬ j < i + 1 := by omega
      simp [va_up, h, h2, h3]
theorem va_up0 (g : Nat → Nat) : (fun _ => none : Nat → Option Nat) = fun j => if j < 0 then some (g j) else none := by
  funext j
  simp
set_option maxRecDepth 100000 in
set_option maxHeartbeats 4000000 in
theorem loop_X0 {p : Program} {l : Launch} {e : Env} {R : Room} {s : State} {m : MethodId} {args : Array Value} {below : List Frame} {meth : Method} {c : Code} {Q : State → Prop} {cy : Nat → ClassId} {D : va_G} {a0 q : Nat} {E : Nat → va_E} {mid : Nat → va_E} (hk : kd q = 0) (hkn : ∀ i, i < 10 → kd (q + 6 + 4 * i) = 3) (hx : p.tables.exec = Jvm.exec) (hb : c.code = cX0_init) (hml : c.maxLocals = 2) (hown : s.vm.findClass RX0 = some m.cls) (hts : ∀ w ∈ gT, w.before args s = true) (hnw : ∀ w ∈ nT, va_Nw w s) (hK : va_K D vwCl (tysM cy) s) (hao : AOs s) (hR : R = rmC 2 45 219)
    (kend : ∀ (E2 : Nat → va_E) (H : Heap) (locs : List Loc) (ls : Array Slot), PW a0 (q + 46) D E2 H → (∀ k, k < q → E2 k = E k) → E2 q = .inr (0, [.ref (a0 + (q + 1)), .ref (a0 + (q + 5)), .int 0]) → (∀ k, q < k → k < q + 6 → k ≠ q + 5 → E2 k = mid k) → E2 (q + 5) = .inl (cy 4, 10, .inr (.inr (.inr (.inr (fun j => if j < 10 then some (a0 + (q + 6 + 4 * j)) else none))))) → (∀ k, q + 6 ≤ k → k < q + 46 → E2 k = Fz a0 cy k) → va_S (fun q => a0 ≤ q) s.heap H locs → W p l e R s m args below meth c H locs 45 219 Q (F0 m 56 ls [])) : ∀ (r i : Nat), i + r = 10 → ∀ (E2 : Nat → va_E) (H : Heap) (locs : List Loc) (ls : Array Slot), PW a0 (q + 6 + 4 * i) D E2 H → (∀ k, k < q → E2 k = E k) → E2 q = .inr (0, [.ref (a0 + (q + 1)), .ref (a0 + (q + 5)), .int 0]) → (∀ k, q < k → k < q + 6 → k ≠ q + 5 → E2 k = mid k) → E2 (q + 5) = .inl (cy 4, 10, .inr (.inr (.inr (.inr (fun j => if j < i then some (a0 + (q + 6 + 4 * j)) else none))))) → (∀ k, q + 6 ≤ k → k < q + 6 + 4 * i → E2 k = Fz a0 cy k) → va_S (fun q => a0 ≤ q) s.heap H locs → lv_has ls 2 [(1, .int (nI i)), (0, .ref (a0 + q))] → W p l e R s m args below meth c H locs (5 + 4 * i) (29 + 19 * i) Q (F0 m 31 ls []) := by
  intro r
  induction r with
  | zero =>
    intro i hi E2 H locs ls hP hA hB hC hD hF hS hl
    have hi2 : i = 10 := by omega
    subst hi2
    refine lv_iload_n hx hb dX0_init_31 rfl (lv_at hl 0 rfl) ?_
    refine (lv_bipush (v := 10) hx hb dX0_init_32 (by decide) ?_)
    refine lv_icmp_ge (tgt := 56) hx hb dX0_init_34 (by decide) (fun _ => ?_) (fun z => absurd (show (10 : Int32) ≤ nI 10 from nI_le (Nat.le_refl _) (by decide)) z)
    exact kend E2 H locs ls hP hA hB hC hD hF hS
  | succ r ih =>
    intro i hi E2 H locs ls hP hA hB hC hD hF hS hl
    have hlt : i < 10 := by omega
    refine lv_iload_n hx hb dX0_init_31 rfl (lv_at hl 0 rfl) ?_
    refine (lv_bipush (v := 10) hx hb dX0_init_32 (by decide) ?_)
    refine lv_icmp_ge (tgt := 56) hx hb dX0_init_34 (by decide) (fun z => absurd (show nI i < (10 : Int32) from nI_lt hlt (by decide)) (Int32.not_lt.mpr z)) (fun _ => ?_)
    refine lv_aload_n hx hb dX0_init_37 rfl (lv_at hl 1 rfl) ?_
    refine pw_get (k := 1) (q := q) (v := .ref (a0 + (q + 5))) hx hb hown hts hK (ci := 0) (C := RX0) (T := TX0) (N := 3) rfl (by decide) fwX0_18 hB (by omega) rfl hP dX0_init_38 ?_
    refine lv_iload_n hx hb dX0_init_41 rfl (lv_at hl 0 rfl) ?_
    refine pw_new hx hb hown hts hK (ci := 3) (C := RX3) (T := TX3) (N := 4) rfl in3d nwX0_9a in3b in3c hP hS (by rw [hR]; show _ ≤ 45; omega) (by rw [hR]; show _ ≤ 219; omega) dX0_init_42 (fun H E3 hP hN3 hO3 hS => ?_)
    refine lv_dup hx hb dX0_init_45 rfl ?_
    refine pw_call (q := q + 6 + 4 * i) (rest := [.ref (a0 + (q + 6 + 4 * i)), .int (nI i), .ref (a0 + (q + 5))]) hx hb hml hl.1 hown hts hnw hK hao ciwX0_11 (by decide) (c_X3_init a0 (q + 6 + 4 * i) (hkn i hlt)) hN3 rfl (by rw [hR]; exact Nat.le_of_ble_eq_true rfl) (by rw [hR]; exact Nat.le_of_ble_eq_true rfl) (by rw [hR]; show _ ≤ 45; omega) (by rw [hR]; show _ ≤ 219; omega) (Nat.le_of_ble_eq_true rfl) hP hS dX0_init_46 (fun H E4 locs hP hO4 hN4 hS => ?_)
    have hv4 : E4 (q + 6 + 4 * i) = .inr (3, fl a0 μ0 (q + 6 + 4 * i) 3) := (hN4 _ (by omega) (by omega)).trans (Fz_O (hkn i hlt) (by decide) rfl)
    refine pw_aast hx hb hK (r := (RX3, TX3, 4)) (ci := 3) rfl 4 rfl (q := q + 5) (v := q + 6 + 4 * i) ((hO4 _ (by omega)).trans ((hO3 _ (by omega)).trans hD)) (by omega) hv4 (by omega) (vp_in_nI hlt (by decide)) hP hS dX0_init_49 (fun H E5 locs hP hN5 hO5 hS => ?_)
    rw [up_refs (by omega) (fun j => a0 + (q + 6 + 4 * j))] at hN5
    refine lv_iinc (k := 0) (v := nI (i + 1)) (lv' := [(1, .int (nI (i + 1))), (0, .ref (a0 + q))]) hx hb dX0_init_50 hl rfl (nI_1 i) (by decide) rfl (fun ls hl => ?_)
    refine lv_goto (tgt := 31) hx hb dX0_init_53 (by decide) ?_
    refine W.cs (cells' := 5 + 4 * (i + 1)) (slots' := 29 + 19 * (i + 1)) (by omega) (by omega) ?_
    have e9 : q + 6 + 4 * i + 1 + 3 = q + 6 + 4 * (i + 1) := by omega
    have hP : PW a0 (q + 6 + 4 * (i + 1)) D E5 H := by rw [← e9]; exact hP
    refine ih (i + 1) (by omega) E5 H locs ls hP (fun k h1 => by rw [hO5 _ (by omega), hO4 _ (by omega), hO3 _ (by omega)]; exact hA k h1) (by rw [hO5 _ (by omega), hO4 _ (by omega), hO3 _ (by omega)]; exact hB) (fun k h1 h2 h3 => by rw [hO5 _ (by omega), hO4 _ (by omega), hO3 _ (by omega)]; exact hC k h1 h2 h3) hN5 (fun k h1 h2 => ?_) hS hl
    by_cases hk2 : k < q + 6 + 4 * i
    · rw [hO5 _ (by omega), hO4 _ (by omega), hO3 _ (by omega)]; exact hF k h1 hk2
    · rw [hO5 _ (by omega)]; exact hN4 k (by omega) (by omega)

set_option maxRecDepth 100000 in
set_option maxHeartbeats 4000000 in
theorem c_X0_init (a0 q : Nat) (hk : kd q = 0) : Cc a0 q yX0_init cX0_init 2 2 45 219 0 [.null, .null, .int 0] := by
  intro l cy D E hE
  refine Met.ofW (cc := cX0_init) (maxL := 2) (ret := none) (by decide +kernel) rfl ?_
  intro p e s m args below meth c s₁ B hml hv
  obtain ⟨rfl, hP, hK, hnw, hao⟩ := hv
  have hts0 := atoms_spec (ws := .code yX0_init cX0_init 2 none :: gT) B.pre
  have hts : ∀ w ∈ gT, w.before _ s = true := fun w h => hts0 w (List.mem_cons_of_mem _ h)
  have hx := B.exec
  have hb := B.bytes
  have hr := B.returns
  have hlocks := B.notSynchronized
  have hown : s.vm.findClass RX0 = some m.cls := findClass_of_methodNamed B.named
  have hin : meth.name = "<init>" := (name_of_methodNamed B.named B.method).1
  have hS : va_S (fun q => a0 ≤ q) s.heap s.heap [] := va_S.rf
  have hl := lv_entry ([.ref (a0 + q)]) (n := 2) (Nat.le_of_ble_eq_true rfl)
  rw [lg_entry_eq]
  generalize (lg_sl ([.ref (a0 + q)]) ++ List.replicate (2 - (lg_sl ([.ref (a0 + q)])).length) Slot.unset).toArray = ls at hl ⊢
  have hl : lv_has ls 2 [(0, .ref (a0 + q))] := hl
  refine lv_aload_n hx hb dX0_init_0 rfl (lv_at hl 0 rfl) ?_
  refine pw_objInit hx hb (hml.trans hl.1.symm) hown hts (gT_of 130 (by decide +kernel) (by decide +kernel)) oi2 oi3 (Nat.le_of_ble_eq_true rfl) (Nat.le_of_ble_eq_true rfl) dX0_init_1 ?_
  refine lv_aload_n hx hb dX0_init_4 rfl (lv_at hl 0 rfl) ?_
  refine pw_new hx hb hown hts hK (ci := 3) (C := RX3) (T := TX3) (N := 4) rfl in3d nwX0_9a in3b in3c hP hS (Nat.le_of_ble_eq_true rfl) (Nat.le_of_ble_eq_true rfl) dX0_init_5 (fun H E1 hP hN1 hO1 hS => ?_)
  have hP : PW a0 (q + 2) D E1 H := hP
  have hq1 : E1 (q) = .inr (0, [.null, .null, .int 0]) := (hO1 _ (by omega)).trans hE
  refine lv_dup hx hb dX0_init_8 rfl ?_
  refine pw_call (q := q + 1) (rest := [.ref (a0 + (q + 1)), .ref (a0 + q)]) hx hb hml hl.1 hown hts hnw hK hao ciwX0_11 (by decide) (c_X3_init a0 (q + 1) (kz_0_1 hk)) hN1 rfl (Nat.le_of_ble_eq_true rfl) (Nat.le_of_ble_eq_true rfl) (Nat.le_of_ble_eq_true rfl) (Nat.le_of_ble_eq_true rfl) (Nat.le_of_ble_eq_true rfl) hP hS dX0_init_9 (fun H E2 locs hP hO2 hN2 hS => ?_)
  have hP : PW a0 (q + 5) D E2 H := hP
  have hq2 : E2 (q) = .inr (0, [.null, .null, .int 0]) := (hO2 _ (by omega)).trans hq1
  refine pw_putF (k := 0) (q := q) (ty := (.object "ElbowRanks$Moment")) (v := .ref (a0 + (q + 1))) hx hb hown hts hK (ci := 0) (C := RX0) (T := TX0) (N := 3) rfl (by decide) rfl hin rfl fwX0_12 hq2 (by omega) (by decide +kernel) rfl rfl (Nat.le_of_ble_eq_true rfl) hP hS dX0_init_12 (fun H E3 locs hP hN3 hO3 hS => ?_)
  have hq3 : E3 (q) = .inr (0, [.ref (a0 + (q + 1)), .null, .int 0]) := hN3
  refine lv_aload_n hx hb dX0_init_15 rfl (lv_at hl 0 rfl) ?_
  refine lv_bipush (v := 10) hx hb dX0_init_16 (by decide) ?_
  refine pw_newq hx hb hown hts hK (C := RX3) hao.2 4 rfl nwX0_9a 10 (by decide) (by decide) (by decide) hP hS (Nat.le_of_ble_eq_true rfl) (Nat.le_of_ble_eq_true rfl) dX0_init_18 (fun H E4 hP hN4 hO4 hS => ?_)
  have hP : PW a0 (q + 6) D E4 H := hP
  have hq4 : E4 (q) = .inr (0, [.ref (a0 + (q + 1)), .null, .int 0]) := (hO4 _ (by omega)).trans hq3
  refine pw_putF (k := 1) (q := q) (ty := (.array (.object "ElbowRanks$Moment"))) (v := .ref (a0 + (q + 5))) hx hb hown hts hK (ci := 0) (C := RX0) (T := TX0) (N := 3) rfl (by decide) rfl hin rfl fwX0_18 hq4 (by omega) (by decide +kernel) rfl rfl (Nat.le_of_ble_eq_true rfl) hP hS dX0_init_21 (fun H E5 locs hP hN5 hO5 hS => ?_)
  have hq5 : E5 (q) = .inr (0, [.ref (a0 + (q + 1)), .ref (a0 + (q + 5)), .int 0]) := hN5
  refine lv_aload_n hx hb dX0_init_24 rfl (lv_at hl 0 rfl) ?_
  refine lv_iconst (v := 0) hx hb dX0_init_25 (by decide) ?_
  refine pw_put (k := 2) (q := q) (ty := .int) (v := .int 0) hx hb hown hts hK (ci := 0) (C := RX0) (T := TX0) (N := 3) rfl (by decide) rfl fwX0_22 hq5 (by omega) (by decide +kernel) rfl rfl (Nat.le_of_ble_eq_true rfl) hP hS dX0_init_26 (fun H E6 locs hP hN6 hO6 hS => ?_)
  have hq6 : E6 (q) = .inr (0, [.ref (a0 + (q + 1)), .ref (a0 + (q + 5)), .int 0]) := hN6
  refine lv_iconst (v := 0) hx hb dX0_init_29 (by decide) ?_
  refine lv_istore_n (lv' := [(1, .int 0), (0, .ref (a0 + q))]) hx hb dX0_init_30 rfl hl (by decide) rfl (fun ls hl => ?_)
  refine loop_X0 (q := q) (E := E) (mid := Fz a0 cy) hk (fun i hi => kd_course hk hi) hx hb hml hown hts hnw hK hao rfl ?_ 10 0 rfl E6 H locs ls hP (fun k h1 => by rw [hO6 _ (by omega), hO5 _ (by omega), hO4 _ (by omega), hO3 _ (by omega), hO2 _ (by omega), hO1 _ (by omega)]) hq6 (fun k h1 h2 h3 => ?_) ?_ (fun k h1 h2 => by omega) hS hl
  · intro E2 H locs ls hP hA hB hC hD hF hS
    have hP2 : PW a0 (q + 46) D (fun k => if k = q + 5 then Fz a0 cy (q + 5) else E2 k) H := by
      refine PW_of (fun k h1 => ?_) hP.2
      by_cases h2 : k = q + 5
      · subst h2
        show va_at D vwCl (a0 + (q + 5), if q + 5 = q + 5 then Fz a0 cy (q + 5) else _) H
        rw [if_pos rfl]
        have h3 := PW_at hP h1
        rw [hD] at h3
        have h4 : Fz a0 cy (q + 5) = .inl (cy 4, 10, .inr (.inr (.inr (.inr (fun j => some (a0 + gR μ0 (q + 5) j)))))) := by
          unfold Fz
          rw [kz_0_5 hk]
          exact ent_M (n := 10) (by decide)
        rw [h4]
        refine at_refs (fun j hj => ?_) h3
        rw [if_pos hj]
        have h5 : gR μ0 (q + 5) j = q + 5 + 1 + 4 * j := by
          simp [gR, μ0, kz_0_5 hk]
        rw [h5]
      · show va_at D vwCl (a0 + k, if k = q + 5 then Fz a0 cy (q + 5) else E2 k) H
        rw [if_neg h2]
        exact PW_at hP h1
    refine W.vret hx hb hr (fun t ht _ => ⟨⟨rfl, _, by rw [ht]; exact hP2, fun k h1 => ?_, fun k h1 h2 => ?_⟩, hS.F ht⟩) hS.2.2 dX0_init_56 hlocks
    · show (if k = q + 5 then _ else E2 k) = E k
      rw [if_neg (by omega)]; exact hA k h1
    · show (if k = q + 5 then _ else E2 k) = Fz a0 cy k
      by_cases h3 : k = q + 5
      · rw [if_pos h3, h3]
      · rw [if_neg h3]
        by_cases h4 : k = q
        · subst h4; rw [hB]; exact (Fz_O hk (by decide) (by simp [fl, gI, gR, gL, μ0, hk])).symm
        · by_cases h5 : k < q + 6
          · exact hC k (by omega) h5 h3
          · exact hF k (by omega) h2
  · exact (by rw [hO6 _ (by omega), hO5 _ (by omega), hO4 _ (by omega), hO3 _ (by omega)]; exact hN2 k (by omega) (by omega))
  · rw [hO6 _ (by omega), hO5 _ (by omega), hN4, va_up0 (fun j => a0 + (q + 6 + 4 * j))]

theorem kd_er {q : Nat} (hk : kd q = 8) {i : Nat} (hi : i < 2) : kd (q + 74 + 46 * i) = 0 := by
  have h : (List.range 185).all (fun q => !(kd q == 8) || (List.range 2).all (fun i => kd (q + 74 + 46 * i) == 0)) = true := by decide +kernel
  have h1 := List.all_eq_true.mp h q (List.mem_range.mpr (kd_lt hk (by decide)))
  simp only [hk, beq_self_eq_true, Bool.not_true, Bool.false_or] at h1
  have h2 := List.all_eq_true.mp h1 i (List.mem_range.mpr hi)
  simpa using h2
theorem kd_8 {q : Nat} (hk : kd q = 8) : q = 0 := by
  have h : (List.range 185).all (fun q => !(kd q == 8) || q == 0) = true := by decide +kernel
  have h1 := List.all_eq_true.mp h q (List.mem_range.mpr (kd_lt hk (by decide)))
  simpa [hk] using h1
set_option maxRecDepth 100000 in
set_option maxHeartbeats 4000000 in
theorem loop_X8 {p : Program} {l : Launch} {e : Env} {R : Room} {s : State} {m : MethodId} {args : Array Value} {below : List Frame} {meth : Method} {c : Code} {Q : State → Prop} {cy : Nat → ClassId} {D : va_G} {a0 q : Nat} {E : Nat → va_E} {mid : Nat → va_E} (hk : kd q = 8) (hkn : ∀ i, i < 2 → kd (q + 74 + 46 * i) = 0) (hx : p.tables.exec = Jvm.exec) (hb : c.code = cX8_init) (hml : c.maxLocals = 2) (hown : s.vm.findClass RX8 = some m.cls) (hts : ∀ w ∈ gT, w.before args s = true) (hnw : ∀ w ∈ nT, va_Nw w s) (hK : va_K D vwCl (tysM cy) s) (hao : AOs s) (hR : R = rmC 3 165 970)
    (kend : ∀ (E2 : Nat → va_E) (H : Heap) (locs : List Loc) (ls : Array Slot), PW a0 (q + 166) D E2 H → (∀ k, k < q → E2 k = E k) → E2 q = .inr (8, [.ref (a0 + (q + 1)), .ref (a0 + (q + 4)), .ref (a0 + (q + 10)), .ref (a0 + (q + 16)), .ref (a0 + (q + 62)), .ref (a0 + (q + 63)), .ref (a0 + (q + 64)), .ref (a0 + (q + 67)), .ref (a0 + (q + 70)), .long 0]) → (∀ k, q < k → k < q + 74 → k ≠ q + 62 → E2 k = mid k) → E2 (q + 62) = .inl (cy 3, 2, .inr (.inr (.inr (.inr (fun j => if j < 2 then some (a0 + (q + 74 + 46 * j)) else none))))) → (∀ k, q + 74 ≤ k → k < q + 166 → E2 k = Fz a0 cy k) → va_S (fun q => a0 ≤ q) s.heap H locs → W p l e R s m args below meth c H locs 165 970 Q (F0 m 127 ls [])) : ∀ (r i : Nat), i + r = 2 → ∀ (E2 : Nat → va_E) (H : Heap) (locs : List Loc) (ls : Array Slot), PW a0 (q + 74 + 46 * i) D E2 H → (∀ k, k < q → E2 k = E k) → E2 q = .inr (8, [.ref (a0 + (q + 1)), .ref (a0 + (q + 4)), .ref (a0 + (q + 10)), .ref (a0 + (q + 16)), .ref (a0 + (q + 62)), .ref (a0 + (q + 63)), .ref (a0 + (q + 64)), .ref (a0 + (q + 67)), .ref (a0 + (q + 70)), .long 0]) → (∀ k, q < k → k < q + 74 → k ≠ q + 62 → E2 k = mid k) → E2 (q + 62) = .inl (cy 3, 2, .inr (.inr (.inr (.inr (fun j => if j < i then some (a0 + (q + 74 + 46 * j)) else none))))) → (∀ k, q + 74 ≤ k → k < q + 74 + 46 * i → E2 k = Fz a0 cy k) → va_S (fun q => a0 ≤ q) s.heap H locs → lv_has ls 2 [(1, .int (nI i)), (0, .ref (a0 + q))] → W p l e R s m args below meth c H locs (73 + 46 * i) (526 + 222 * i) Q (F0 m 103 ls []) := by
  intro r
  induction r with
  | zero =>
    intro i hi E2 H locs ls hP hA hB hC hD hF hS hl
    have hi2 : i = 2 := by omega
    subst hi2
    refine lv_iload_n hx hb dX8_init_103 rfl (lv_at hl 0 rfl) ?_
    refine (lv_iconst (v := 2) hx hb dX8_init_104 (by decide) ?_)
    refine lv_icmp_ge (tgt := 127) hx hb dX8_init_105 (by decide) (fun _ => ?_) (fun z => absurd (show (2 : Int32) ≤ nI 2 from nI_le (Nat.le_refl _) (by decide)) z)
    exact kend E2 H locs ls hP hA hB hC hD hF hS
  | succ r ih =>
    intro i hi E2 H locs ls hP hA hB hC hD hF hS hl
    have hlt : i < 2 := by omega
    refine lv_iload_n hx hb dX8_init_103 rfl (lv_at hl 0 rfl) ?_
    refine (lv_iconst (v := 2) hx hb dX8_init_104 (by decide) ?_)
    refine lv_icmp_ge (tgt := 127) hx hb dX8_init_105 (by decide) (fun z => absurd (show nI i < (2 : Int32) from nI_lt hlt (by decide)) (Int32.not_lt.mpr z)) (fun _ => ?_)
    refine lv_aload_n hx hb dX8_init_108 rfl (lv_at hl 1 rfl) ?_
    refine pw_get (k := 4) (q := q) (v := .ref (a0 + (q + 62))) hx hb hown hts hK (ci := 8) (C := RX8) (T := TX8) (N := 10) rfl (by decide) fwX8_33 hB (by omega) rfl hP dX8_init_109 ?_
    refine lv_iload_n hx hb dX8_init_112 rfl (lv_at hl 0 rfl) ?_
    refine pw_new hx hb hown hts hK (ci := 0) (C := RX0) (T := TX0) (N := 3) rfl in0d nwX8_26a in0b in0c hP hS (by rw [hR]; show _ ≤ 165; omega) (by rw [hR]; show _ ≤ 970; omega) dX8_init_113 (fun H E3 hP hN3 hO3 hS => ?_)
    refine lv_dup hx hb dX8_init_116 rfl ?_
    refine pw_call (q := q + 74 + 46 * i) (rest := [.ref (a0 + (q + 74 + 46 * i)), .int (nI i), .ref (a0 + (q + 62))]) hx hb hml hl.1 hown hts hnw hK hao ciwX8_28 (by decide) (c_X0_init a0 (q + 74 + 46 * i) (hkn i hlt)) hN3 rfl (by rw [hR]; exact Nat.le_of_ble_eq_true rfl) (by rw [hR]; exact Nat.le_of_ble_eq_true rfl) (by rw [hR]; show _ ≤ 165; omega) (by rw [hR]; show _ ≤ 970; omega) (Nat.le_of_ble_eq_true rfl) hP hS dX8_init_117 (fun H E4 locs hP hO4 hN4 hS => ?_)
    have hv4 : E4 (q + 74 + 46 * i) = .inr (0, fl a0 μ0 (q + 74 + 46 * i) 0) := (hN4 _ (by omega) (by omega)).trans (Fz_O (hkn i hlt) (by decide) rfl)
    refine pw_aast hx hb hK (r := (RX0, TX0, 3)) (ci := 0) rfl 3 rfl (q := q + 62) (v := q + 74 + 46 * i) ((hO4 _ (by omega)).trans ((hO3 _ (by omega)).trans hD)) (by omega) hv4 (by omega) (vp_in_nI hlt (by decide)) hP hS dX8_init_120 (fun H E5 locs hP hN5 hO5 hS => ?_)
    rw [up_refs (by omega) (fun j => a0 + (q + 74 + 46 * j))] at hN5
    refine lv_iinc (k := 0) (v := nI (i + 1)) (lv' := [(1, .int (nI (i + 1))), (0, .ref (a0 + q))]) hx hb dX8_init_121 hl rfl (nI_1 i) (by decide) rfl (fun ls hl => ?_)
    refine lv_goto (tgt := 103) hx hb dX8_init_124 (by decide) ?_
    refine W.cs (cells' := 73 + 46 * (i + 1)) (slots' := 526 + 222 * (i + 1)) (by omega) (by omega) ?_
    have e9 : q + 74 + 46 * i + 1 + 45 = q + 74 + 46 * (i + 1) := by omega
    have hP : PW a0 (q + 74 + 46 * (i + 1)) D E5 H := by rw [← e9]; exact hP
    refine ih (i + 1) (by omega) E5 H locs ls hP (fun k h1 => by rw [hO5 _ (by omega), hO4 _ (by omega), hO3 _ (by omega)]; exact hA k h1) (by rw [hO5 _ (by omega), hO4 _ (by omega), hO3 _ (by omega)]; exact hB) (fun k h1 h2 h3 => by rw [hO5 _ (by omega), hO4 _ (by omega), hO3 _ (by omega)]; exact hC k h1 h2 h3) hN5 (fun k h1 h2 => ?_) hS hl
    by_cases hk2 : k < q + 74 + 46 * i
    · rw [hO5 _ (by omega), hO4 _ (by omega), hO3 _ (by omega)]; exact hF k h1 hk2
    · rw [hO5 _ (by omega)]; exact hN4 k (by omega) (by omega)

set_option maxRecDepth 100000 in
set_option maxHeartbeats 4000000 in
theorem c_X8_init (a0 q : Nat) (hk : kd q = 8) : Cc a0 q yX8_init cX8_init 2 3 165 970 8 [.null, .null, .null, .null, .null, .null, .null, .null, .null, .long 0] := by
  intro l cy D E hE
  refine Met.ofW (cc := cX8_init) (maxL := 2) (ret := none) (by decide +kernel) rfl ?_
  intro p e s m args below meth c s₁ B hml hv
  obtain ⟨rfl, hP, hK, hnw, hao⟩ := hv
  have hts0 := atoms_spec (ws := .code yX8_init cX8_init 2 none :: gT) B.pre
  have hts : ∀ w ∈ gT, w.before _ s = true := fun w h => hts0 w (List.mem_cons_of_mem _ h)
  have hx := B.exec
  have hb := B.bytes
  have hr := B.returns
  have hlocks := B.notSynchronized
  have hown : s.vm.findClass RX8 = some m.cls := findClass_of_methodNamed B.named
  have hin : meth.name = "<init>" := (name_of_methodNamed B.named B.method).1
  have hS : va_S (fun q => a0 ≤ q) s.heap s.heap [] := va_S.rf
  have hl := lv_entry ([.ref (a0 + q)]) (n := 2) (Nat.le_of_ble_eq_true rfl)
  rw [lg_entry_eq]
  generalize (lg_sl ([.ref (a0 + q)]) ++ List.replicate (2 - (lg_sl ([.ref (a0 + q)])).length) Slot.unset).toArray = ls at hl ⊢
  have hl : lv_has ls 2 [(0, .ref (a0 + q))] := hl
  refine lv_aload_n hx hb dX8_init_0 rfl (lv_at hl 0 rfl) ?_
  refine pw_objInit hx hb (hml.trans hl.1.symm) hown hts (gT_of 18 (by decide +kernel) (by decide +kernel)) oi2 oi3 (Nat.le_of_ble_eq_true rfl) (Nat.le_of_ble_eq_true rfl) dX8_init_1 ?_
  refine lv_aload_n hx hb dX8_init_4 rfl (lv_at hl 0 rfl) ?_
  refine pw_new hx hb hown hts hK (ci := 4) (C := RX4) (T := TX4) (N := 7) rfl in4d nwX8_7a in4b in4c hP hS (Nat.le_of_ble_eq_true rfl) (Nat.le_of_ble_eq_true rfl) dX8_init_5 (fun H E1 hP hN1 hO1 hS => ?_)
  have hP : PW a0 (q + 2) D E1 H := hP
  have hq1 : E1 (q) = .inr (8, [.null, .null, .null, .null, .null, .null, .null, .null, .null, .long 0]) := (hO1 _ (by omega)).trans hE
  refine lv_dup hx hb dX8_init_8 rfl ?_
  refine pw_call (q := q + 1) (rest := [.ref (a0 + (q + 1)), .ref (a0 + q)]) hx hb hml hl.1 hown hts hnw hK hao ciwX8_9 (by decide) (c_X4_init a0 (q + 1) (kz_8_1 hk)) hN1 rfl (Nat.le_of_ble_eq_true rfl) (Nat.le_of_ble_eq_true rfl) (Nat.le_of_ble_eq_true rfl) (Nat.le_of_ble_eq_true rfl) (Nat.le_of_ble_eq_true rfl) hP hS dX8_init_9 (fun H E2 locs hP hO2 hN2 hS => ?_)
  have hP : PW a0 (q + 4) D E2 H := hP
  have hq2 : E2 (q) = .inr (8, [.null, .null, .null, .null, .null, .null, .null, .null, .null, .long 0]) := (hO2 _ (by omega)).trans hq1
  refine pw_putF (k := 0) (q := q) (ty := (.object "ElbowRanks$Reader")) (v := .ref (a0 + (q + 1))) hx hb hown hts hK (ci := 8) (C := RX8) (T := TX8) (N := 10) rfl (by decide) rfl hin rfl fwX8_10 hq2 (by omega) (by decide +kernel) rfl rfl (Nat.le_of_ble_eq_true rfl) hP hS dX8_init_12 (fun H E3 locs hP hN3 hO3 hS => ?_)
  have hq3 : E3 (q) = .inr (8, [.ref (a0 + (q + 1)), .null, .null, .null, .null, .null, .null, .null, .null, .long 0]) := hN3
  refine lv_aload_n hx hb dX8_init_15 rfl (lv_at hl 0 rfl) ?_
  refine pw_new hx hb hown hts hK (ci := 7) (C := RX7) (T := TX7) (N := 10) rfl in7d nwX8_16a in7b in7c hP hS (Nat.le_of_ble_eq_true rfl) (Nat.le_of_ble_eq_true rfl) dX8_init_16 (fun H E4 hP hN4 hO4 hS => ?_)
  have hP : PW a0 (q + 5) D E4 H := hP
  have hq4 : E4 (q) = .inr (8, [.ref (a0 + (q + 1)), .null, .null, .null, .null, .null, .null, .null, .null, .long 0]) := (hO4 _ (by omega)).trans hq3
  refine lv_dup hx hb dX8_init_19 rfl ?_
  refine pw_call (q := q + 4) (rest := [.ref (a0 + (q + 4)), .ref (a0 + q)]) hx hb hml hl.1 hown hts hnw hK hao ciwX8_18 (by decide) (c_X7_init a0 (q + 4) (kz_8_4 hk)) hN4 rfl (Nat.le_of_ble_eq_true rfl) (Nat.le_of_ble_eq_true rfl) (Nat.le_of_ble_eq_true rfl) (Nat.le_of_ble_eq_true rfl) (Nat.le_of_ble_eq_true rfl) hP hS dX8_init_20 (fun H E5 locs hP hO5 hN5 hS => ?_)
  have hP : PW a0 (q + 10) D E5 H := hP
  have hq5 : E5 (q) = .inr (8, [.ref (a0 + (q + 1)), .null, .null, .null, .null, .null, .null, .null, .null, .long 0]) := (hO5 _ (by omega)).trans hq4
  refine pw_put (k := 1) (q := q) (ty := (.object "ElbowRanks$Told")) (v := .ref (a0 + (q + 4))) hx hb hown hts hK (ci := 8) (C := RX8) (T := TX8) (N := 10) rfl (by decide) rfl fwX8_19 hq5 (by omega) (by decide +kernel) rfl rfl (Nat.le_of_ble_eq_true rfl) hP hS dX8_init_23 (fun H E6 locs hP hN6 hO6 hS => ?_)
  have hq6 : E6 (q) = .inr (8, [.ref (a0 + (q + 1)), .ref (a0 + (q + 4)), .null, .null, .null, .null, .null, .null, .null, .long 0]) := hN6
  refine lv_aload_n hx hb dX8_init_26 rfl (lv_at hl 0 rfl) ?_
  refine pw_new hx hb hown hts hK (ci := 7) (C := RX7) (T := TX7) (N := 10) rfl in7d nwX8_16a in7b in7c hP hS (Nat.le_of_ble_eq_true rfl) (Nat.le_of_ble_eq_true rfl) dX8_init_27 (fun H E7 hP hN7 hO7 hS => ?_)
  have hP : PW a0 (q + 11) D E7 H := hP
  have hq7 : E7 (q) = .inr (8, [.ref (a0 + (q + 1)), .ref (a0 + (q + 4)), .null, .null, .null, .null, .null, .null, .null, .long 0]) := (hO7 _ (by omega)).trans hq6
  refine lv_dup hx hb dX8_init_30 rfl ?_
  refine pw_call (q := q + 10) (rest := [.ref (a0 + (q + 10)), .ref (a0 + q)]) hx hb hml hl.1 hown hts hnw hK hao ciwX8_18 (by decide) (c_X7_init a0 (q + 10) (kz_8_10 hk)) hN7 rfl (Nat.le_of_ble_eq_true rfl) (Nat.le_of_ble_eq_true rfl) (Nat.le_of_ble_eq_true rfl) (Nat.le_of_ble_eq_true rfl) (Nat.le_of_ble_eq_true rfl) hP hS dX8_init_31 (fun H E8 locs hP hO8 hN8 hS => ?_)
  have hP : PW a0 (q + 16) D E8 H := hP
  have hq8 : E8 (q) = .inr (8, [.ref (a0 + (q + 1)), .ref (a0 + (q + 4)), .null, .null, .null, .null, .null, .null, .null, .long 0]) := (hO8 _ (by omega)).trans hq7
  refine pw_put (k := 2) (q := q) (ty := (.object "ElbowRanks$Told")) (v := .ref (a0 + (q + 10))) hx hb hown hts hK (ci := 8) (C := RX8) (T := TX8) (N := 10) rfl (by decide) rfl fwX8_23 hq8 (by omega) (by decide +kernel) rfl rfl (Nat.le_of_ble_eq_true rfl) hP hS dX8_init_34 (fun H E9 locs hP hN9 hO9 hS => ?_)
  have hq9 : E9 (q) = .inr (8, [.ref (a0 + (q + 1)), .ref (a0 + (q + 4)), .ref (a0 + (q + 10)), .null, .null, .null, .null, .null, .null, .long 0]) := hN9
  refine lv_aload_n hx hb dX8_init_37 rfl (lv_at hl 0 rfl) ?_
  refine pw_new hx hb hown hts hK (ci := 0) (C := RX0) (T := TX0) (N := 3) rfl in0d nwX8_26a in0b in0c hP hS (Nat.le_of_ble_eq_true rfl) (Nat.le_of_ble_eq_true rfl) dX8_init_38 (fun H E10 hP hN10 hO10 hS => ?_)
  have hP : PW a0 (q + 17) D E10 H := hP
  have hq10 : E10 (q) = .inr (8, [.ref (a0 + (q + 1)), .ref (a0 + (q + 4)), .ref (a0 + (q + 10)), .null, .null, .null, .null, .null, .null, .long 0]) := (hO10 _ (by omega)).trans hq9
  refine lv_dup hx hb dX8_init_41 rfl ?_
  refine pw_call (q := q + 16) (rest := [.ref (a0 + (q + 16)), .ref (a0 + q)]) hx hb hml hl.1 hown hts hnw hK hao ciwX8_28 (by decide) (c_X0_init a0 (q + 16) (kz_8_16 hk)) hN10 rfl (Nat.le_of_ble_eq_true rfl) (Nat.le_of_ble_eq_true rfl) (Nat.le_of_ble_eq_true rfl) (Nat.le_of_ble_eq_true rfl) (Nat.le_of_ble_eq_true rfl) hP hS dX8_init_42 (fun H E11 locs hP hO11 hN11 hS => ?_)
  have hP : PW a0 (q + 62) D E11 H := hP
  have hq11 : E11 (q) = .inr (8, [.ref (a0 + (q + 1)), .ref (a0 + (q + 4)), .ref (a0 + (q + 10)), .null, .null, .null, .null, .null, .null, .long 0]) := (hO11 _ (by omega)).trans hq10
  refine pw_putF (k := 3) (q := q) (ty := (.object "ElbowRanks$Course")) (v := .ref (a0 + (q + 16))) hx hb hown hts hK (ci := 8) (C := RX8) (T := TX8) (N := 10) rfl (by decide) rfl hin rfl fwX8_29 hq11 (by omega) (by decide +kernel) rfl rfl (Nat.le_of_ble_eq_true rfl) hP hS dX8_init_45 (fun H E12 locs hP hN12 hO12 hS => ?_)
  have hq12 : E12 (q) = .inr (8, [.ref (a0 + (q + 1)), .ref (a0 + (q + 4)), .ref (a0 + (q + 10)), .ref (a0 + (q + 16)), .null, .null, .null, .null, .null, .long 0]) := hN12
  refine lv_aload_n hx hb dX8_init_48 rfl (lv_at hl 0 rfl) ?_
  refine lv_iconst (v := 2) hx hb dX8_init_49 (by decide) ?_
  refine pw_newq hx hb hown hts hK (C := RX0) hao.1 3 rfl nwX8_26a 2 (by decide) (by decide) (by decide) hP hS (Nat.le_of_ble_eq_true rfl) (Nat.le_of_ble_eq_true rfl) dX8_init_50 (fun H E13 hP hN13 hO13 hS => ?_)
  have hP : PW a0 (q + 63) D E13 H := hP
  have hq13 : E13 (q) = .inr (8, [.ref (a0 + (q + 1)), .ref (a0 + (q + 4)), .ref (a0 + (q + 10)), .ref (a0 + (q + 16)), .null, .null, .null, .null, .null, .long 0]) := (hO13 _ (by omega)).trans hq12
  refine pw_putF (k := 4) (q := q) (ty := (.array (.object "ElbowRanks$Course"))) (v := .ref (a0 + (q + 62))) hx hb hown hts hK (ci := 8) (C := RX8) (T := TX8) (N := 10) rfl (by decide) rfl hin rfl fwX8_33 hq13 (by omega) (by decide +kernel) rfl rfl (Nat.le_of_ble_eq_true rfl) hP hS dX8_init_53 (fun H E14 locs hP hN14 hO14 hS => ?_)
  have hq14 : E14 (q) = .inr (8, [.ref (a0 + (q + 1)), .ref (a0 + (q + 4)), .ref (a0 + (q + 10)), .ref (a0 + (q + 16)), .ref (a0 + (q + 62)), .null, .null, .null, .null, .long 0]) := hN14
  refine lv_aload_n hx hb dX8_init_56 rfl (lv_at hl 0 rfl) ?_
  refine lv_iconst (v := 2) hx hb dX8_init_57 (by decide) ?_
  refine pw_newa hx hb hts hK (ty := .boolean) rfl rfl (fun cA h => h) 2 rfl ac_boolean 2 (by decide) (by decide) (by decide) hP hS (Nat.le_of_ble_eq_true rfl) (Nat.le_of_ble_eq_true rfl) dX8_init_58 (fun H E15 hP hN15 hO15 hS => ?_)
  have hP : PW a0 (q + 64) D E15 H := hP
  have hq15 : E15 (q) = .inr (8, [.ref (a0 + (q + 1)), .ref (a0 + (q + 4)), .ref (a0 + (q + 10)), .ref (a0 + (q + 16)), .ref (a0 + (q + 62)), .null, .null, .null, .null, .long 0]) := (hO15 _ (by omega)).trans hq14
  refine pw_putF (k := 5) (q := q) (ty := (.array .boolean)) (v := .ref (a0 + (q + 63))) hx hb hown hts hK (ci := 8) (C := RX8) (T := TX8) (N := 10) rfl (by decide) rfl hin rfl fwX8_37 hq15 (by omega) (by decide +kernel) rfl rfl (Nat.le_of_ble_eq_true rfl) hP hS dX8_init_60 (fun H E16 locs hP hN16 hO16 hS => ?_)
  have hq16 : E16 (q) = .inr (8, [.ref (a0 + (q + 1)), .ref (a0 + (q + 4)), .ref (a0 + (q + 10)), .ref (a0 + (q + 16)), .ref (a0 + (q + 62)), .ref (a0 + (q + 63)), .null, .null, .null, .long 0]) := hN16
  refine lv_aload_n hx hb dX8_init_63 rfl (lv_at hl 0 rfl) ?_
  refine pw_new hx hb hown hts hK (ci := 2) (C := RX2) (T := TX2) (N := 3) rfl in2d nwX8_41a in2b in2c hP hS (Nat.le_of_ble_eq_true rfl) (Nat.le_of_ble_eq_true rfl) dX8_init_64 (fun H E17 hP hN17 hO17 hS => ?_)
  have hP : PW a0 (q + 65) D E17 H := hP
  have hq17 : E17 (q) = .inr (8, [.ref (a0 + (q + 1)), .ref (a0 + (q + 4)), .ref (a0 + (q + 10)), .ref (a0 + (q + 16)), .ref (a0 + (q + 62)), .ref (a0 + (q + 63)), .null, .null, .null, .long 0]) := (hO17 _ (by omega)).trans hq16
  refine lv_dup hx hb dX8_init_67 rfl ?_
  refine pw_call (q := q + 64) (rest := [.ref (a0 + (q + 64)), .ref (a0 + q)]) hx hb hml hl.1 hown hts hnw hK hao ciwX8_43 (by decide) (c_X2_init a0 (q + 64) (kz_8_64 hk)) hN17 rfl (Nat.le_of_ble_eq_true rfl) (Nat.le_of_ble_eq_true rfl) (Nat.le_of_ble_eq_true rfl) (Nat.le_of_ble_eq_true rfl) (Nat.le_of_ble_eq_true rfl) hP hS dX8_init_68 (fun H E18 locs hP hO18 hN18 hS => ?_)
  have hP : PW a0 (q + 67) D E18 H := hP
  have hq18 : E18 (q) = .inr (8, [.ref (a0 + (q + 1)), .ref (a0 + (q + 4)), .ref (a0 + (q + 10)), .ref (a0 + (q + 16)), .ref (a0 + (q + 62)), .ref (a0 + (q + 63)), .null, .null, .null, .long 0]) := (hO18 _ (by omega)).trans hq17
  refine pw_putF (k := 6) (q := q) (ty := (.object "ElbowRanks$Gates")) (v := .ref (a0 + (q + 64))) hx hb hown hts hK (ci := 8) (C := RX8) (T := TX8) (N := 10) rfl (by decide) rfl hin rfl fwX8_44 hq18 (by omega) (by decide +kernel) rfl rfl (Nat.le_of_ble_eq_true rfl) hP hS dX8_init_71 (fun H E19 locs hP hN19 hO19 hS => ?_)
  have hq19 : E19 (q) = .inr (8, [.ref (a0 + (q + 1)), .ref (a0 + (q + 4)), .ref (a0 + (q + 10)), .ref (a0 + (q + 16)), .ref (a0 + (q + 62)), .ref (a0 + (q + 63)), .ref (a0 + (q + 64)), .null, .null, .long 0]) := hN19
  refine lv_aload_n hx hb dX8_init_74 rfl (lv_at hl 0 rfl) ?_
  refine pw_new hx hb hown hts hK (ci := 1) (C := RX1) (T := TX1) (N := 2) rfl in1d nwX8_48a in1b in1c hP hS (Nat.le_of_ble_eq_true rfl) (Nat.le_of_ble_eq_true rfl) dX8_init_75 (fun H E20 hP hN20 hO20 hS => ?_)
  have hP : PW a0 (q + 68) D E20 H := hP
  have hq20 : E20 (q) = .inr (8, [.ref (a0 + (q + 1)), .ref (a0 + (q + 4)), .ref (a0 + (q + 10)), .ref (a0 + (q + 16)), .ref (a0 + (q + 62)), .ref (a0 + (q + 63)), .ref (a0 + (q + 64)), .null, .null, .long 0]) := (hO20 _ (by omega)).trans hq19
  refine lv_dup hx hb dX8_init_78 rfl ?_
  refine pw_call (q := q + 67) (rest := [.ref (a0 + (q + 67)), .ref (a0 + q)]) hx hb hml hl.1 hown hts hnw hK hao ciwX8_50 (by decide) (c_X1_init a0 (q + 67) (kz_8_67 hk)) hN20 rfl (Nat.le_of_ble_eq_true rfl) (Nat.le_of_ble_eq_true rfl) (Nat.le_of_ble_eq_true rfl) (Nat.le_of_ble_eq_true rfl) (Nat.le_of_ble_eq_true rfl) hP hS dX8_init_79 (fun H E21 locs hP hO21 hN21 hS => ?_)
  have hP : PW a0 (q + 70) D E21 H := hP
  have hq21 : E21 (q) = .inr (8, [.ref (a0 + (q + 1)), .ref (a0 + (q + 4)), .ref (a0 + (q + 10)), .ref (a0 + (q + 16)), .ref (a0 + (q + 62)), .ref (a0 + (q + 63)), .ref (a0 + (q + 64)), .null, .null, .long 0]) := (hO21 _ (by omega)).trans hq20
  refine pw_putF (k := 7) (q := q) (ty := (.object "ElbowRanks$Distances")) (v := .ref (a0 + (q + 67))) hx hb hown hts hK (ci := 8) (C := RX8) (T := TX8) (N := 10) rfl (by decide) rfl hin rfl fwX8_51 hq21 (by omega) (by decide +kernel) rfl rfl (Nat.le_of_ble_eq_true rfl) hP hS dX8_init_82 (fun H E22 locs hP hN22 hO22 hS => ?_)
  have hq22 : E22 (q) = .inr (8, [.ref (a0 + (q + 1)), .ref (a0 + (q + 4)), .ref (a0 + (q + 10)), .ref (a0 + (q + 16)), .ref (a0 + (q + 62)), .ref (a0 + (q + 63)), .ref (a0 + (q + 64)), .ref (a0 + (q + 67)), .null, .long 0]) := hN22
  refine lv_aload_n hx hb dX8_init_85 rfl (lv_at hl 0 rfl) ?_
  refine pw_new hx hb hown hts hK (ci := 6) (C := RX6) (T := TX6) (N := 5) rfl in6d nwX8_55a in6b in6c hP hS (Nat.le_of_ble_eq_true rfl) (Nat.le_of_ble_eq_true rfl) dX8_init_86 (fun H E23 hP hN23 hO23 hS => ?_)
  have hP : PW a0 (q + 71) D E23 H := hP
  have hq23 : E23 (q) = .inr (8, [.ref (a0 + (q + 1)), .ref (a0 + (q + 4)), .ref (a0 + (q + 10)), .ref (a0 + (q + 16)), .ref (a0 + (q + 62)), .ref (a0 + (q + 63)), .ref (a0 + (q + 64)), .ref (a0 + (q + 67)), .null, .long 0]) := (hO23 _ (by omega)).trans hq22
  refine lv_dup hx hb dX8_init_89 rfl ?_
  refine pw_call (q := q + 70) (rest := [.ref (a0 + (q + 70)), .ref (a0 + q)]) hx hb hml hl.1 hown hts hnw hK hao ciwX8_57 (by decide) (c_X6_init a0 (q + 70) (kz_8_70 hk)) hN23 rfl (Nat.le_of_ble_eq_true rfl) (Nat.le_of_ble_eq_true rfl) (Nat.le_of_ble_eq_true rfl) (Nat.le_of_ble_eq_true rfl) (Nat.le_of_ble_eq_true rfl) hP hS dX8_init_90 (fun H E24 locs hP hO24 hN24 hS => ?_)
  have hP : PW a0 (q + 74) D E24 H := hP
  have hq24 : E24 (q) = .inr (8, [.ref (a0 + (q + 1)), .ref (a0 + (q + 4)), .ref (a0 + (q + 10)), .ref (a0 + (q + 16)), .ref (a0 + (q + 62)), .ref (a0 + (q + 63)), .ref (a0 + (q + 64)), .ref (a0 + (q + 67)), .null, .long 0]) := (hO24 _ (by omega)).trans hq23
  refine pw_putF (k := 8) (q := q) (ty := (.object "ElbowRanks$Theatre")) (v := .ref (a0 + (q + 70))) hx hb hown hts hK (ci := 8) (C := RX8) (T := TX8) (N := 10) rfl (by decide) rfl hin rfl fwX8_58 hq24 (by omega) (by decide +kernel) rfl rfl (Nat.le_of_ble_eq_true rfl) hP hS dX8_init_93 (fun H E25 locs hP hN25 hO25 hS => ?_)
  have hq25 : E25 (q) = .inr (8, [.ref (a0 + (q + 1)), .ref (a0 + (q + 4)), .ref (a0 + (q + 10)), .ref (a0 + (q + 16)), .ref (a0 + (q + 62)), .ref (a0 + (q + 63)), .ref (a0 + (q + 64)), .ref (a0 + (q + 67)), .ref (a0 + (q + 70)), .long 0]) := hN25
  refine lv_aload_n hx hb dX8_init_96 rfl (lv_at hl 0 rfl) ?_
  refine lv_lconst (v := 0) hx hb dX8_init_97 (by decide) ?_
  refine pw_put (k := 9) (q := q) (ty := .long) (v := .long 0) hx hb hown hts hK (ci := 8) (C := RX8) (T := TX8) (N := 10) rfl (by decide) rfl fwX8_62 hq25 (by omega) (by decide +kernel) rfl rfl (Nat.le_of_ble_eq_true rfl) hP hS dX8_init_98 (fun H E26 locs hP hN26 hO26 hS => ?_)
  have hq26 : E26 (q) = .inr (8, [.ref (a0 + (q + 1)), .ref (a0 + (q + 4)), .ref (a0 + (q + 10)), .ref (a0 + (q + 16)), .ref (a0 + (q + 62)), .ref (a0 + (q + 63)), .ref (a0 + (q + 64)), .ref (a0 + (q + 67)), .ref (a0 + (q + 70)), .long 0]) := hN26
  refine lv_iconst (v := 0) hx hb dX8_init_101 (by decide) ?_
  refine lv_istore_n (lv' := [(1, .int 0), (0, .ref (a0 + q))]) hx hb dX8_init_102 rfl hl (by decide) rfl (fun ls hl => ?_)
  refine loop_X8 (q := q) (E := E) (mid := Fz a0 cy) hk (fun i hi => kd_er hk hi) hx hb hml hown hts hnw hK hao rfl ?_ 2 0 rfl E26 H locs ls hP (fun k h1 => by rw [hO26 _ (by omega), hO25 _ (by omega), hO24 _ (by omega), hO23 _ (by omega), hO22 _ (by omega), hO21 _ (by omega), hO20 _ (by omega), hO19 _ (by omega), hO18 _ (by omega), hO17 _ (by omega), hO16 _ (by omega), hO15 _ (by omega), hO14 _ (by omega), hO13 _ (by omega), hO12 _ (by omega), hO11 _ (by omega), hO10 _ (by omega), hO9 _ (by omega), hO8 _ (by omega), hO7 _ (by omega), hO6 _ (by omega), hO5 _ (by omega), hO4 _ (by omega), hO3 _ (by omega), hO2 _ (by omega), hO1 _ (by omega)]) hq26 (fun k h1 h2 h3 => ?_) ?_ (fun k h1 h2 => by omega) hS hl
  · intro E2 H locs ls hP hA hB hC hD hF hS
    have hP2 : PW a0 (q + 166) D (fun k => if k = q + 62 then Fz a0 cy (q + 62) else E2 k) H := by
      refine PW_of (fun k h1 => ?_) hP.2
      by_cases h2 : k = q + 62
      · subst h2
        show va_at D vwCl (a0 + (q + 62), if q + 62 = q + 62 then Fz a0 cy (q + 62) else _) H
        rw [if_pos rfl]
        have h3 := PW_at hP h1
        rw [hD] at h3
        have h4 : Fz a0 cy (q + 62) = .inl (cy 3, 2, .inr (.inr (.inr (.inr (fun j => some (a0 + gR μ0 (q + 62) j)))))) := by
          unfold Fz
          rw [kz_8_62 hk]
          exact ent_C (n := 2) (by decide)
        rw [h4]
        refine at_refs (fun j hj => ?_) h3
        rw [if_pos hj]
        have h5 : gR μ0 (q + 62) j = q + 74 + 46 * j := by
          have h6 := kd_8 hk
          subst h6
          simp [gR, μ0, kz_8_62 hk]
        rw [h5]
      · show va_at D vwCl (a0 + k, if k = q + 62 then Fz a0 cy (q + 62) else E2 k) H
        rw [if_neg h2]
        exact PW_at hP h1
    refine W.vret hx hb hr (fun t ht _ => ⟨⟨rfl, _, by rw [ht]; exact hP2, fun k h1 => ?_, fun k h1 h2 => ?_⟩, hS.F ht⟩) hS.2.2 dX8_init_127 hlocks
    · show (if k = q + 62 then _ else E2 k) = E k
      rw [if_neg (by omega)]; exact hA k h1
    · show (if k = q + 62 then _ else E2 k) = Fz a0 cy k
      by_cases h3 : k = q + 62
      · rw [if_pos h3, h3]
      · rw [if_neg h3]
        by_cases h4 : k = q
        · subst h4; rw [hB]
          have h6 := kd_8 hk
          subst h6
          exact (Fz_O hk (by decide) (by simp [fl, gI, gR, gL, μ0, hk])).symm
        · by_cases h5 : k < q + 74
          · exact hC k (by omega) h5 h3
          · exact hF k (by omega) h2
  · rcases (show (q + 1 ≤ k ∧ k < q + 4) ∨ (q + 4 ≤ k ∧ k < q + 10) ∨ (q + 10 ≤ k ∧ k < q + 16) ∨ (q + 16 ≤ k ∧ k < q + 62) ∨ k = q + 63 ∨ (q + 64 ≤ k ∧ k < q + 67) ∨ (q + 67 ≤ k ∧ k < q + 70) ∨ (q + 70 ≤ k ∧ k < q + 74) by omega) with h | h | h | h | h | h | h | h
    · exact (by rw [hO26 _ (by omega), hO25 _ (by omega), hO24 _ (by omega), hO23 _ (by omega), hO22 _ (by omega), hO21 _ (by omega), hO20 _ (by omega), hO19 _ (by omega), hO18 _ (by omega), hO17 _ (by omega), hO16 _ (by omega), hO15 _ (by omega), hO14 _ (by omega), hO13 _ (by omega), hO12 _ (by omega), hO11 _ (by omega), hO10 _ (by omega), hO9 _ (by omega), hO8 _ (by omega), hO7 _ (by omega), hO6 _ (by omega), hO5 _ (by omega), hO4 _ (by omega), hO3 _ (by omega)]; exact hN2 k (by omega) (by omega))
    · exact (by rw [hO26 _ (by omega), hO25 _ (by omega), hO24 _ (by omega), hO23 _ (by omega), hO22 _ (by omega), hO21 _ (by omega), hO20 _ (by omega), hO19 _ (by omega), hO18 _ (by omega), hO17 _ (by omega), hO16 _ (by omega), hO15 _ (by omega), hO14 _ (by omega), hO13 _ (by omega), hO12 _ (by omega), hO11 _ (by omega), hO10 _ (by omega), hO9 _ (by omega), hO8 _ (by omega), hO7 _ (by omega), hO6 _ (by omega)]; exact hN5 k (by omega) (by omega))
    · exact (by rw [hO26 _ (by omega), hO25 _ (by omega), hO24 _ (by omega), hO23 _ (by omega), hO22 _ (by omega), hO21 _ (by omega), hO20 _ (by omega), hO19 _ (by omega), hO18 _ (by omega), hO17 _ (by omega), hO16 _ (by omega), hO15 _ (by omega), hO14 _ (by omega), hO13 _ (by omega), hO12 _ (by omega), hO11 _ (by omega), hO10 _ (by omega), hO9 _ (by omega)]; exact hN8 k (by omega) (by omega))
    · exact (by rw [hO26 _ (by omega), hO25 _ (by omega), hO24 _ (by omega), hO23 _ (by omega), hO22 _ (by omega), hO21 _ (by omega), hO20 _ (by omega), hO19 _ (by omega), hO18 _ (by omega), hO17 _ (by omega), hO16 _ (by omega), hO15 _ (by omega), hO14 _ (by omega), hO13 _ (by omega), hO12 _ (by omega)]; exact hN11 k (by omega) (by omega))
    · subst h; exact (by rw [hO26 _ (by omega), hO25 _ (by omega), hO24 _ (by omega), hO23 _ (by omega), hO22 _ (by omega), hO21 _ (by omega), hO20 _ (by omega), hO19 _ (by omega), hO18 _ (by omega), hO17 _ (by omega), hO16 _ (by omega), hN15]; exact (Fz_Z (n := 2) (kz_8_63 hk) (by decide)).symm)
    · exact (by rw [hO26 _ (by omega), hO25 _ (by omega), hO24 _ (by omega), hO23 _ (by omega), hO22 _ (by omega), hO21 _ (by omega), hO20 _ (by omega), hO19 _ (by omega)]; exact hN18 k (by omega) (by omega))
    · exact (by rw [hO26 _ (by omega), hO25 _ (by omega), hO24 _ (by omega), hO23 _ (by omega), hO22 _ (by omega)]; exact hN21 k (by omega) (by omega))
    · exact (by rw [hO26 _ (by omega), hO25 _ (by omega)]; exact hN24 k (by omega) (by omega))
  · rw [hO26 _ (by omega), hO25 _ (by omega), hO24 _ (by omega), hO23 _ (by omega), hO22 _ (by omega), hO21 _ (by omega), hO20 _ (by omega), hO19 _ (by omega), hO18 _ (by omega), hO17 _ (by omega), hO16 _ (by omega), hO15 _ (by omega), hO14 _ (by omega), hN13, va_up0 (fun j => a0 + (q + 74 + 46 * j))]

