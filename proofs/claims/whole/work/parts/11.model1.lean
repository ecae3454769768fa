def f_X9_in (F : Nat) (μ : Mem) (p1 : Int32) (p2 : Int32) (p3 : Int32) : Option (Int32) := (if p1 < p2 then some 0 else (if p3 < p1 then some 0 else some 1))
set_option maxRecDepth 100000 in
set_option maxHeartbeats 4000000 in
theorem c_X9_in (a0 F : Nat) (μ : Mem) (p1 : Int32) (p2 : Int32) (p3 : Int32)  {v : Int32} (hr : f_X9_in F μ p1 p2 p3 = some v) : Ct a0 yX9_in cX9_in 3 (some .boolean) 0 [.int p1, .int p2, .int p3] μ (some (.int v)) μ := by
  refine Ct_of (own := RX9) (ι := (fun v => (some (.int v), μ))) (o := f_X9_in F μ p1 p2 p3) (by decide +kernel) rfl (Nat.le_of_ble_eq_true rfl) ?_ hr rfl ⟨_, rfl⟩
  show Ex a0 RX9 cX9_in 3 (some .boolean) 0 none (fun v => (some (.int v), μ)) 0 [(0, .int p1), (1, .int p2), (2, .int p3)] [] μ (f_X9_in F μ p1 p2 p3)
  unfold f_X9_in
  refine Ex_iload_n dX9_in_0 rfl 0 rfl ?_
  refine Ex_iload_n dX9_in_1 rfl 1 rfl ?_
  refine Ex_icmp_lt (tgt := 14) dX9_in_2 (by decide) ?_ ?_
  · refine Ex_iconst (v := 0) dX9_in_14 (by decide) ?_
    exact Ex_iret dX9_in_15 rfl (fun ty h => by cases h; rfl)
  · refine Ex_iload_n dX9_in_5 rfl 0 rfl ?_
    refine Ex_iload_n dX9_in_6 rfl 2 rfl ?_
    refine Ex_icmp_gt (tgt := 14) dX9_in_7 (by decide) ?_ ?_
    · refine Ex_iconst (v := 0) dX9_in_14 (by decide) ?_
      exact Ex_iret dX9_in_15 rfl (fun ty h => by cases h; rfl)
    · refine Ex_iconst (v := 1) dX9_in_10 (by decide) ?_
      refine Ex_goto (tgt := 15) dX9_in_11 (by decide) ?_
      exact Ex_iret dX9_in_15 rfl (fun ty h => by cases h; rfl)
theorem b_X9_in {F : Nat} {μ : Mem} {p1 : Int32} {p2 : Int32} {p3 : Int32} {v : Int32} (hv : f_X9_in F μ p1 p2 p3 = some v) : v = 0 ∨ v = 1 := by
  unfold f_X9_in at hv
  by_cases h1 : p1 < p2
  · rw [if_pos h1] at hv; cases hv; exact Or.inl rfl
  · rw [if_neg h1] at hv
    by_cases h2 : p3 < p1
    · rw [if_pos h2] at hv; cases hv; exact Or.inl rfl
    · rw [if_neg h2] at hv; cases hv; exact Or.inr rfl

def f_X9_manyOf_L4 (F : Nat) (μ : Mem) (x0 : Int32) (k : Int32 → Int32 → Option (Int32)) : Nat → Int32 → Int32 → Option (Int32)
  | 0, _, _ => none
  | n + 1, x1, x2 => (if x2 < 8 then lt (x1 + ((x0 >>> (x2 &&& 31)) &&& 1)) (fun x1_1 => f_X9_manyOf_L4 F μ x0 k n x1_1 (x2 + 1)) else k x1 x2)
set_option maxRecDepth 100000 in
set_option maxHeartbeats 4000000 in
theorem c_X9_manyOf_L4 (a0 : Nat) (F : Nat) (μ : Mem) (x0 : Int32) (k : Int32 → Int32 → Option (Int32)) (hk : ∀ (x1 : Int32) (x2 : Int32), Ex a0 RX9 cX9_manyOf 3 (some .int) 0 none (fun v => (some (.int v), μ)) 24 [(1, .int x1)] [] μ (k x1 x2)) : ∀ (n : Nat) (x1 : Int32) (x2 : Int32), Ex a0 RX9 cX9_manyOf 3 (some .int) 0 none (fun v => (some (.int v), μ)) 4 [(0, .int x0), (1, .int x1), (2, .int x2)] [] μ (f_X9_manyOf_L4 F μ x0 k n x1 x2) := by
  intro n
  induction n with
  | zero => intro x1 x2; exact Ex_none
  | succ n ih =>
    intro x1 x2
    rw [f_X9_manyOf_L4]
    refine Ex_iload_n dX9_manyOf_4 rfl 2 rfl ?_
    refine Ex_bipush (v := 8) dX9_manyOf_5 (by decide) ?_
    refine Ex_icmp_ge (tgt := 24) dX9_manyOf_7 (by decide) ?_ ?_
    · refine Ex_perm [1] rfl ?_
      exact hk x1 x2
    · refine Ex_iload_n dX9_manyOf_10 rfl 1 rfl ?_
      refine Ex_iload_n dX9_manyOf_11 rfl 0 rfl ?_
      refine Ex_iload_n dX9_manyOf_12 rfl 2 rfl ?_
      refine Ex_ishr dX9_manyOf_13 ?_
      refine Ex_iconst (v := 1) dX9_manyOf_14 (by decide) ?_
      refine Ex_iand dX9_manyOf_15 ?_
      refine Ex_iadd dX9_manyOf_16 ?_
      refine Ex_top (fun x1_1 => ?_)
      refine Ex_istore_n (L2 := [(1, .int x1_1), (0, .int x0), (2, .int x2)]) dX9_manyOf_17 rfl (by decide) rfl ?_
      refine Ex_iinc (v := x2 + 1) (L2 := [(2, .int (x2 + 1)), (1, .int x1_1), (0, .int x0)]) dX9_manyOf_18 2 rfl rfl (by decide) rfl ?_
      refine Ex_goto (tgt := 4) dX9_manyOf_21 (by decide) ?_
      refine Ex_perm [2, 1, 0] rfl ?_
      exact ih x1_1 (x2 + 1)
def f_X9_manyOf (F : Nat) (μ : Mem) (p1 : Int32) : Option (Int32) := f_X9_manyOf_L4 F μ p1 (fun x1_2 x2_3 => some x1_2) F 0 0
set_option maxRecDepth 100000 in
set_option maxHeartbeats 4000000 in
theorem c_X9_manyOf (a0 F : Nat) (μ : Mem) (p1 : Int32)  {v : Int32} (hr : f_X9_manyOf F μ p1 = some v) : Ct a0 yX9_manyOf cX9_manyOf 3 (some .int) 0 [.int p1] μ (some (.int v)) μ := by
  refine Ct_of (own := RX9) (ι := (fun v => (some (.int v), μ))) (o := f_X9_manyOf F μ p1) (by decide +kernel) rfl (Nat.le_of_ble_eq_true rfl) ?_ hr rfl ⟨_, rfl⟩
  show Ex a0 RX9 cX9_manyOf 3 (some .int) 0 none (fun v => (some (.int v), μ)) 0 [(0, .int p1)] [] μ (f_X9_manyOf F μ p1)
  unfold f_X9_manyOf
  refine Ex_iconst (v := 0) dX9_manyOf_0 (by decide) ?_
  refine Ex_istore_n (L2 := [(1, .int 0), (0, .int p1)]) dX9_manyOf_1 rfl (by decide) rfl ?_
  refine Ex_iconst (v := 0) dX9_manyOf_2 (by decide) ?_
  refine Ex_istore_n (L2 := [(2, .int 0), (1, .int 0), (0, .int p1)]) dX9_manyOf_3 rfl (by decide) rfl ?_
  refine Ex_perm [2, 1, 0] rfl ?_
  refine c_X9_manyOf_L4 a0 F μ p1 _  (fun x1_2 x2_3 => ?_) F 0 0
  refine Ex_iload_n dX9_manyOf_24 rfl 0 rfl ?_
  exact Ex_iret dX9_manyOf_25 rfl (fun ty h => by cases h; rfl)

def f_X9_back_L25 (F : Nat) (q0 : Nat) (x1 : Int32) (k : Int32 → Mem → Option (Int32 × Mem)) : Nat → Int32 → Mem → Option (Int32 × Mem)
  | 0, _, _ => none
  | n + 1, x2, μ => (if x2 < 177 then if ix ((177 * (1 + x1)) + x2) 531 = true then if ix x2 531 = true then lt (sI μ (q0 + 12) x2.toNatClampNeg (gI μ (q0 + 12) (((177 * (1 + x1)) + x2).toNatClampNeg))) (fun μ_4 => f_X9_back_L25 F q0 x1 k n (x2 + 1) μ_4) else none else none else k x2 μ)
set_option maxRecDepth 100000 in
set_option maxHeartbeats 4000000 in
theorem c_X9_back_L25 (a0 : Nat) (F : Nat) (q0 : Nat) (x1 : Int32) (k : Int32 → Mem → Option (Int32 × Mem)) (hq0 : kd q0 = 9) (hk : ∀ (x2 : Int32) (μ : Mem), Ex a0 RX9 cX9_back 3 (some .int) 1 none (fun x => (some (.int x.1), x.2)) 58 [(0, .ref (a0 + q0))] [] μ (k x2 μ)) : ∀ (n : Nat) (x2 : Int32) (μ : Mem), Ex a0 RX9 cX9_back 3 (some .int) 1 none (fun x => (some (.int x.1), x.2)) 25 [(0, .ref (a0 + q0)), (1, .int x1), (2, .int x2)] [] μ (f_X9_back_L25 F q0 x1 k n x2 μ) := by
  intro n
  induction n with
  | zero => intro x2 μ; exact Ex_none
  | succ n ih =>
    intro x2 μ
    rw [f_X9_back_L25]
    refine Ex_iload_n dX9_back_25 rfl 2 rfl ?_
    refine Ex_sipush (v := 177) dX9_back_26 (by decide) ?_
    refine Ex_icmp_ge (tgt := 58) dX9_back_29 (by decide) ?_ ?_
    · refine Ex_perm [0] rfl ?_
      exact hk x2 μ
    · refine Ex_aload_n dX9_back_32 rfl 0 rfl ?_
      refine Ex_get (v := .ref (a0 + (q0 + 12))) fgX9_44 hq0 (by decide) rfl dX9_back_33 ?_
      refine Ex_iload_n dX9_back_36 rfl 2 rfl ?_
      refine Ex_aload_n dX9_back_37 rfl 0 rfl ?_
      refine Ex_get (v := .ref (a0 + (q0 + 12))) fgX9_44 hq0 (by decide) rfl dX9_back_38 ?_
      refine Ex_sipush (v := 177) dX9_back_41 (by decide) ?_
      refine Ex_iconst (v := 1) dX9_back_44 (by decide) ?_
      refine Ex_iload_n dX9_back_45 rfl 1 rfl ?_
      refine Ex_iadd dX9_back_46 ?_
      refine Ex_imul dX9_back_47 ?_
      refine Ex_iload_n dX9_back_48 rfl 2 rfl ?_
      refine Ex_iadd dX9_back_49 ?_
      refine Ex_iald 531 (kn_9_12 hq0) (by decide) dX9_back_50 ?_
      refine Ex_iast 531 (kn_9_12 hq0) (by decide) dX9_back_51 (fun μ_4 => ?_)
      refine Ex_iinc (v := x2 + 1) (L2 := [(2, .int (x2 + 1)), (0, .ref (a0 + q0)), (1, .int x1)]) dX9_back_52 2 rfl rfl (by decide) rfl ?_
      refine Ex_goto (tgt := 25) dX9_back_55 (by decide) ?_
      refine Ex_perm [1, 2, 0] rfl ?_
      exact ih (x2 + 1) μ_4
def f_X9_back (F : Nat) (μ : Mem) (t : Nat) (p1 : Int32) : Option (Int32 × Mem) := (f_X9_in F μ p1 0 1).bind (fun v_1 => (if v_1 = 0 then some ((-1), μ) else if ix p1 2 = true then (if (gI μ (t + 13) p1.toNatClampNeg) = 0 then some ((-2), μ) else f_X9_back_L25 F t p1 (fun x2_5 μ_6 => (f_X9_manyOf F μ_6 (gI μ_6 (t + 12) 15)).bind (fun v_7 => some (v_7, μ_6))) F 0 μ) else none))
set_option maxRecDepth 100000 in
set_option maxHeartbeats 4000000 in
theorem c_X9_back (a0 F : Nat) (μ : Mem) (t : Nat) (p1 : Int32) (hk0 : kd t = 9) {v : Int32} {μ2 : Mem} (hr : f_X9_back F μ t p1 = some (v, μ2)) : Ct a0 yX9_back cX9_back 3 (some .int) 1 [.ref (a0 + t), .int p1] μ (some (.int v)) μ2 := by
  refine Ct_of (own := RX9) (ι := (fun x => (some (.int x.1), x.2))) (o := f_X9_back F μ t p1) (by decide +kernel) rfl (Nat.le_of_ble_eq_true rfl) ?_ hr rfl ⟨_, rfl⟩
  show Ex a0 RX9 cX9_back 3 (some .int) 1 none (fun x => (some (.int x.1), x.2)) 0 [(0, .ref (a0 + t)), (1, .int p1)] [] μ (f_X9_back F μ t p1)
  unfold f_X9_back
  refine Ex_iload_n dX9_back_0 rfl 1 rfl ?_
  refine Ex_iconst (v := 0) dX9_back_1 (by decide) ?_
  refine Ex_iconst (v := 1) dX9_back_2 (by decide) ?_
  refine Ex_callSR (n := 3) (dp2 := 0) [.int p1, .int 0, .int 1] cvX9_72 rfl (by decide) (by decide) (Nat.le_of_ble_eq_true rfl) rfl (fun v hv => c_X9_in a0 F μ p1 0 1 hv) dX9_back_3 (fun v_1 hv_3 => ?_)
  refine Ex_if_ne (tgt := 11) dX9_back_6 (by decide) ?_ ?_
  · refine Ex_aload_n dX9_back_11 rfl 0 rfl ?_
    refine Ex_get (v := .ref (a0 + (t + 13))) fgX9_47 hk0 (by decide) rfl dX9_back_12 ?_
    refine Ex_iload_n dX9_back_15 rfl 1 rfl ?_
    refine Ex_zald 2 (kn_9_13 hk0) (by decide) dX9_back_16 ?_
    refine Ex_if_ne (tgt := 23) dX9_back_17 (by decide) ?_ ?_
    · refine Ex_iconst (v := 0) dX9_back_23 (by decide) ?_
      refine Ex_istore_n (L2 := [(2, .int 0), (0, .ref (a0 + t)), (1, .int p1)]) dX9_back_24 rfl (by decide) rfl ?_
      refine Ex_perm [1, 2, 0] rfl ?_
      refine c_X9_back_L25 a0 F t p1 _ hk0 (fun x2_5 μ_6 => ?_) F 0 μ
      refine Ex_aload_n dX9_back_58 rfl 0 rfl ?_
      refine Ex_get (v := .ref (a0 + (t + 12))) fgX9_44 hk0 (by decide) rfl dX9_back_59 ?_
      refine Ex_bipush (v := 15) dX9_back_62 (by decide) ?_
      refine Ex_ialdC (j := 15) 531 (kn_9_12 hk0) (by decide) (by decide) (by decide) dX9_back_64 ?_
      refine Ex_callSR (n := 1) (dp2 := 0) [.int (gI μ_6 (t + 12) 15)] cvX9_157 rfl (by decide) (by decide) (Nat.le_of_ble_eq_true rfl) rfl (fun v hv => c_X9_manyOf a0 F μ_6 (gI μ_6 (t + 12) 15) hv) dX9_back_65 (fun v_7 hv_9 => ?_)
      exact Ex_iret dX9_back_68 rfl (fun ty h => by cases h; rfl)
    · refine Ex_bipush (v := (-2)) dX9_back_20 (by decide) ?_
      exact Ex_iret dX9_back_22 rfl (fun ty h => by cases h; rfl)
  · refine Ex_iconst (v := (-1)) dX9_back_9 (by decide) ?_
    exact Ex_iret dX9_back_10 rfl (fun ty h => by cases h; rfl)

def f_X9_wide (F : Nat) (μ : Mem) (t : Nat) (p1 : Int32) : Option (Int32) := if ix (5 + p1) 531 = true then some ((gI μ (t + 10) 0) + (2 * (gI μ (t + 12) ((5 + p1).toNatClampNeg)))) else none
set_option maxRecDepth 100000 in
set_option maxHeartbeats 4000000 in
theorem c_X9_wide (a0 F : Nat) (μ : Mem) (t : Nat) (p1 : Int32) (hk0 : kd t = 9) {v : Int32} (hr : f_X9_wide F μ t p1 = some v) : Ct a0 yX9_wide cX9_wide 2 (some .int) 0 [.ref (a0 + t), .int p1] μ (some (.int v)) μ := by
  refine Ct_of (own := RX9) (ι := (fun v => (some (.int v), μ))) (o := f_X9_wide F μ t p1) (by decide +kernel) rfl (Nat.le_of_ble_eq_true rfl) ?_ hr rfl ⟨_, rfl⟩
  show Ex a0 RX9 cX9_wide 2 (some .int) 0 none (fun v => (some (.int v), μ)) 0 [(0, .ref (a0 + t)), (1, .int p1)] [] μ (f_X9_wide F μ t p1)
  unfold f_X9_wide
  refine Ex_aload_n dX9_wide_0 rfl 0 rfl ?_
  refine Ex_get (v := .ref (a0 + (t + 10))) fgX9_38 hk0 (by decide) rfl dX9_wide_1 ?_
  refine Ex_iconst (v := 0) dX9_wide_4 (by decide) ?_
  refine Ex_ialdC (j := 0) 2 (kn_9_10 hk0) (by decide) (by decide) (by decide) dX9_wide_5 ?_
  refine Ex_iconst (v := 2) dX9_wide_6 (by decide) ?_
  refine Ex_aload_n dX9_wide_7 rfl 0 rfl ?_
  refine Ex_get (v := .ref (a0 + (t + 12))) fgX9_44 hk0 (by decide) rfl dX9_wide_8 ?_
  refine Ex_iconst (v := 5) dX9_wide_11 (by decide) ?_
  refine Ex_iload_n dX9_wide_12 rfl 1 rfl ?_
  refine Ex_iadd dX9_wide_13 ?_
  refine Ex_iald 531 (kn_9_12 hk0) (by decide) dX9_wide_14 ?_
  refine Ex_imul dX9_wide_15 ?_
  refine Ex_iadd dX9_wide_16 ?_
  exact Ex_iret dX9_wide_17 rfl (fun ty h => by cases h; rfl)

def f_X9_canGo (F : Nat) (μ : Mem) (t : Nat) (p1 : Int32) (p2 : Int32) (p3 : Int32) : Option (Int32) := (if ((p3 >>> (p2 &&& 31)) &&& 1) = 0 then (f_X9_wide F μ t p1).bind (fun v_1 => if ix p2 16 = true then (if (gI μ (t + 6) p2.toNatClampNeg) < v_1 then some 0 else some 1) else none) else some 0)
set_option maxRecDepth 100000 in
set_option maxHeartbeats 4000000 in
theorem c_X9_canGo (a0 F : Nat) (μ : Mem) (t : Nat) (p1 : Int32) (p2 : Int32) (p3 : Int32) (hk0 : kd t = 9) {v : Int32} (hr : f_X9_canGo F μ t p1 p2 p3 = some v) : Ct a0 yX9_canGo cX9_canGo 4 (some .boolean) 1 [.ref (a0 + t), .int p1, .int p2, .int p3] μ (some (.int v)) μ := by
  refine Ct_of (own := RX9) (ι := (fun v => (some (.int v), μ))) (o := f_X9_canGo F μ t p1 p2 p3) (by decide +kernel) rfl (Nat.le_of_ble_eq_true rfl) ?_ hr rfl ⟨_, rfl⟩
  show Ex a0 RX9 cX9_canGo 4 (some .boolean) 1 none (fun v => (some (.int v), μ)) 0 [(0, .ref (a0 + t)), (1, .int p1), (2, .int p2), (3, .int p3)] [] μ (f_X9_canGo F μ t p1 p2 p3)
  unfold f_X9_canGo
  refine Ex_iload_n dX9_canGo_0 rfl 3 rfl ?_
  refine Ex_iload_n dX9_canGo_1 rfl 2 rfl ?_
  refine Ex_ishr dX9_canGo_2 ?_
  refine Ex_iconst (v := 1) dX9_canGo_3 (by decide) ?_
  refine Ex_iand dX9_canGo_4 ?_
  refine Ex_if_ne (tgt := 26) dX9_canGo_5 (by decide) ?_ ?_
  · refine Ex_iconst (v := 0) dX9_canGo_26 (by decide) ?_
    exact Ex_iret dX9_canGo_27 rfl (fun ty h => by cases h; rfl)
  · refine Ex_aload_n dX9_canGo_8 rfl 0 rfl ?_
    refine Ex_iload_n dX9_canGo_9 rfl 1 rfl ?_
    refine Ex_callVR (n := 1) (dp2 := 0) [.int p1] cvX9_124 hk0 rfl rfl (by decide) (by decide) (Nat.le_of_ble_eq_true rfl) rfl (fun v hv => c_X9_wide a0 F μ t p1 hk0 hv) dX9_canGo_10 (fun v_1 hv_3 => ?_)
    refine Ex_aload_n dX9_canGo_13 rfl 0 rfl ?_
    refine Ex_get (v := .ref (a0 + (t + 6))) fgX9_26 hk0 (by decide) rfl dX9_canGo_14 ?_
    refine Ex_iload_n dX9_canGo_17 rfl 2 rfl ?_
    refine Ex_iald 16 (kn_9_6 hk0) (by decide) dX9_canGo_18 ?_
    refine Ex_icmp_gt (tgt := 26) dX9_canGo_19 (by decide) ?_ ?_
    · refine Ex_iconst (v := 0) dX9_canGo_26 (by decide) ?_
      exact Ex_iret dX9_canGo_27 rfl (fun ty h => by cases h; rfl)
    · refine Ex_iconst (v := 1) dX9_canGo_22 (by decide) ?_
      refine Ex_goto (tgt := 27) dX9_canGo_23 (by decide) ?_
      exact Ex_iret dX9_canGo_27 rfl (fun ty h => by cases h; rfl)

def f_X9_plain (F : Nat) (μ : Mem) (t : Nat) : Option (Mem) := lt (sI μ (t + 2) 1 2) (fun μ_1 => lt (sI μ_1 (t + 3) 1 0) (fun μ_2 => lt (sI μ_2 (t + 7) 1 0) (fun μ_3 => lt (sI μ_3 (t + 10) 1 4) (fun μ_4 => lt (sI μ_4 (t + 11) 1 1) (fun μ_5 => lt (sI μ_5 t 13 0) (fun μ_6 => some μ_6))))))
set_option maxRecDepth 100000 in
set_option maxHeartbeats 4000000 in
theorem c_X9_plain (a0 F : Nat) (μ : Mem) (t : Nat) (hk0 : kd t = 9) {μ2 : Mem} (hr : f_X9_plain F μ t = some μ2) : Ct a0 yX9_plain cX9_plain 1 none 0 [.ref (a0 + t)] μ none μ2 := by
  refine Ct_of (own := RX9) (ι := (fun m => (none, m))) (o := f_X9_plain F μ t) (by decide +kernel) rfl (Nat.le_of_ble_eq_true rfl) ?_ hr rfl rfl
  show Ex a0 RX9 cX9_plain 1 none 0 none (fun m => (none, m)) 0 [(0, .ref (a0 + t))] [] μ (f_X9_plain F μ t)
  unfold f_X9_plain
  refine Ex_aload_n dX9_plain_0 rfl 0 rfl ?_
  refine Ex_get (v := .ref (a0 + (t + 2))) fgX9_13 hk0 (by decide) rfl dX9_plain_1 ?_
  refine Ex_iconst (v := 1) dX9_plain_4 (by decide) ?_
  refine Ex_iconst (v := 2) dX9_plain_5 (by decide) ?_
  refine Ex_iastC (j := 1) 2 (kn_9_2 hk0) (by decide) (by decide) (by decide) dX9_plain_6 (fun μ_1 => ?_)
  refine Ex_aload_n dX9_plain_7 rfl 0 rfl ?_
  refine Ex_get (v := .ref (a0 + (t + 3))) fgX9_17 hk0 (by decide) rfl dX9_plain_8 ?_
  refine Ex_iconst (v := 1) dX9_plain_11 (by decide) ?_
  refine Ex_iconst (v := 0) dX9_plain_12 (by decide) ?_
  refine Ex_iastC (j := 1) 2 (kn_9_3 hk0) (by decide) (by decide) (by decide) dX9_plain_13 (fun μ_2 => ?_)
  refine Ex_aload_n dX9_plain_14 rfl 0 rfl ?_
  refine Ex_get (v := .ref (a0 + (t + 7))) fgX9_29 hk0 (by decide) rfl dX9_plain_15 ?_
  refine Ex_iconst (v := 1) dX9_plain_18 (by decide) ?_
  refine Ex_iconst (v := 0) dX9_plain_19 (by decide) ?_
  refine Ex_iastC (j := 1) 2 (kn_9_7 hk0) (by decide) (by decide) (by decide) dX9_plain_20 (fun μ_3 => ?_)
  refine Ex_aload_n dX9_plain_21 rfl 0 rfl ?_
  refine Ex_get (v := .ref (a0 + (t + 10))) fgX9_38 hk0 (by decide) rfl dX9_plain_22 ?_
  refine Ex_iconst (v := 1) dX9_plain_25 (by decide) ?_
  refine Ex_iconst (v := 4) dX9_plain_26 (by decide) ?_
  refine Ex_iastC (j := 1) 2 (kn_9_10 hk0) (by decide) (by decide) (by decide) dX9_plain_27 (fun μ_4 => ?_)
  refine Ex_aload_n dX9_plain_28 rfl 0 rfl ?_
  refine Ex_get (v := .ref (a0 + (t + 11))) fgX9_41 hk0 (by decide) rfl dX9_plain_29 ?_
  refine Ex_iconst (v := 1) dX9_plain_32 (by decide) ?_
  refine Ex_iconst (v := 1) dX9_plain_33 (by decide) ?_
  refine Ex_iastC (j := 1) 2 (kn_9_11 hk0) (by decide) (by decide) (by decide) dX9_plain_34 (fun μ_5 => ?_)
  refine Ex_aload_n dX9_plain_35 rfl 0 rfl ?_
  refine Ex_iconst (v := 0) dX9_plain_36 (by decide) ?_
  refine Ex_putI fgX9_106 fp9_13 hk0 (by decide) rfl rfl (Nat.le_of_ble_eq_true rfl) (fs9_13 a0 μ_5 t 0) dX9_plain_37 (fun μ_6 => ?_)
  exact Ex_vret dX9_plain_40 rfl

def f_X9_here (F : Nat) (μ : Mem) (t : Nat) : Option (Int32) := (if (gI μ t 14) < (gI μ t 2) then if ix (gI μ t 14) 150 = true then some ((gI μ (t + 1) ((gI μ t 14).toNatClampNeg)) &&& 255) else none else some (-1))
set_option maxRecDepth 100000 in
set_option maxHeartbeats 4000000 in
theorem c_X9_here (a0 F : Nat) (μ : Mem) (t : Nat) (hk0 : kd t = 9) {v : Int32} (hr : f_X9_here F μ t = some v) : Ct a0 yX9_here cX9_here 1 (some .int) 0 [.ref (a0 + t)] μ (some (.int v)) μ := by
  refine Ct_of (own := RX9) (ι := (fun v => (some (.int v), μ))) (o := f_X9_here F μ t) (by decide +kernel) rfl (Nat.le_of_ble_eq_true rfl) ?_ hr rfl ⟨_, rfl⟩
  show Ex a0 RX9 cX9_here 1 (some .int) 0 none (fun v => (some (.int v), μ)) 0 [(0, .ref (a0 + t))] [] μ (f_X9_here F μ t)
  unfold f_X9_here
  refine Ex_aload_n dX9_here_0 rfl 0 rfl ?_
  refine Ex_get (v := .int (gI μ t 14)) fgX9_80 hk0 (by decide) rfl dX9_here_1 ?_
  refine Ex_aload_n dX9_here_4 rfl 0 rfl ?_
  refine Ex_get (v := .int (gI μ t 2)) fgX9_76 hk0 (by decide) rfl dX9_here_5 ?_
  refine Ex_icmp_ge (tgt := 27) dX9_here_8 (by decide) ?_ ?_
  · refine Ex_iconst (v := (-1)) dX9_here_27 (by decide) ?_
    exact Ex_iret dX9_here_28 rfl (fun ty h => by cases h; rfl)
  · refine Ex_aload_n dX9_here_11 rfl 0 rfl ?_
    refine Ex_get (v := .ref (a0 + (t + 1))) fgX9_7 hk0 (by decide) rfl dX9_here_12 ?_
    refine Ex_aload_n dX9_here_15 rfl 0 rfl ?_
    refine Ex_get (v := .int (gI μ t 14)) fgX9_80 hk0 (by decide) rfl dX9_here_16 ?_
    refine Ex_bald 150 (kn_9_1 hk0) (by decide) dX9_here_19 ?_
    refine Ex_sipush (v := 255) dX9_here_20 (by decide) ?_
    refine Ex_iand dX9_here_23 ?_
    refine Ex_goto (tgt := 28) dX9_here_24 (by decide) ?_
    exact Ex_iret dX9_here_28 rfl (fun ty h => by cases h; rfl)

def f_X9_step_L0 (F : Nat) (q0 : Nat) (k : Mem → Option (Mem)) : Nat → Mem → Option (Mem)
  | 0, _ => none
  | n + 1, μ => (f_X9_here F μ q0).bind (fun v_1 => (if v_1 = 32 then lt (sI μ q0 14 ((gI μ q0 14) + 1)) (fun μ_4 => f_X9_step_L0 F q0 k n μ_4) else k μ))
set_option maxRecDepth 100000 in
set_option maxHeartbeats 4000000 in
theorem c_X9_step_L0 (a0 : Nat) (F : Nat) (q0 : Nat) (k : Mem → Option (Mem)) (hq0 : kd q0 = 9) (hk : ∀ (μ : Mem), Ex a0 RX9 cX9_step 2 none 1 none (fun m => (none, m)) 22 [(0, .ref (a0 + q0))] [] μ (k μ)) : ∀ (n : Nat) (μ : Mem), Ex a0 RX9 cX9_step 2 none 1 none (fun m => (none, m)) 0 [(0, .ref (a0 + q0))] [] μ (f_X9_step_L0 F q0 k n μ) := by
  intro n
  induction n with
  | zero => intro μ; exact Ex_none
  | succ n ih =>
    intro μ
    rw [f_X9_step_L0]
    refine Ex_aload_n dX9_step_0 rfl 0 rfl ?_
    refine Ex_callVR (n := 0) (dp2 := 0) [] cvX9_83 hq0 rfl rfl (by decide) (by decide) (Nat.le_of_ble_eq_true rfl) rfl (fun v hv => c_X9_here a0 F μ q0 hq0 hv) dX9_step_1 (fun v_1 hv_3 => ?_)
    refine Ex_bipush (v := 32) dX9_step_4 (by decide) ?_
    refine Ex_icmp_ne (tgt := 22) dX9_step_6 (by decide) ?_ ?_
    · exact hk μ
    · refine Ex_aload_n dX9_step_9 rfl 0 rfl ?_
      refine Ex_dup dX9_step_10 rfl ?_
      refine Ex_get (v := .int (gI μ q0 14)) fgX9_80 hq0 (by decide) rfl dX9_step_11 ?_
      refine Ex_iconst (v := 1) dX9_step_14 (by decide) ?_
      refine Ex_iadd dX9_step_15 ?_
      refine Ex_putI fgX9_80 fp9_14 hq0 (by decide) rfl rfl (Nat.le_of_ble_eq_true rfl) (fs9_14 a0 μ q0 ((gI μ q0 14) + 1)) dX9_step_16 (fun μ_4 => ?_)
      refine Ex_goto (tgt := 0) dX9_step_19 (by decide) ?_
      exact ih μ_4

def f_X9_step_L126 (F : Nat) (q0 : Nat) (x1 : Int32) (k : Mem → Option (Mem)) : Nat → Mem → Option (Mem)
  | 0, _ => none
  | n + 1, μ => (f_X9_here F μ q0).bind (fun v_20 => (f_X9_in F μ v_20 48 57).bind (fun v_23 => (if v_23 = 0 then k μ else (if 99 < (gI μ q0 17) then lt (sI μ q0 17 (gI μ q0 17)) (fun μ_31 => lt (sI μ_31 q0 14 ((gI μ_31 q0 14) + 1)) (fun μ_32 => f_X9_step_L126 F q0 x1 k n μ_32)) else (f_X9_here F μ q0).bind (fun v_26 => lt (sI μ q0 17 (((10 * (gI μ q0 17)) + v_26) - 48)) (fun μ_29 => lt (sI μ_29 q0 14 ((gI μ_29 q0 14) + 1)) (fun μ_30 => f_X9_step_L126 F q0 x1 k n μ_30)))))))
set_option maxRecDepth 100000 in
set_option maxHeartbeats 4000000 in
theorem c_X9_step_L126 (a0 : Nat) (F : Nat) (q0 : Nat) (x1 : Int32) (k : Mem → Option (Mem)) (hq0 : kd q0 = 9) (hk : ∀ (μ : Mem), Ex a0 RX9 cX9_step 2 none 1 none (fun m => (none, m)) 188 [(0, .ref (a0 + q0)), (1, .int x1)] [] μ (k μ)) : ∀ (n : Nat) (μ : Mem), Ex a0 RX9 cX9_step 2 none 1 none (fun m => (none, m)) 126 [(0, .ref (a0 + q0)), (1, .int x1)] [] μ (f_X9_step_L126 F q0 x1 k n μ) := by
  intro n
  induction n with
  | zero => intro μ; exact Ex_none
  | succ n ih =>
    intro μ
    rw [f_X9_step_L126]
    refine Ex_aload_n dX9_step_126 rfl 0 rfl ?_
    refine Ex_callVR (n := 0) (dp2 := 0) [] cvX9_83 hq0 rfl rfl (by decide) (by decide) (Nat.le_of_ble_eq_true rfl) rfl (fun v hv => c_X9_here a0 F μ q0 hq0 hv) dX9_step_127 (fun v_20 hv_22 => ?_)
    refine Ex_bipush (v := 48) dX9_step_130 (by decide) ?_
    refine Ex_bipush (v := 57) dX9_step_132 (by decide) ?_
    refine Ex_callSR (n := 3) (dp2 := 0) [.int v_20, .int 48, .int 57] cvX9_72 rfl (by decide) (by decide) (Nat.le_of_ble_eq_true rfl) rfl (fun v hv => c_X9_in a0 F μ v_20 48 57 hv) dX9_step_134 (fun v_23 hv_25 => ?_)
    refine Ex_if_eq (tgt := 188) dX9_step_137 (by decide) ?_ ?_
    · exact hk μ
    · refine Ex_aload_n dX9_step_140 rfl 0 rfl ?_
      refine Ex_aload_n dX9_step_141 rfl 0 rfl ?_
      refine Ex_get (v := .int (gI μ q0 17)) fgX9_90 hq0 (by decide) rfl dX9_step_142 ?_
      refine Ex_bipush (v := 99) dX9_step_145 (by decide) ?_
      refine Ex_icmp_le (tgt := 157) dX9_step_147 (by decide) ?_ ?_
      · refine Ex_bipush (v := 10) dX9_step_157 (by decide) ?_
        refine Ex_aload_n dX9_step_159 rfl 0 rfl ?_
        refine Ex_get (v := .int (gI μ q0 17)) fgX9_90 hq0 (by decide) rfl dX9_step_160 ?_
        refine Ex_imul dX9_step_163 ?_
        refine Ex_aload_n dX9_step_164 rfl 0 rfl ?_
        refine Ex_callVR (n := 0) (dp2 := 0) [] cvX9_83 hq0 rfl rfl (by decide) (by decide) (Nat.le_of_ble_eq_true rfl) rfl (fun v hv => c_X9_here a0 F μ q0 hq0 hv) dX9_step_165 (fun v_26 hv_28 => ?_)
        refine Ex_iadd dX9_step_168 ?_
        refine Ex_bipush (v := 48) dX9_step_169 (by decide) ?_
        refine Ex_isub dX9_step_171 ?_
        refine Ex_putI fgX9_90 fp9_17 hq0 (by decide) rfl rfl (Nat.le_of_ble_eq_true rfl) (fs9_17 a0 μ q0 (((10 * (gI μ q0 17)) + v_26) - 48)) dX9_step_172 (fun μ_29 => ?_)
        refine Ex_aload_n dX9_step_175 rfl 0 rfl ?_
        refine Ex_dup dX9_step_176 rfl ?_
        refine Ex_get (v := .int (gI μ_29 q0 14)) fgX9_80 hq0 (by decide) rfl dX9_step_177 ?_
        refine Ex_iconst (v := 1) dX9_step_180 (by decide) ?_
        refine Ex_iadd dX9_step_181 ?_
        refine Ex_putI fgX9_80 fp9_14 hq0 (by decide) rfl rfl (Nat.le_of_ble_eq_true rfl) (fs9_14 a0 μ_29 q0 ((gI μ_29 q0 14) + 1)) dX9_step_182 (fun μ_30 => ?_)
        refine Ex_goto (tgt := 126) dX9_step_185 (by decide) ?_
        exact ih μ_30
      · refine Ex_aload_n dX9_step_150 rfl 0 rfl ?_
        refine Ex_get (v := .int (gI μ q0 17)) fgX9_90 hq0 (by decide) rfl dX9_step_151 ?_
        refine Ex_goto (tgt := 172) dX9_step_154 (by decide) ?_
        refine Ex_putI fgX9_90 fp9_17 hq0 (by decide) rfl rfl (Nat.le_of_ble_eq_true rfl) (fs9_17 a0 μ q0 (gI μ q0 17)) dX9_step_172 (fun μ_31 => ?_)
        refine Ex_aload_n dX9_step_175 rfl 0 rfl ?_
        refine Ex_dup dX9_step_176 rfl ?_
        refine Ex_get (v := .int (gI μ_31 q0 14)) fgX9_80 hq0 (by decide) rfl dX9_step_177 ?_
        refine Ex_iconst (v := 1) dX9_step_180 (by decide) ?_
        refine Ex_iadd dX9_step_181 ?_
        refine Ex_putI fgX9_80 fp9_14 hq0 (by decide) rfl rfl (Nat.le_of_ble_eq_true rfl) (fs9_14 a0 μ_31 q0 ((gI μ_31 q0 14) + 1)) dX9_step_182 (fun μ_32 => ?_)
        refine Ex_goto (tgt := 126) dX9_step_185 (by decide) ?_
        exact ih μ_32

def f_X9_step_L63 (F : Nat) (q0 : Nat) (x1 : Int32) (k : Mem → Option (Mem)) : Nat → Mem → Option (Mem)
  | 0, _ => none
  | n + 1, μ => (f_X9_here F μ q0).bind (fun v_38 => (f_X9_in F μ v_38 97 122).bind (fun v_41 => (if v_41 = 0 then k μ else lt (sI μ q0 14 ((gI μ q0 14) + 1)) (fun μ_44 => f_X9_step_L63 F q0 x1 k n μ_44))))
set_option maxRecDepth 100000 in
set_option maxHeartbeats 4000000 in
theorem c_X9_step_L63 (a0 : Nat) (F : Nat) (q0 : Nat) (x1 : Int32) (k : Mem → Option (Mem)) (hq0 : kd q0 = 9) (hk : ∀ (μ : Mem), Ex a0 RX9 cX9_step 2 none 1 none (fun m => (none, m)) 90 [(0, .ref (a0 + q0)), (1, .int x1)] [] μ (k μ)) : ∀ (n : Nat) (μ : Mem), Ex a0 RX9 cX9_step 2 none 1 none (fun m => (none, m)) 63 [(0, .ref (a0 + q0)), (1, .int x1)] [] μ (f_X9_step_L63 F q0 x1 k n μ) := by
  intro n
  induction n with
  | zero => intro μ; exact Ex_none
  | succ n ih =>
    intro μ
    rw [f_X9_step_L63]
    refine Ex_aload_n dX9_step_63 rfl 0 rfl ?_
    refine Ex_callVR (n := 0) (dp2 := 0) [] cvX9_83 hq0 rfl rfl (by decide) (by decide) (Nat.le_of_ble_eq_true rfl) rfl (fun v hv => c_X9_here a0 F μ q0 hq0 hv) dX9_step_64 (fun v_38 hv_40 => ?_)
    refine Ex_bipush (v := 97) dX9_step_67 (by decide) ?_
    refine Ex_bipush (v := 122) dX9_step_69 (by decide) ?_
    refine Ex_callSR (n := 3) (dp2 := 0) [.int v_38, .int 97, .int 122] cvX9_72 rfl (by decide) (by decide) (Nat.le_of_ble_eq_true rfl) rfl (fun v hv => c_X9_in a0 F μ v_38 97 122 hv) dX9_step_71 (fun v_41 hv_43 => ?_)
    refine Ex_if_eq (tgt := 90) dX9_step_74 (by decide) ?_ ?_
    · exact hk μ
    · refine Ex_aload_n dX9_step_77 rfl 0 rfl ?_
      refine Ex_dup dX9_step_78 rfl ?_
      refine Ex_get (v := .int (gI μ q0 14)) fgX9_80 hq0 (by decide) rfl dX9_step_79 ?_
      refine Ex_iconst (v := 1) dX9_step_82 (by decide) ?_
      refine Ex_iadd dX9_step_83 ?_
      refine Ex_putI fgX9_80 fp9_14 hq0 (by decide) rfl rfl (Nat.le_of_ble_eq_true rfl) (fs9_14 a0 μ q0 ((gI μ q0 14) + 1)) dX9_step_84 (fun μ_44 => ?_)
      refine Ex_goto (tgt := 63) dX9_step_87 (by decide) ?_
      exact ih μ_44
def f_X9_step (F : Nat) (μ : Mem) (t : Nat) : Option (Mem) := f_X9_step_L0 F t (fun μ_5 => lt (sI μ_5 t 15 (gI μ_5 t 14)) (fun μ_6 => lt (sI μ_6 t 17 0) (fun μ_7 => (f_X9_here F μ_7 t).bind (fun v_8 => (if v_8 < 0 then lt (sI μ_7 t 16 3) (fun μ_48 => some μ_48) else (f_X9_in F μ_7 v_8 97 122).bind (fun v_11 => (if v_11 = 0 then (f_X9_in F μ_7 v_8 48 57).bind (fun v_14 => (if v_14 = 0 then lt (sI μ_7 t 14 ((gI μ_7 t 14) + 1)) (fun μ_17 => (if v_8 = 59 then lt (sI μ_17 t 16 2) (fun μ_19 => some μ_19) else lt (sI μ_17 t 16 4) (fun μ_18 => some μ_18))) else f_X9_step_L126 F t v_8 (fun μ_33 => (if 99 < (gI μ_33 t 17) then lt (sI μ_33 t 16 4) (fun μ_34 => some μ_34) else (if v_8 = 48 then (if 1 < ((gI μ_33 t 14) - (gI μ_33 t 15)) then lt (sI μ_33 t 16 4) (fun μ_37 => some μ_37) else lt (sI μ_33 t 16 1) (fun μ_36 => some μ_36)) else lt (sI μ_33 t 16 1) (fun μ_35 => some μ_35)))) F μ_7)) else f_X9_step_L63 F t v_8 (fun μ_45 => (if ((gI μ_45 t 14) - (gI μ_45 t 15)) = 1 then lt (sI μ_45 t 16 v_8) (fun μ_47 => some μ_47) else lt (sI μ_45 t 16 4) (fun μ_46 => some μ_46))) F μ_7))))))) F μ
set_option maxRecDepth 100000 in
set_option maxHeartbeats 4000000 in
theorem c_X9_step (a0 F : Nat) (μ : Mem) (t : Nat) (hk0 : kd t = 9) {μ2 : Mem} (hr : f_X9_step F μ t = some μ2) : Ct a0 yX9_step cX9_step 2 none 1 [.ref (a0 + t)] μ none μ2 := by
  refine Ct_of (own := RX9) (ι := (fun m => (none, m))) (o := f_X9_step F μ t) (by decide +kernel) rfl (Nat.le_of_ble_eq_true rfl) ?_ hr rfl rfl
  show Ex a0 RX9 cX9_step 2 none 1 none (fun m => (none, m)) 0 [(0, .ref (a0 + t))] [] μ (f_X9_step F μ t)
  unfold f_X9_step
  refine c_X9_step_L0 a0 F t _ hk0 (fun μ_5 => ?_) F μ
  refine Ex_aload_n dX9_step_22 rfl 0 rfl ?_
  refine Ex_aload_n dX9_step_23 rfl 0 rfl ?_
  refine Ex_get (v := .int (gI μ_5 t 14)) fgX9_80 hk0 (by decide) rfl dX9_step_24 ?_
  refine Ex_putI fgX9_87 fp9_15 hk0 (by decide) rfl rfl (Nat.le_of_ble_eq_true rfl) (fs9_15 a0 μ_5 t (gI μ_5 t 14)) dX9_step_27 (fun μ_6 => ?_)
  refine Ex_aload_n dX9_step_30 rfl 0 rfl ?_
  refine Ex_iconst (v := 0) dX9_step_31 (by decide) ?_
  refine Ex_putI fgX9_90 fp9_17 hk0 (by decide) rfl rfl (Nat.le_of_ble_eq_true rfl) (fs9_17 a0 μ_6 t 0) dX9_step_32 (fun μ_7 => ?_)
  refine Ex_aload_n dX9_step_35 rfl 0 rfl ?_
  refine Ex_callVR (n := 0) (dp2 := 0) [] cvX9_83 hk0 rfl rfl (by decide) (by decide) (Nat.le_of_ble_eq_true rfl) rfl (fun v hv => c_X9_here a0 F μ_7 t hk0 hv) dX9_step_36 (fun v_8 hv_10 => ?_)
  refine Ex_istore_n (L2 := [(1, .int v_8), (0, .ref (a0 + t))]) dX9_step_39 rfl (by decide) rfl ?_
  refine Ex_iload_n dX9_step_40 rfl 0 rfl ?_
  refine Ex_if_ge (tgt := 52) dX9_step_41 (by decide) ?_ ?_
  · refine Ex_iload_n dX9_step_52 rfl 0 rfl ?_
    refine Ex_bipush (v := 97) dX9_step_53 (by decide) ?_
    refine Ex_bipush (v := 122) dX9_step_55 (by decide) ?_
    refine Ex_callSR (n := 3) (dp2 := 0) [.int v_8, .int 97, .int 122] cvX9_72 rfl (by decide) (by decide) (Nat.le_of_ble_eq_true rfl) rfl (fun v hv => c_X9_in a0 F μ_7 v_8 97 122 hv) dX9_step_57 (fun v_11 hv_13 => ?_)
    refine Ex_if_eq (tgt := 115) dX9_step_60 (by decide) ?_ ?_
    · refine Ex_iload_n dX9_step_115 rfl 0 rfl ?_
      refine Ex_bipush (v := 48) dX9_step_116 (by decide) ?_
      refine Ex_bipush (v := 57) dX9_step_118 (by decide) ?_
      refine Ex_callSR (n := 3) (dp2 := 0) [.int v_8, .int 48, .int 57] cvX9_72 rfl (by decide) (by decide) (Nat.le_of_ble_eq_true rfl) rfl (fun v hv => c_X9_in a0 F μ_7 v_8 48 57 hv) dX9_step_120 (fun v_14 hv_16 => ?_)
      refine Ex_if_eq (tgt := 228) dX9_step_123 (by decide) ?_ ?_
      · refine Ex_aload_n dX9_step_228 rfl 1 rfl ?_
        refine Ex_dup dX9_step_229 rfl ?_
        refine Ex_get (v := .int (gI μ_7 t 14)) fgX9_80 hk0 (by decide) rfl dX9_step_230 ?_
        refine Ex_iconst (v := 1) dX9_step_233 (by decide) ?_
        refine Ex_iadd dX9_step_234 ?_
        refine Ex_putI fgX9_80 fp9_14 hk0 (by decide) rfl rfl (Nat.le_of_ble_eq_true rfl) (fs9_14 a0 μ_7 t ((gI μ_7 t 14) + 1)) dX9_step_235 (fun μ_17 => ?_)
        refine Ex_aload_n dX9_step_238 rfl 1 rfl ?_
        refine Ex_iload_n dX9_step_239 rfl 0 rfl ?_
        refine Ex_bipush (v := 59) dX9_step_240 (by decide) ?_
        refine Ex_icmp_ne (tgt := 249) dX9_step_242 (by decide) ?_ ?_
        · refine Ex_iconst (v := 4) dX9_step_249 (by decide) ?_
          refine Ex_putI fgX9_93 fp9_16 hk0 (by decide) rfl rfl (Nat.le_of_ble_eq_true rfl) (fs9_16 a0 μ_17 t 4) dX9_step_250 (fun μ_18 => ?_)
          exact Ex_vret dX9_step_253 rfl
        · refine Ex_iconst (v := 2) dX9_step_245 (by decide) ?_
          refine Ex_goto (tgt := 250) dX9_step_246 (by decide) ?_
          refine Ex_putI fgX9_93 fp9_16 hk0 (by decide) rfl rfl (Nat.le_of_ble_eq_true rfl) (fs9_16 a0 μ_17 t 2) dX9_step_250 (fun μ_19 => ?_)
          exact Ex_vret dX9_step_253 rfl
      · refine Ex_perm [1, 0] rfl ?_
        refine c_X9_step_L126 a0 F t v_8 _ hk0 (fun μ_33 => ?_) F μ_7
        refine Ex_aload_n dX9_step_188 rfl 0 rfl ?_
        refine Ex_aload_n dX9_step_189 rfl 0 rfl ?_
        refine Ex_get (v := .int (gI μ_33 t 17)) fgX9_90 hk0 (by decide) rfl dX9_step_190 ?_
        refine Ex_bipush (v := 99) dX9_step_193 (by decide) ?_
        refine Ex_icmp_gt (tgt := 217) dX9_step_195 (by decide) ?_ ?_
        · refine Ex_iconst (v := 4) dX9_step_217 (by decide) ?_
          refine Ex_goto (tgt := 222) dX9_step_218 (by decide) ?_
          refine Ex_putI fgX9_93 fp9_16 hk0 (by decide) rfl rfl (Nat.le_of_ble_eq_true rfl) (fs9_16 a0 μ_33 t 4) dX9_step_222 (fun μ_34 => ?_)
          refine Ex_goto (tgt := 253) dX9_step_225 (by decide) ?_
          exact Ex_vret dX9_step_253 rfl
        · refine Ex_iload_n dX9_step_198 rfl 1 rfl ?_
          refine Ex_bipush (v := 48) dX9_step_199 (by decide) ?_
          refine Ex_icmp_ne (tgt := 221) dX9_step_201 (by decide) ?_ ?_
          · refine Ex_iconst (v := 1) dX9_step_221 (by decide) ?_
            refine Ex_putI fgX9_93 fp9_16 hk0 (by decide) rfl rfl (Nat.le_of_ble_eq_true rfl) (fs9_16 a0 μ_33 t 1) dX9_step_222 (fun μ_35 => ?_)
            refine Ex_goto (tgt := 253) dX9_step_225 (by decide) ?_
            exact Ex_vret dX9_step_253 rfl
          · refine Ex_aload_n dX9_step_204 rfl 0 rfl ?_
            refine Ex_get (v := .int (gI μ_33 t 14)) fgX9_80 hk0 (by decide) rfl dX9_step_205 ?_
            refine Ex_aload_n dX9_step_208 rfl 0 rfl ?_
            refine Ex_get (v := .int (gI μ_33 t 15)) fgX9_87 hk0 (by decide) rfl dX9_step_209 ?_
            refine Ex_isub dX9_step_212 ?_
            refine Ex_iconst (v := 1) dX9_step_213 (by decide) ?_
            refine Ex_icmp_le (tgt := 221) dX9_step_214 (by decide) ?_ ?_
            · refine Ex_iconst (v := 1) dX9_step_221 (by decide) ?_
              refine Ex_putI fgX9_93 fp9_16 hk0 (by decide) rfl rfl (Nat.le_of_ble_eq_true rfl) (fs9_16 a0 μ_33 t 1) dX9_step_222 (fun μ_36 => ?_)
              refine Ex_goto (tgt := 253) dX9_step_225 (by decide) ?_
              exact Ex_vret dX9_step_253 rfl
            · refine Ex_iconst (v := 4) dX9_step_217 (by decide) ?_
              refine Ex_goto (tgt := 222) dX9_step_218 (by decide) ?_
              refine Ex_putI fgX9_93 fp9_16 hk0 (by decide) rfl rfl (Nat.le_of_ble_eq_true rfl) (fs9_16 a0 μ_33 t 4) dX9_step_222 (fun μ_37 => ?_)
              refine Ex_goto (tgt := 253) dX9_step_225 (by decide) ?_
              exact Ex_vret dX9_step_253 rfl
    · refine Ex_perm [1, 0] rfl ?_
      refine c_X9_step_L63 a0 F t v_8 _ hk0 (fun μ_45 => ?_) F μ_7
      refine Ex_aload_n dX9_step_90 rfl 0 rfl ?_
      refine Ex_aload_n dX9_step_91 rfl 0 rfl ?_
      refine Ex_get (v := .int (gI μ_45 t 14)) fgX9_80 hk0 (by decide) rfl dX9_step_92 ?_
      refine Ex_aload_n dX9_step_95 rfl 0 rfl ?_
      refine Ex_get (v := .int (gI μ_45 t 15)) fgX9_87 hk0 (by decide) rfl dX9_step_96 ?_
      refine Ex_isub dX9_step_99 ?_
      refine Ex_iconst (v := 1) dX9_step_100 (by decide) ?_
      refine Ex_icmp_ne (tgt := 108) dX9_step_101 (by decide) ?_ ?_
      · refine Ex_iconst (v := 4) dX9_step_108 (by decide) ?_
        refine Ex_putI fgX9_93 fp9_16 hk0 (by decide) rfl rfl (Nat.le_of_ble_eq_true rfl) (fs9_16 a0 μ_45 t 4) dX9_step_109 (fun μ_46 => ?_)
        refine Ex_goto (tgt := 253) dX9_step_112 (by decide) ?_
        exact Ex_vret dX9_step_253 rfl
      · refine Ex_iload_n dX9_step_104 rfl 1 rfl ?_
        refine Ex_goto (tgt := 109) dX9_step_105 (by decide) ?_
        refine Ex_putI fgX9_93 fp9_16 hk0 (by decide) rfl rfl (Nat.le_of_ble_eq_true rfl) (fs9_16 a0 μ_45 t v_8) dX9_step_109 (fun μ_47 => ?_)
        refine Ex_goto (tgt := 253) dX9_step_112 (by decide) ?_
        exact Ex_vret dX9_step_253 rfl
  · refine Ex_aload_n dX9_step_44 rfl 1 rfl ?_
    refine Ex_iconst (v := 3) dX9_step_45 (by decide) ?_
    refine Ex_putI fgX9_93 fp9_16 hk0 (by decide) rfl rfl (Nat.le_of_ble_eq_true rfl) (fs9_16 a0 μ_7 t 3) dX9_step_46 (fun μ_48 => ?_)
    refine Ex_goto (tgt := 253) dX9_step_49 (by decide) ?_
    exact Ex_vret dX9_step_253 rfl

def f_X9_mayBe (F : Nat) (μ : Mem) (t : Nat) (p1 : Int32) (p2 : Int32) : Option (Int32) := (if p1 = 98 then (if ((gI μ t 13) &&& 1) = 0 then some 1 else some 0) else (if p1 = 99 then some 0 else (if p1 = 100 then some 0 else (if p1 = 101 then (if ((gI μ t 13) &&& 2) = 0 then some 1 else some 0) else (if p1 = 102 then some 0 else (if p1 = 103 then some 0 else (if p1 = 104 then some 0 else (if p1 = 105 then some 0 else (if p1 = 106 then some 0 else (if p1 = 107 then some 0 else (if p1 = 108 then (if (gI μ (t + 3) 1) < 8 then some 1 else some 0) else (if p1 = 109 then some 0 else (if p1 = 110 then (if p2 = 0 then some 1 else some 0) else (if p1 = 111 then some 0 else (if p1 = 112 then (if (gI μ (t + 7) 1) < 5 then some 1 else some 0) else some 0)))))))))))))))
set_option maxRecDepth 100000 in
set_option maxHeartbeats 4000000 in
theorem c_X9_mayBe (a0 F : Nat) (μ : Mem) (t : Nat) (p1 : Int32) (p2 : Int32) (hk0 : kd t = 9) {v : Int32} (hr : f_X9_mayBe F μ t p1 p2 = some v) : Ct a0 yX9_mayBe cX9_mayBe 3 (some .boolean) 0 [.ref (a0 + t), .int p1, .int p2] μ (some (.int v)) μ := by
  refine Ct_of (own := RX9) (ι := (fun v => (some (.int v), μ))) (o := f_X9_mayBe F μ t p1 p2) (by decide +kernel) rfl (Nat.le_of_ble_eq_true rfl) ?_ hr rfl ⟨_, rfl⟩
  show Ex a0 RX9 cX9_mayBe 3 (some .boolean) 0 none (fun v => (some (.int v), μ)) 0 [(0, .ref (a0 + t)), (1, .int p1), (2, .int p2)] [] μ (f_X9_mayBe F μ t p1 p2)
  unfold f_X9_mayBe
  refine Ex_iload_n dX9_mayBe_0 rfl 1 rfl ?_
  refine Ex_if (p1 = 98) (fun hc_1 => ?_) (fun hc_1 => ?_)
  · refine Ex_tblC (tgt := 119) dX9_mayBe_1 (i := 98) (by rw [hc_1]; rfl) (by decide) (by decide) (off := 118) rfl (by decide) ?_
    refine Ex_aload_n dX9_mayBe_119 rfl 0 rfl ?_
    refine Ex_get (v := .int (gI μ t 13)) fgX9_106 hk0 (by decide) rfl dX9_mayBe_120 ?_
    refine Ex_iconst (v := 1) dX9_mayBe_123 (by decide) ?_
    refine Ex_iand dX9_mayBe_124 ?_
    refine Ex_if_ne (tgt := 132) dX9_mayBe_125 (by decide) ?_ ?_
    · refine Ex_iconst (v := 0) dX9_mayBe_132 (by decide) ?_
      exact Ex_iret dX9_mayBe_133 rfl (fun ty h => by cases h; rfl)
    · refine Ex_iconst (v := 1) dX9_mayBe_128 (by decide) ?_
      refine Ex_goto (tgt := 133) dX9_mayBe_129 (by decide) ?_
      exact Ex_iret dX9_mayBe_133 rfl (fun ty h => by cases h; rfl)
  · refine Ex_if (p1 = 99) (fun hc_2 => ?_) (fun hc_2 => ?_)
    · refine Ex_tblC (tgt := 149) dX9_mayBe_1 (i := 99) (by rw [hc_2]; rfl) (by decide) (by decide) (off := 148) rfl (by decide) ?_
      refine Ex_iconst (v := 0) dX9_mayBe_149 (by decide) ?_
      exact Ex_iret dX9_mayBe_150 rfl (fun ty h => by cases h; rfl)
    · refine Ex_if (p1 = 100) (fun hc_3 => ?_) (fun hc_3 => ?_)
      · refine Ex_tblC (tgt := 149) dX9_mayBe_1 (i := 100) (by rw [hc_3]; rfl) (by decide) (by decide) (off := 148) rfl (by decide) ?_
        refine Ex_iconst (v := 0) dX9_mayBe_149 (by decide) ?_
        exact Ex_iret dX9_mayBe_150 rfl (fun ty h => by cases h; rfl)
      · refine Ex_if (p1 = 101) (fun hc_4 => ?_) (fun hc_4 => ?_)
        · refine Ex_tblC (tgt := 134) dX9_mayBe_1 (i := 101) (by rw [hc_4]; rfl) (by decide) (by decide) (off := 133) rfl (by decide) ?_
          refine Ex_aload_n dX9_mayBe_134 rfl 0 rfl ?_
          refine Ex_get (v := .int (gI μ t 13)) fgX9_106 hk0 (by decide) rfl dX9_mayBe_135 ?_
          refine Ex_iconst (v := 2) dX9_mayBe_138 (by decide) ?_
          refine Ex_iand dX9_mayBe_139 ?_
          refine Ex_if_ne (tgt := 147) dX9_mayBe_140 (by decide) ?_ ?_
          · refine Ex_iconst (v := 0) dX9_mayBe_147 (by decide) ?_
            exact Ex_iret dX9_mayBe_148 rfl (fun ty h => by cases h; rfl)
          · refine Ex_iconst (v := 1) dX9_mayBe_143 (by decide) ?_
            refine Ex_goto (tgt := 148) dX9_mayBe_144 (by decide) ?_
            exact Ex_iret dX9_mayBe_148 rfl (fun ty h => by cases h; rfl)
        · refine Ex_if (p1 = 102) (fun hc_5 => ?_) (fun hc_5 => ?_)
          · refine Ex_tblC (tgt := 149) dX9_mayBe_1 (i := 102) (by rw [hc_5]; rfl) (by decide) (by decide) (off := 148) rfl (by decide) ?_
            refine Ex_iconst (v := 0) dX9_mayBe_149 (by decide) ?_
            exact Ex_iret dX9_mayBe_150 rfl (fun ty h => by cases h; rfl)
          · refine Ex_if (p1 = 103) (fun hc_6 => ?_) (fun hc_6 => ?_)
            · refine Ex_tblC (tgt := 149) dX9_mayBe_1 (i := 103) (by rw [hc_6]; rfl) (by decide) (by decide) (off := 148) rfl (by decide) ?_
              refine Ex_iconst (v := 0) dX9_mayBe_149 (by decide) ?_
              exact Ex_iret dX9_mayBe_150 rfl (fun ty h => by cases h; rfl)
            · refine Ex_if (p1 = 104) (fun hc_7 => ?_) (fun hc_7 => ?_)
              · refine Ex_tblC (tgt := 149) dX9_mayBe_1 (i := 104) (by rw [hc_7]; rfl) (by decide) (by decide) (off := 148) rfl (by decide) ?_
                refine Ex_iconst (v := 0) dX9_mayBe_149 (by decide) ?_
                exact Ex_iret dX9_mayBe_150 rfl (fun ty h => by cases h; rfl)
              · refine Ex_if (p1 = 105) (fun hc_8 => ?_) (fun hc_8 => ?_)
                · refine Ex_tblC (tgt := 149) dX9_mayBe_1 (i := 105) (by rw [hc_8]; rfl) (by decide) (by decide) (off := 148) rfl (by decide) ?_
                  refine Ex_iconst (v := 0) dX9_mayBe_149 (by decide) ?_
                  exact Ex_iret dX9_mayBe_150 rfl (fun ty h => by cases h; rfl)
                · refine Ex_if (p1 = 106) (fun hc_9 => ?_) (fun hc_9 => ?_)
                  · refine Ex_tblC (tgt := 149) dX9_mayBe_1 (i := 106) (by rw [hc_9]; rfl) (by decide) (by decide) (off := 148) rfl (by decide) ?_
                    refine Ex_iconst (v := 0) dX9_mayBe_149 (by decide) ?_
                    exact Ex_iret dX9_mayBe_150 rfl (fun ty h => by cases h; rfl)
                  · refine Ex_if (p1 = 107) (fun hc_10 => ?_) (fun hc_10 => ?_)
                    · refine Ex_tblC (tgt := 149) dX9_mayBe_1 (i := 107) (by rw [hc_10]; rfl) (by decide) (by decide) (off := 148) rfl (by decide) ?_
                      refine Ex_iconst (v := 0) dX9_mayBe_149 (by decide) ?_
                      exact Ex_iret dX9_mayBe_150 rfl (fun ty h => by cases h; rfl)
                    · refine Ex_if (p1 = 108) (fun hc_11 => ?_) (fun hc_11 => ?_)
                      · refine Ex_tblC (tgt := 86) dX9_mayBe_1 (i := 108) (by rw [hc_11]; rfl) (by decide) (by decide) (off := 85) rfl (by decide) ?_
                        refine Ex_aload_n dX9_mayBe_86 rfl 0 rfl ?_
                        refine Ex_get (v := .ref (a0 + (t + 3))) fgX9_17 hk0 (by decide) rfl dX9_mayBe_87 ?_
                        refine Ex_iconst (v := 1) dX9_mayBe_90 (by decide) ?_
                        refine Ex_ialdC (j := 1) 2 (kn_9_3 hk0) (by decide) (by decide) (by decide) dX9_mayBe_91 ?_
                        refine Ex_bipush (v := 8) dX9_mayBe_92 (by decide) ?_
                        refine Ex_icmp_ge (tgt := 101) dX9_mayBe_94 (by decide) ?_ ?_
                        · refine Ex_iconst (v := 0) dX9_mayBe_101 (by decide) ?_
                          exact Ex_iret dX9_mayBe_102 rfl (fun ty h => by cases h; rfl)
                        · refine Ex_iconst (v := 1) dX9_mayBe_97 (by decide) ?_
                          refine Ex_goto (tgt := 102) dX9_mayBe_98 (by decide) ?_
                          exact Ex_iret dX9_mayBe_102 rfl (fun ty h => by cases h; rfl)
                      · refine Ex_if (p1 = 109) (fun hc_12 => ?_) (fun hc_12 => ?_)
                        · refine Ex_tblC (tgt := 149) dX9_mayBe_1 (i := 109) (by rw [hc_12]; rfl) (by decide) (by decide) (off := 148) rfl (by decide) ?_
                          refine Ex_iconst (v := 0) dX9_mayBe_149 (by decide) ?_
                          exact Ex_iret dX9_mayBe_150 rfl (fun ty h => by cases h; rfl)
                        · refine Ex_if (p1 = 110) (fun hc_13 => ?_) (fun hc_13 => ?_)
                          · refine Ex_tblC (tgt := 76) dX9_mayBe_1 (i := 110) (by rw [hc_13]; rfl) (by decide) (by decide) (off := 75) rfl (by decide) ?_
                            refine Ex_iload_n dX9_mayBe_76 rfl 2 rfl ?_
                            refine Ex_if_ne (tgt := 84) dX9_mayBe_77 (by decide) ?_ ?_
                            · refine Ex_iconst (v := 0) dX9_mayBe_84 (by decide) ?_
                              exact Ex_iret dX9_mayBe_85 rfl (fun ty h => by cases h; rfl)
                            · refine Ex_iconst (v := 1) dX9_mayBe_80 (by decide) ?_
                              refine Ex_goto (tgt := 85) dX9_mayBe_81 (by decide) ?_
                              exact Ex_iret dX9_mayBe_85 rfl (fun ty h => by cases h; rfl)
                          · refine Ex_if (p1 = 111) (fun hc_14 => ?_) (fun hc_14 => ?_)
                            · refine Ex_tblC (tgt := 149) dX9_mayBe_1 (i := 111) (by rw [hc_14]; rfl) (by decide) (by decide) (off := 148) rfl (by decide) ?_
                              refine Ex_iconst (v := 0) dX9_mayBe_149 (by decide) ?_
                              exact Ex_iret dX9_mayBe_150 rfl (fun ty h => by cases h; rfl)
                            · refine Ex_if (p1 = 112) (fun hc_15 => ?_) (fun hc_15 => ?_)
                              · refine Ex_tblC (tgt := 103) dX9_mayBe_1 (i := 112) (by rw [hc_15]; rfl) (by decide) (by decide) (off := 102) rfl (by decide) ?_
                                refine Ex_aload_n dX9_mayBe_103 rfl 0 rfl ?_
                                refine Ex_get (v := .ref (a0 + (t + 7))) fgX9_29 hk0 (by decide) rfl dX9_mayBe_104 ?_
                                refine Ex_iconst (v := 1) dX9_mayBe_107 (by decide) ?_
                                refine Ex_ialdC (j := 1) 2 (kn_9_7 hk0) (by decide) (by decide) (by decide) dX9_mayBe_108 ?_
                                refine Ex_iconst (v := 5) dX9_mayBe_109 (by decide) ?_
                                refine Ex_icmp_ge (tgt := 117) dX9_mayBe_110 (by decide) ?_ ?_
                                · refine Ex_iconst (v := 0) dX9_mayBe_117 (by decide) ?_
                                  exact Ex_iret dX9_mayBe_118 rfl (fun ty h => by cases h; rfl)
                                · refine Ex_iconst (v := 1) dX9_mayBe_113 (by decide) ?_
                                  refine Ex_goto (tgt := 118) dX9_mayBe_114 (by decide) ?_
                                  exact Ex_iret dX9_mayBe_118 rfl (fun ty h => by cases h; rfl)
                              · refine Ex_tblD (tgt := 149) dX9_mayBe_1 (by have q98 := lv_neT hc_1 (show (98 : Int32).toInt = 98 from rfl); have q99 := lv_neT hc_2 (show (99 : Int32).toInt = 99 from rfl); have q100 := lv_neT hc_3 (show (100 : Int32).toInt = 100 from rfl); have q101 := lv_neT hc_4 (show (101 : Int32).toInt = 101 from rfl); have q102 := lv_neT hc_5 (show (102 : Int32).toInt = 102 from rfl); have q103 := lv_neT hc_6 (show (103 : Int32).toInt = 103 from rfl); have q104 := lv_neT hc_7 (show (104 : Int32).toInt = 104 from rfl); have q105 := lv_neT hc_8 (show (105 : Int32).toInt = 105 from rfl); have q106 := lv_neT hc_9 (show (106 : Int32).toInt = 106 from rfl); have q107 := lv_neT hc_10 (show (107 : Int32).toInt = 107 from rfl); have q108 := lv_neT hc_11 (show (108 : Int32).toInt = 108 from rfl); have q109 := lv_neT hc_12 (show (109 : Int32).toInt = 109 from rfl); have q110 := lv_neT hc_13 (show (110 : Int32).toInt = 110 from rfl); have q111 := lv_neT hc_14 (show (111 : Int32).toInt = 111 from rfl); have q112 := lv_neT hc_15 (show (112 : Int32).toInt = 112 from rfl); omega) (by decide) ?_
                                refine Ex_iconst (v := 0) dX9_mayBe_149 (by decide) ?_
                                exact Ex_iret dX9_mayBe_150 rfl (fun ty h => by cases h; rfl)

def f_X9_due (F : Nat) (μ : Mem) (t : Nat) (p1 : Int32) : Option (Int32 × Mem) := (if (gI μ t 18) = (-9) then (if p1 = 0 then lt (sI μ t 18 (gI μ t 15)) (fun μ_1 => some (gI μ t 17, μ_1)) else (f_X9_step F μ t).bind (fun μ_3 => some (gI μ t 17, μ_3))) else some (gI μ t 17, μ))
set_option maxRecDepth 100000 in
set_option maxHeartbeats 4000000 in
theorem c_X9_due (a0 F : Nat) (μ : Mem) (t : Nat) (p1 : Int32) (hk0 : kd t = 9) {v : Int32} {μ2 : Mem} (hr : f_X9_due F μ t p1 = some (v, μ2)) : Ct a0 yX9_due cX9_due 3 (some .int) 2 [.ref (a0 + t), .int p1] μ (some (.int v)) μ2 := by
  refine Ct_of (own := RX9) (ι := (fun x => (some (.int x.1), x.2))) (o := f_X9_due F μ t p1) (by decide +kernel) rfl (Nat.le_of_ble_eq_true rfl) ?_ hr rfl ⟨_, rfl⟩
  show Ex a0 RX9 cX9_due 3 (some .int) 2 none (fun x => (some (.int x.1), x.2)) 0 [(0, .ref (a0 + t)), (1, .int p1)] [] μ (f_X9_due F μ t p1)
  unfold f_X9_due
  refine Ex_aload_n dX9_due_0 rfl 0 rfl ?_
  refine Ex_get (v := .int (gI μ t 17)) fgX9_90 hk0 (by decide) rfl dX9_due_1 ?_
  refine Ex_istore_n (L2 := [(2, .int (gI μ t 17)), (0, .ref (a0 + t)), (1, .int p1)]) dX9_due_4 rfl (by decide) rfl ?_
  refine Ex_aload_n dX9_due_5 rfl 1 rfl ?_
  refine Ex_get (v := .int (gI μ t 18)) fgX9_96 hk0 (by decide) rfl dX9_due_6 ?_
  refine Ex_bipush (v := (-9)) dX9_due_9 (by decide) ?_
  refine Ex_icmp_ne (tgt := 33) dX9_due_11 (by decide) ?_ ?_
  · refine Ex_iload_n dX9_due_33 rfl 0 rfl ?_
    exact Ex_iret dX9_due_34 rfl (fun ty h => by cases h; rfl)
  · refine Ex_iload_n dX9_due_14 rfl 2 rfl ?_
    refine Ex_if_eq (tgt := 25) dX9_due_15 (by decide) ?_ ?_
    · refine Ex_aload_n dX9_due_25 rfl 1 rfl ?_
      refine Ex_aload_n dX9_due_26 rfl 1 rfl ?_
      refine Ex_get (v := .int (gI μ t 15)) fgX9_87 hk0 (by decide) rfl dX9_due_27 ?_
      refine Ex_putI fgX9_96 fp9_18 hk0 (by decide) rfl rfl (Nat.le_of_ble_eq_true rfl) (fs9_18 a0 μ t (gI μ t 15)) dX9_due_30 (fun μ_1 => ?_)
      refine Ex_iload_n dX9_due_33 rfl 0 rfl ?_
      exact Ex_iret dX9_due_34 rfl (fun ty h => by cases h; rfl)
    · refine Ex_aload_n dX9_due_18 rfl 1 rfl ?_
      refine Ex_callVV (n := 0) (dp2 := 1) [] cvX9_99 hk0 rfl rfl (by decide) (by decide) (Nat.le_of_ble_eq_true rfl) rfl (fun μ2 hv => c_X9_step a0 F μ t hk0 hv) dX9_due_19 (fun μ_3 hv_4 => ?_)
      refine Ex_goto (tgt := 33) dX9_due_22 (by decide) ?_
      refine Ex_iload_n dX9_due_33 rfl 0 rfl ?_
      exact Ex_iret dX9_due_34 rfl (fun ty h => by cases h; rfl)

def f_X9_number (F : Nat) (μ : Mem) (t : Nat) (p1 : Int32) (p2 : Int32) : Option (Int32 × Mem) := (if (gI μ t 16) = 1 then (f_X9_in F μ (gI μ t 17) p1 p2).bind (fun v_4 => (if v_4 = 0 then bW (f_X9_due F μ t 0) (fun v_7 μ_8 => some (v_7, μ_8)) else bW (f_X9_due F μ t 1) (fun v_10 μ_11 => some (v_10, μ_11)))) else bW (f_X9_due F μ t 0) (fun v_1 μ_2 => some (v_1, μ_2)))
set_option maxRecDepth 100000 in
set_option maxHeartbeats 4000000 in
theorem c_X9_number (a0 F : Nat) (μ : Mem) (t : Nat) (p1 : Int32) (p2 : Int32) (hk0 : kd t = 9) {v : Int32} {μ2 : Mem} (hr : f_X9_number F μ t p1 p2 = some (v, μ2)) : Ct a0 yX9_number cX9_number 3 (some .int) 3 [.ref (a0 + t), .int p1, .int p2] μ (some (.int v)) μ2 := by
  refine Ct_of (own := RX9) (ι := (fun x => (some (.int x.1), x.2))) (o := f_X9_number F μ t p1 p2) (by decide +kernel) rfl (Nat.le_of_ble_eq_true rfl) ?_ hr rfl ⟨_, rfl⟩
  show Ex a0 RX9 cX9_number 3 (some .int) 3 none (fun x => (some (.int x.1), x.2)) 0 [(0, .ref (a0 + t)), (1, .int p1), (2, .int p2)] [] μ (f_X9_number F μ t p1 p2)
  unfold f_X9_number
  refine Ex_aload_n dX9_number_0 rfl 0 rfl ?_
  refine Ex_aload_n dX9_number_1 rfl 0 rfl ?_
  refine Ex_get (v := .int (gI μ t 16)) fgX9_93 hk0 (by decide) rfl dX9_number_2 ?_
  refine Ex_iconst (v := 1) dX9_number_5 (by decide) ?_
  refine Ex_icmp_ne (tgt := 25) dX9_number_6 (by decide) ?_ ?_
  · refine Ex_iconst (v := 0) dX9_number_25 (by decide) ?_
    refine Ex_callVW (n := 1) (dp2 := 2) [.int 0] cvX9_102 hk0 rfl rfl (by decide) (by decide) (Nat.le_of_ble_eq_true rfl) rfl (fun v μ2 hv => c_X9_due a0 F μ t 0 hk0 hv) dX9_number_26 (fun v_1 μ_2 hv_3 => ?_)
    exact Ex_iret dX9_number_29 rfl (fun ty h => by cases h; rfl)
  · refine Ex_aload_n dX9_number_9 rfl 0 rfl ?_
    refine Ex_get (v := .int (gI μ t 17)) fgX9_90 hk0 (by decide) rfl dX9_number_10 ?_
    refine Ex_iload_n dX9_number_13 rfl 1 rfl ?_
    refine Ex_iload_n dX9_number_14 rfl 2 rfl ?_
    refine Ex_callSR (n := 3) (dp2 := 0) [.int (gI μ t 17), .int p1, .int p2] cvX9_72 rfl (by decide) (by decide) (Nat.le_of_ble_eq_true rfl) rfl (fun v hv => c_X9_in a0 F μ (gI μ t 17) p1 p2 hv) dX9_number_15 (fun v_4 hv_6 => ?_)
    refine Ex_if_eq (tgt := 25) dX9_number_18 (by decide) ?_ ?_
    · refine Ex_iconst (v := 0) dX9_number_25 (by decide) ?_
      refine Ex_callVW (n := 1) (dp2 := 2) [.int 0] cvX9_102 hk0 rfl rfl (by decide) (by decide) (Nat.le_of_ble_eq_true rfl) rfl (fun v μ2 hv => c_X9_due a0 F μ t 0 hk0 hv) dX9_number_26 (fun v_7 μ_8 hv_9 => ?_)
      exact Ex_iret dX9_number_29 rfl (fun ty h => by cases h; rfl)
    · refine Ex_iconst (v := 1) dX9_number_21 (by decide) ?_
      refine Ex_goto (tgt := 26) dX9_number_22 (by decide) ?_
      refine Ex_callVW (n := 1) (dp2 := 2) [.int 1] cvX9_102 hk0 rfl rfl (by decide) (by decide) (Nat.le_of_ble_eq_true rfl) rfl (fun v μ2 hv => c_X9_due a0 F μ t 1 hk0 hv) dX9_number_26 (fun v_10 μ_11 hv_12 => ?_)
      exact Ex_iret dX9_number_29 rfl (fun ty h => by cases h; rfl)

def f_X9_readRow (F : Nat) (μ : Mem) (t : Nat) (p1 : Int32) : Option (Mem) := (if p1 = 98 then bW (f_X9_number F μ t 1 9) (fun v_2 μ_3 => lt (sI μ_3 (t + 10) 1 v_2) (fun μ_5 => lt (sI μ_5 t 13 ((gI μ_5 t 13) ||| 1)) (fun μ_6 => some μ_6))) else (if p1 = 108 then bW (f_X9_number F μ t 0 ((gI μ (t + 2) 1) - 1)) (fun v_8 μ_9 => if ix (8 + (gI μ (t + 3) 1)) 16 = true then lt (sI μ_9 (t + 4) ((8 + (gI μ (t + 3) 1)).toNatClampNeg) v_8) (fun μ_11 => (if (gI μ_11 t 16) = 1 then (if (gI μ_11 t 17) < (gI μ_11 (t + 2) 1) then if ix (8 + (gI μ (t + 3) 1)) 16 = true then (if (gI μ_11 t 17) = (gI μ_11 (t + 4) ((8 + (gI μ (t + 3) 1)).toNatClampNeg)) then bW (f_X9_due F μ_11 t 0) (fun v_30 μ_31 => if ix (8 + (gI μ (t + 3) 1)) 16 = true then lt (sI μ_31 (t + 5) ((8 + (gI μ (t + 3) 1)).toNatClampNeg) v_30) (fun μ_33 => bW (f_X9_number F μ_33 t 1 40) (fun v_34 μ_35 => if ix (8 + (gI μ (t + 3) 1)) 16 = true then lt (sI μ_35 (t + 6) ((8 + (gI μ (t + 3) 1)).toNatClampNeg) v_34) (fun μ_37 => lt (sI μ_37 (t + 3) 1 ((gI μ_37 (t + 3) 1) + 1)) (fun μ_38 => some μ_38)) else none)) else none) else bW (f_X9_due F μ_11 t 1) (fun v_39 μ_40 => if ix (8 + (gI μ (t + 3) 1)) 16 = true then lt (sI μ_40 (t + 5) ((8 + (gI μ (t + 3) 1)).toNatClampNeg) v_39) (fun μ_42 => bW (f_X9_number F μ_42 t 1 40) (fun v_43 μ_44 => if ix (8 + (gI μ (t + 3) 1)) 16 = true then lt (sI μ_44 (t + 6) ((8 + (gI μ (t + 3) 1)).toNatClampNeg) v_43) (fun μ_46 => lt (sI μ_46 (t + 3) 1 ((gI μ_46 (t + 3) 1) + 1)) (fun μ_47 => some μ_47)) else none)) else none)) else none else bW (f_X9_due F μ_11 t 0) (fun v_21 μ_22 => if ix (8 + (gI μ (t + 3) 1)) 16 = true then lt (sI μ_22 (t + 5) ((8 + (gI μ (t + 3) 1)).toNatClampNeg) v_21) (fun μ_24 => bW (f_X9_number F μ_24 t 1 40) (fun v_25 μ_26 => if ix (8 + (gI μ (t + 3) 1)) 16 = true then lt (sI μ_26 (t + 6) ((8 + (gI μ (t + 3) 1)).toNatClampNeg) v_25) (fun μ_28 => lt (sI μ_28 (t + 3) 1 ((gI μ_28 (t + 3) 1) + 1)) (fun μ_29 => some μ_29)) else none)) else none)) else bW (f_X9_due F μ_11 t 0) (fun v_12 μ_13 => if ix (8 + (gI μ (t + 3) 1)) 16 = true then lt (sI μ_13 (t + 5) ((8 + (gI μ (t + 3) 1)).toNatClampNeg) v_12) (fun μ_15 => bW (f_X9_number F μ_15 t 1 40) (fun v_16 μ_17 => if ix (8 + (gI μ (t + 3) 1)) 16 = true then lt (sI μ_17 (t + 6) ((8 + (gI μ (t + 3) 1)).toNatClampNeg) v_16) (fun μ_19 => lt (sI μ_19 (t + 3) 1 ((gI μ_19 (t + 3) 1) + 1)) (fun μ_20 => some μ_20)) else none)) else none))) else none) else (if p1 = 110 then bW (f_X9_number F μ t 2 8) (fun v_49 μ_50 => lt (sI μ_50 (t + 2) 1 v_49) (fun μ_52 => some μ_52)) else (if p1 = 112 then bW (f_X9_number F μ t 0 9) (fun v_54 μ_55 => if ix (gI μ (t + 7) 1) 5 = true then lt (sI μ_55 (t + 8) ((gI μ (t + 7) 1).toNatClampNeg) v_54) (fun μ_57 => bW (f_X9_number F μ_57 t 0 ((gI μ_57 (t + 2) 1) - 1)) (fun v_58 μ_59 => if ix (gI μ_57 (t + 7) 1) 5 = true then lt (sI μ_59 (t + 9) ((gI μ_57 (t + 7) 1).toNatClampNeg) v_58) (fun μ_61 => lt (sI μ_61 (t + 7) 1 ((gI μ_61 (t + 7) 1) + 1)) (fun μ_62 => some μ_62)) else none)) else none) else bW (f_X9_number F μ t 0 3) (fun v_63 μ_64 => lt (sI μ_64 (t + 11) 1 v_63) (fun μ_66 => lt (sI μ_66 t 13 ((gI μ_66 t 13) ||| 2)) (fun μ_67 => some μ_67)))))))
set_option maxRecDepth 100000 in
set_option maxHeartbeats 4000000 in
theorem c_X9_readRow (a0 F : Nat) (μ : Mem) (t : Nat) (p1 : Int32) (hk0 : kd t = 9) {μ2 : Mem} (hr : f_X9_readRow F μ t p1 = some μ2) : Ct a0 yX9_readRow cX9_readRow 3 none 4 [.ref (a0 + t), .int p1] μ none μ2 := by
  refine Ct_of (own := RX9) (ι := (fun m => (none, m))) (o := f_X9_readRow F μ t p1) (by decide +kernel) rfl (Nat.le_of_ble_eq_true rfl) ?_ hr rfl rfl
  show Ex a0 RX9 cX9_readRow 3 none 4 none (fun m => (none, m)) 0 [(0, .ref (a0 + t)), (1, .int p1)] [] μ (f_X9_readRow F μ t p1)
  unfold f_X9_readRow
  refine Ex_iload_n dX9_readRow_0 rfl 1 rfl ?_
  refine Ex_if (p1 = 98) (fun hc_1 => ?_) (fun hc_1 => ?_)
  · refine Ex_look (tgt := 219) dX9_readRow_1 (by decide) (off := 218) (by rw [hc_1]; rfl) (by decide) ?_
    refine Ex_aload_n dX9_readRow_219 rfl 0 rfl ?_
    refine Ex_get (v := .ref (a0 + (t + 10))) fgX9_38 hk0 (by decide) rfl dX9_readRow_220 ?_
    refine Ex_iconst (v := 1) dX9_readRow_223 (by decide) ?_
    refine Ex_aload_n dX9_readRow_224 rfl 0 rfl ?_
    refine Ex_iconst (v := 1) dX9_readRow_225 (by decide) ?_
    refine Ex_bipush (v := 9) dX9_readRow_226 (by decide) ?_
    refine Ex_callVW (n := 2) (dp2 := 3) [.int 1, .int 9] cvX9_109 hk0 rfl rfl (by decide) (by decide) (Nat.le_of_ble_eq_true rfl) rfl (fun v μ2 hv => c_X9_number a0 F μ t 1 9 hk0 hv) dX9_readRow_228 (fun v_2 μ_3 hv_4 => ?_)
    refine Ex_iastC (j := 1) 2 (kn_9_10 hk0) (by decide) (by decide) (by decide) dX9_readRow_231 (fun μ_5 => ?_)
    refine Ex_aload_n dX9_readRow_232 rfl 0 rfl ?_
    refine Ex_dup dX9_readRow_233 rfl ?_
    refine Ex_get (v := .int (gI μ_5 t 13)) fgX9_106 hk0 (by decide) rfl dX9_readRow_234 ?_
    refine Ex_iconst (v := 1) dX9_readRow_237 (by decide) ?_
    refine Ex_ior dX9_readRow_238 ?_
    refine Ex_putI fgX9_106 fp9_13 hk0 (by decide) rfl rfl (Nat.le_of_ble_eq_true rfl) (fs9_13 a0 μ_5 t ((gI μ_5 t 13) ||| 1)) dX9_readRow_239 (fun μ_6 => ?_)
    refine Ex_goto (tgt := 267) dX9_readRow_242 (by decide) ?_
    exact Ex_vret dX9_readRow_267 rfl
  · refine Ex_if (p1 = 108) (fun hc_7 => ?_) (fun hc_7 => ?_)
    · refine Ex_look (tgt := 60) dX9_readRow_1 (by decide) (off := 59) (by rw [hc_7]; rfl) (by decide) ?_
      refine Ex_bipush (v := 8) dX9_readRow_60 (by decide) ?_
      refine Ex_aload_n dX9_readRow_62 rfl 0 rfl ?_
      refine Ex_get (v := .ref (a0 + (t + 3))) fgX9_17 hk0 (by decide) rfl dX9_readRow_63 ?_
      refine Ex_iconst (v := 1) dX9_readRow_66 (by decide) ?_
      refine Ex_ialdC (j := 1) 2 (kn_9_3 hk0) (by decide) (by decide) (by decide) dX9_readRow_67 ?_
      refine Ex_iadd dX9_readRow_68 ?_
      refine Ex_istore_n (L2 := [(2, .int (8 + (gI μ (t + 3) 1))), (0, .ref (a0 + t)), (1, .int p1)]) dX9_readRow_69 rfl (by decide) rfl ?_
      refine Ex_aload_n dX9_readRow_70 rfl 1 rfl ?_
      refine Ex_get (v := .ref (a0 + (t + 4))) fgX9_20 hk0 (by decide) rfl dX9_readRow_71 ?_
      refine Ex_iload_n dX9_readRow_74 rfl 0 rfl ?_
      refine Ex_aload_n dX9_readRow_75 rfl 1 rfl ?_
      refine Ex_iconst (v := 0) dX9_readRow_76 (by decide) ?_
      refine Ex_aload_n dX9_readRow_77 rfl 1 rfl ?_
      refine Ex_get (v := .ref (a0 + (t + 2))) fgX9_13 hk0 (by decide) rfl dX9_readRow_78 ?_
      refine Ex_iconst (v := 1) dX9_readRow_81 (by decide) ?_
      refine Ex_ialdC (j := 1) 2 (kn_9_2 hk0) (by decide) (by decide) (by decide) dX9_readRow_82 ?_
      refine Ex_iconst (v := 1) dX9_readRow_83 (by decide) ?_
      refine Ex_isub dX9_readRow_84 ?_
      refine Ex_callVW (n := 2) (dp2 := 3) [.int 0, .int ((gI μ (t + 2) 1) - 1)] cvX9_109 hk0 rfl rfl (by decide) (by decide) (Nat.le_of_ble_eq_true rfl) rfl (fun v μ2 hv => c_X9_number a0 F μ t 0 ((gI μ (t + 2) 1) - 1) hk0 hv) dX9_readRow_85 (fun v_8 μ_9 hv_10 => ?_)
      refine Ex_iast 16 (kn_9_4 hk0) (by decide) dX9_readRow_88 (fun μ_11 => ?_)
      refine Ex_aload_n dX9_readRow_89 rfl 1 rfl ?_
      refine Ex_get (v := .ref (a0 + (t + 5))) fgX9_23 hk0 (by decide) rfl dX9_readRow_90 ?_
      refine Ex_iload_n dX9_readRow_93 rfl 0 rfl ?_
      refine Ex_aload_n dX9_readRow_94 rfl 1 rfl ?_
      refine Ex_aload_n dX9_readRow_95 rfl 1 rfl ?_
      refine Ex_get (v := .int (gI μ_11 t 16)) fgX9_93 hk0 (by decide) rfl dX9_readRow_96 ?_
      refine Ex_iconst (v := 1) dX9_readRow_99 (by decide) ?_
      refine Ex_icmp_ne (tgt := 133) dX9_readRow_100 (by decide) ?_ ?_
      · refine Ex_iconst (v := 0) dX9_readRow_133 (by decide) ?_
        refine Ex_callVW (n := 1) (dp2 := 2) [.int 0] cvX9_102 hk0 rfl rfl (by decide) (by decide) (Nat.le_of_ble_eq_true rfl) rfl (fun v μ2 hv => c_X9_due a0 F μ_11 t 0 hk0 hv) dX9_readRow_134 (fun v_12 μ_13 hv_14 => ?_)
        refine Ex_iast 16 (kn_9_5 hk0) (by decide) dX9_readRow_137 (fun μ_15 => ?_)
        refine Ex_aload_n dX9_readRow_138 rfl 1 rfl ?_
        refine Ex_get (v := .ref (a0 + (t + 6))) fgX9_26 hk0 (by decide) rfl dX9_readRow_139 ?_
        refine Ex_iload_n dX9_readRow_142 rfl 0 rfl ?_
        refine Ex_aload_n dX9_readRow_143 rfl 1 rfl ?_
        refine Ex_iconst (v := 1) dX9_readRow_144 (by decide) ?_
        refine Ex_bipush (v := 40) dX9_readRow_145 (by decide) ?_
        refine Ex_callVW (n := 2) (dp2 := 3) [.int 1, .int 40] cvX9_109 hk0 rfl rfl (by decide) (by decide) (Nat.le_of_ble_eq_true rfl) rfl (fun v μ2 hv => c_X9_number a0 F μ_15 t 1 40 hk0 hv) dX9_readRow_147 (fun v_16 μ_17 hv_18 => ?_)
        refine Ex_iast 16 (kn_9_6 hk0) (by decide) dX9_readRow_150 (fun μ_19 => ?_)
        refine Ex_aload_n dX9_readRow_151 rfl 1 rfl ?_
        refine Ex_get (v := .ref (a0 + (t + 3))) fgX9_17 hk0 (by decide) rfl dX9_readRow_152 ?_
        refine Ex_iconst (v := 1) dX9_readRow_155 (by decide) ?_
        refine Ex_dup2 dX9_readRow_156 rfl rfl ?_
        refine Ex_ialdC (j := 1) 2 (kn_9_3 hk0) (by decide) (by decide) (by decide) dX9_readRow_157 ?_
        refine Ex_iconst (v := 1) dX9_readRow_158 (by decide) ?_
        refine Ex_iadd dX9_readRow_159 ?_
        refine Ex_iastC (j := 1) 2 (kn_9_3 hk0) (by decide) (by decide) (by decide) dX9_readRow_160 (fun μ_20 => ?_)
        refine Ex_goto (tgt := 267) dX9_readRow_161 (by decide) ?_
        exact Ex_vret dX9_readRow_267 rfl
      · refine Ex_aload_n dX9_readRow_103 rfl 1 rfl ?_
        refine Ex_get (v := .int (gI μ_11 t 17)) fgX9_90 hk0 (by decide) rfl dX9_readRow_104 ?_
        refine Ex_aload_n dX9_readRow_107 rfl 1 rfl ?_
        refine Ex_get (v := .ref (a0 + (t + 2))) fgX9_13 hk0 (by decide) rfl dX9_readRow_108 ?_
        refine Ex_iconst (v := 1) dX9_readRow_111 (by decide) ?_
        refine Ex_ialdC (j := 1) 2 (kn_9_2 hk0) (by decide) (by decide) (by decide) dX9_readRow_112 ?_
        refine Ex_icmp_ge (tgt := 133) dX9_readRow_113 (by decide) ?_ ?_
        · refine Ex_iconst (v := 0) dX9_readRow_133 (by decide) ?_
          refine Ex_callVW (n := 1) (dp2 := 2) [.int 0] cvX9_102 hk0 rfl rfl (by decide) (by decide) (Nat.le_of_ble_eq_true rfl) rfl (fun v μ2 hv => c_X9_due a0 F μ_11 t 0 hk0 hv) dX9_readRow_134 (fun v_21 μ_22 hv_23 => ?_)
          refine Ex_iast 16 (kn_9_5 hk0) (by decide) dX9_readRow_137 (fun μ_24 => ?_)
          refine Ex_aload_n dX9_readRow_138 rfl 1 rfl ?_
          refine Ex_get (v := .ref (a0 + (t + 6))) fgX9_26 hk0 (by decide) rfl dX9_readRow_139 ?_
          refine Ex_iload_n dX9_readRow_142 rfl 0 rfl ?_
          refine Ex_aload_n dX9_readRow_143 rfl 1 rfl ?_
          refine Ex_iconst (v := 1) dX9_readRow_144 (by decide) ?_
          refine Ex_bipush (v := 40) dX9_readRow_145 (by decide) ?_
          refine Ex_callVW (n := 2) (dp2 := 3) [.int 1, .int 40] cvX9_109 hk0 rfl rfl (by decide) (by decide) (Nat.le_of_ble_eq_true rfl) rfl (fun v μ2 hv => c_X9_number a0 F μ_24 t 1 40 hk0 hv) dX9_readRow_147 (fun v_25 μ_26 hv_27 => ?_)
          refine Ex_iast 16 (kn_9_6 hk0) (by decide) dX9_readRow_150 (fun μ_28 => ?_)
          refine Ex_aload_n dX9_readRow_151 rfl 1 rfl ?_
          refine Ex_get (v := .ref (a0 + (t + 3))) fgX9_17 hk0 (by decide) rfl dX9_readRow_152 ?_
          refine Ex_iconst (v := 1) dX9_readRow_155 (by decide) ?_
          refine Ex_dup2 dX9_readRow_156 rfl rfl ?_
          refine Ex_ialdC (j := 1) 2 (kn_9_3 hk0) (by decide) (by decide) (by decide) dX9_readRow_157 ?_
          refine Ex_iconst (v := 1) dX9_readRow_158 (by decide) ?_
          refine Ex_iadd dX9_readRow_159 ?_
          refine Ex_iastC (j := 1) 2 (kn_9_3 hk0) (by decide) (by decide) (by decide) dX9_readRow_160 (fun μ_29 => ?_)
          refine Ex_goto (tgt := 267) dX9_readRow_161 (by decide) ?_
          exact Ex_vret dX9_readRow_267 rfl
        · refine Ex_aload_n dX9_readRow_116 rfl 1 rfl ?_
          refine Ex_get (v := .int (gI μ_11 t 17)) fgX9_90 hk0 (by decide) rfl dX9_readRow_117 ?_
          refine Ex_aload_n dX9_readRow_120 rfl 1 rfl ?_
          refine Ex_get (v := .ref (a0 + (t + 4))) fgX9_20 hk0 (by decide) rfl dX9_readRow_121 ?_
          refine Ex_iload_n dX9_readRow_124 rfl 0 rfl ?_
          refine Ex_iald 16 (kn_9_4 hk0) (by decide) dX9_readRow_125 ?_
          refine Ex_icmp_eq (tgt := 133) dX9_readRow_126 (by decide) ?_ ?_
          · refine Ex_iconst (v := 0) dX9_readRow_133 (by decide) ?_
            refine Ex_callVW (n := 1) (dp2 := 2) [.int 0] cvX9_102 hk0 rfl rfl (by decide) (by decide) (Nat.le_of_ble_eq_true rfl) rfl (fun v μ2 hv => c_X9_due a0 F μ_11 t 0 hk0 hv) dX9_readRow_134 (fun v_30 μ_31 hv_32 => ?_)
            refine Ex_iast 16 (kn_9_5 hk0) (by decide) dX9_readRow_137 (fun μ_33 => ?_)
            refine Ex_aload_n dX9_readRow_138 rfl 1 rfl ?_
            refine Ex_get (v := .ref (a0 + (t + 6))) fgX9_26 hk0 (by decide) rfl dX9_readRow_139 ?_
            refine Ex_iload_n dX9_readRow_142 rfl 0 rfl ?_
            refine Ex_aload_n dX9_readRow_143 rfl 1 rfl ?_
            refine Ex_iconst (v := 1) dX9_readRow_144 (by decide) ?_
            refine Ex_bipush (v := 40) dX9_readRow_145 (by decide) ?_
            refine Ex_callVW (n := 2) (dp2 := 3) [.int 1, .int 40] cvX9_109 hk0 rfl rfl (by decide) (by decide) (Nat.le_of_ble_eq_true rfl) rfl (fun v μ2 hv => c_X9_number a0 F μ_33 t 1 40 hk0 hv) dX9_readRow_147 (fun v_34 μ_35 hv_36 => ?_)
            refine Ex_iast 16 (kn_9_6 hk0) (by decide) dX9_readRow_150 (fun μ_37 => ?_)
            refine Ex_aload_n dX9_readRow_151 rfl 1 rfl ?_
            refine Ex_get (v := .ref (a0 + (t + 3))) fgX9_17 hk0 (by decide) rfl dX9_readRow_152 ?_
            refine Ex_iconst (v := 1) dX9_readRow_155 (by decide) ?_
            refine Ex_dup2 dX9_readRow_156 rfl rfl ?_
            refine Ex_ialdC (j := 1) 2 (kn_9_3 hk0) (by decide) (by decide) (by decide) dX9_readRow_157 ?_
            refine Ex_iconst (v := 1) dX9_readRow_158 (by decide) ?_
            refine Ex_iadd dX9_readRow_159 ?_
            refine Ex_iastC (j := 1) 2 (kn_9_3 hk0) (by decide) (by decide) (by decide) dX9_readRow_160 (fun μ_38 => ?_)
            refine Ex_goto (tgt := 267) dX9_readRow_161 (by decide) ?_
            exact Ex_vret dX9_readRow_267 rfl
          · refine Ex_iconst (v := 1) dX9_readRow_129 (by decide) ?_
            refine Ex_goto (tgt := 134) dX9_readRow_130 (by decide) ?_
            refine Ex_callVW (n := 1) (dp2 := 2) [.int 1] cvX9_102 hk0 rfl rfl (by decide) (by decide) (Nat.le_of_ble_eq_true rfl) rfl (fun v μ2 hv => c_X9_due a0 F μ_11 t 1 hk0 hv) dX9_readRow_134 (fun v_39 μ_40 hv_41 => ?_)
            refine Ex_iast 16 (kn_9_5 hk0) (by decide) dX9_readRow_137 (fun μ_42 => ?_)
            refine Ex_aload_n dX9_readRow_138 rfl 1 rfl ?_
            refine Ex_get (v := .ref (a0 + (t + 6))) fgX9_26 hk0 (by decide) rfl dX9_readRow_139 ?_
            refine Ex_iload_n dX9_readRow_142 rfl 0 rfl ?_
            refine Ex_aload_n dX9_readRow_143 rfl 1 rfl ?_
            refine Ex_iconst (v := 1) dX9_readRow_144 (by decide) ?_
            refine Ex_bipush (v := 40) dX9_readRow_145 (by decide) ?_
            refine Ex_callVW (n := 2) (dp2 := 3) [.int 1, .int 40] cvX9_109 hk0 rfl rfl (by decide) (by decide) (Nat.le_of_ble_eq_true rfl) rfl (fun v μ2 hv => c_X9_number a0 F μ_42 t 1 40 hk0 hv) dX9_readRow_147 (fun v_43 μ_44 hv_45 => ?_)
            refine Ex_iast 16 (kn_9_6 hk0) (by decide) dX9_readRow_150 (fun μ_46 => ?_)
            refine Ex_aload_n dX9_readRow_151 rfl 1 rfl ?_
            refine Ex_get (v := .ref (a0 + (t + 3))) fgX9_17 hk0 (by decide) rfl dX9_readRow_152 ?_
            refine Ex_iconst (v := 1) dX9_readRow_155 (by decide) ?_
            refine Ex_dup2 dX9_readRow_156 rfl rfl ?_
            refine Ex_ialdC (j := 1) 2 (kn_9_3 hk0) (by decide) (by decide) (by decide) dX9_readRow_157 ?_
            refine Ex_iconst (v := 1) dX9_readRow_158 (by decide) ?_
            refine Ex_iadd dX9_readRow_159 ?_
            refine Ex_iastC (j := 1) 2 (kn_9_3 hk0) (by decide) (by decide) (by decide) dX9_readRow_160 (fun μ_47 => ?_)
            refine Ex_goto (tgt := 267) dX9_readRow_161 (by decide) ?_
            exact Ex_vret dX9_readRow_267 rfl
    · refine Ex_if (p1 = 110) (fun hc_48 => ?_) (fun hc_48 => ?_)
      · refine Ex_look (tgt := 44) dX9_readRow_1 (by decide) (off := 43) (by rw [hc_48]; rfl) (by decide) ?_
        refine Ex_aload_n dX9_readRow_44 rfl 0 rfl ?_
        refine Ex_get (v := .ref (a0 + (t + 2))) fgX9_13 hk0 (by decide) rfl dX9_readRow_45 ?_
        refine Ex_iconst (v := 1) dX9_readRow_48 (by decide) ?_
        refine Ex_aload_n dX9_readRow_49 rfl 0 rfl ?_
        refine Ex_iconst (v := 2) dX9_readRow_50 (by decide) ?_
        refine Ex_bipush (v := 8) dX9_readRow_51 (by decide) ?_
        refine Ex_callVW (n := 2) (dp2 := 3) [.int 2, .int 8] cvX9_109 hk0 rfl rfl (by decide) (by decide) (Nat.le_of_ble_eq_true rfl) rfl (fun v μ2 hv => c_X9_number a0 F μ t 2 8 hk0 hv) dX9_readRow_53 (fun v_49 μ_50 hv_51 => ?_)
        refine Ex_iastC (j := 1) 2 (kn_9_2 hk0) (by decide) (by decide) (by decide) dX9_readRow_56 (fun μ_52 => ?_)
        refine Ex_goto (tgt := 267) dX9_readRow_57 (by decide) ?_
        exact Ex_vret dX9_readRow_267 rfl
      · refine Ex_if (p1 = 112) (fun hc_53 => ?_) (fun hc_53 => ?_)
        · refine Ex_look (tgt := 164) dX9_readRow_1 (by decide) (off := 163) (by rw [hc_53]; rfl) (by decide) ?_
          refine Ex_aload_n dX9_readRow_164 rfl 0 rfl ?_
          refine Ex_get (v := .ref (a0 + (t + 8))) fgX9_32 hk0 (by decide) rfl dX9_readRow_165 ?_
          refine Ex_aload_n dX9_readRow_168 rfl 0 rfl ?_
          refine Ex_get (v := .ref (a0 + (t + 7))) fgX9_29 hk0 (by decide) rfl dX9_readRow_169 ?_
          refine Ex_iconst (v := 1) dX9_readRow_172 (by decide) ?_
          refine Ex_ialdC (j := 1) 2 (kn_9_7 hk0) (by decide) (by decide) (by decide) dX9_readRow_173 ?_
          refine Ex_aload_n dX9_readRow_174 rfl 0 rfl ?_
          refine Ex_iconst (v := 0) dX9_readRow_175 (by decide) ?_
          refine Ex_bipush (v := 9) dX9_readRow_176 (by decide) ?_
          refine Ex_callVW (n := 2) (dp2 := 3) [.int 0, .int 9] cvX9_109 hk0 rfl rfl (by decide) (by decide) (Nat.le_of_ble_eq_true rfl) rfl (fun v μ2 hv => c_X9_number a0 F μ t 0 9 hk0 hv) dX9_readRow_178 (fun v_54 μ_55 hv_56 => ?_)
          refine Ex_iast 5 (kn_9_8 hk0) (by decide) dX9_readRow_181 (fun μ_57 => ?_)
          refine Ex_aload_n dX9_readRow_182 rfl 0 rfl ?_
          refine Ex_get (v := .ref (a0 + (t + 9))) fgX9_35 hk0 (by decide) rfl dX9_readRow_183 ?_
          refine Ex_aload_n dX9_readRow_186 rfl 0 rfl ?_
          refine Ex_get (v := .ref (a0 + (t + 7))) fgX9_29 hk0 (by decide) rfl dX9_readRow_187 ?_
          refine Ex_iconst (v := 1) dX9_readRow_190 (by decide) ?_
          refine Ex_ialdC (j := 1) 2 (kn_9_7 hk0) (by decide) (by decide) (by decide) dX9_readRow_191 ?_
          refine Ex_aload_n dX9_readRow_192 rfl 0 rfl ?_
          refine Ex_iconst (v := 0) dX9_readRow_193 (by decide) ?_
          refine Ex_aload_n dX9_readRow_194 rfl 0 rfl ?_
          refine Ex_get (v := .ref (a0 + (t + 2))) fgX9_13 hk0 (by decide) rfl dX9_readRow_195 ?_
          refine Ex_iconst (v := 1) dX9_readRow_198 (by decide) ?_
          refine Ex_ialdC (j := 1) 2 (kn_9_2 hk0) (by decide) (by decide) (by decide) dX9_readRow_199 ?_
          refine Ex_iconst (v := 1) dX9_readRow_200 (by decide) ?_
          refine Ex_isub dX9_readRow_201 ?_
          refine Ex_callVW (n := 2) (dp2 := 3) [.int 0, .int ((gI μ_57 (t + 2) 1) - 1)] cvX9_109 hk0 rfl rfl (by decide) (by decide) (Nat.le_of_ble_eq_true rfl) rfl (fun v μ2 hv => c_X9_number a0 F μ_57 t 0 ((gI μ_57 (t + 2) 1) - 1) hk0 hv) dX9_readRow_202 (fun v_58 μ_59 hv_60 => ?_)
          refine Ex_iast 5 (kn_9_9 hk0) (by decide) dX9_readRow_205 (fun μ_61 => ?_)
          refine Ex_aload_n dX9_readRow_206 rfl 0 rfl ?_
          refine Ex_get (v := .ref (a0 + (t + 7))) fgX9_29 hk0 (by decide) rfl dX9_readRow_207 ?_
          refine Ex_iconst (v := 1) dX9_readRow_210 (by decide) ?_
          refine Ex_dup2 dX9_readRow_211 rfl rfl ?_
          refine Ex_ialdC (j := 1) 2 (kn_9_7 hk0) (by decide) (by decide) (by decide) dX9_readRow_212 ?_
          refine Ex_iconst (v := 1) dX9_readRow_213 (by decide) ?_
          refine Ex_iadd dX9_readRow_214 ?_
          refine Ex_iastC (j := 1) 2 (kn_9_7 hk0) (by decide) (by decide) (by decide) dX9_readRow_215 (fun μ_62 => ?_)
          refine Ex_goto (tgt := 267) dX9_readRow_216 (by decide) ?_
          exact Ex_vret dX9_readRow_267 rfl
        · refine Ex_look (tgt := 245) dX9_readRow_1 (by decide) (off := 244) (by rw [lv_osw hc_1 (show (98 : Int32).toInt = 98 from rfl), lv_osw hc_7 (show (108 : Int32).toInt = 108 from rfl), lv_osw hc_48 (show (110 : Int32).toInt = 110 from rfl), lv_osw hc_53 (show (112 : Int32).toInt = 112 from rfl)]; rfl) (by decide) ?_
          refine Ex_aload_n dX9_readRow_245 rfl 0 rfl ?_
          refine Ex_get (v := .ref (a0 + (t + 11))) fgX9_41 hk0 (by decide) rfl dX9_readRow_246 ?_
          refine Ex_iconst (v := 1) dX9_readRow_249 (by decide) ?_
          refine Ex_aload_n dX9_readRow_250 rfl 0 rfl ?_
          refine Ex_iconst (v := 0) dX9_readRow_251 (by decide) ?_
          refine Ex_iconst (v := 3) dX9_readRow_252 (by decide) ?_
          refine Ex_callVW (n := 2) (dp2 := 3) [.int 0, .int 3] cvX9_109 hk0 rfl rfl (by decide) (by decide) (Nat.le_of_ble_eq_true rfl) rfl (fun v μ2 hv => c_X9_number a0 F μ t 0 3 hk0 hv) dX9_readRow_253 (fun v_63 μ_64 hv_65 => ?_)
          refine Ex_iastC (j := 1) 2 (kn_9_11 hk0) (by decide) (by decide) (by decide) dX9_readRow_256 (fun μ_66 => ?_)
          refine Ex_aload_n dX9_readRow_257 rfl 0 rfl ?_
          refine Ex_dup dX9_readRow_258 rfl ?_
          refine Ex_get (v := .int (gI μ_66 t 13)) fgX9_106 hk0 (by decide) rfl dX9_readRow_259 ?_
          refine Ex_iconst (v := 2) dX9_readRow_262 (by decide) ?_
          refine Ex_ior dX9_readRow_263 ?_
          refine Ex_putI fgX9_106 fp9_13 hk0 (by decide) rfl rfl (Nat.le_of_ble_eq_true rfl) (fs9_13 a0 μ_66 t ((gI μ_66 t 13) ||| 2)) dX9_readRow_264 (fun μ_67 => ?_)
          exact Ex_vret dX9_readRow_267 rfl

def f_X9_takeDraft_L62 (F : Nat) (q0 : Nat) (k : Int32 → Mem → Option (Mem)) : Nat → Int32 → Mem → Option (Mem)
  | 0, _, _ => none
  | n + 1, x1, μ => (if x1 < 8 then if ix (8 + x1) 16 = true then if ix x1 16 = true then lt (sI μ (q0 + 4) x1.toNatClampNeg (gI μ (q0 + 4) ((8 + x1).toNatClampNeg))) (fun μ_6 => if ix (8 + x1) 16 = true then if ix x1 16 = true then lt (sI μ_6 (q0 + 5) x1.toNatClampNeg (gI μ_6 (q0 + 5) ((8 + x1).toNatClampNeg))) (fun μ_7 => if ix (8 + x1) 16 = true then if ix x1 16 = true then lt (sI μ_7 (q0 + 6) x1.toNatClampNeg (gI μ_7 (q0 + 6) ((8 + x1).toNatClampNeg))) (fun μ_8 => f_X9_takeDraft_L62 F q0 k n (x1 + 1) μ_8) else none else none) else none else none) else none else none else k x1 μ)
set_option maxRecDepth 100000 in
set_option maxHeartbeats 4000000 in
theorem c_X9_takeDraft_L62 (a0 : Nat) (F : Nat) (q0 : Nat) (k : Int32 → Mem → Option (Mem)) (hq0 : kd q0 = 9) (hk : ∀ (x1 : Int32) (μ : Mem), Ex a0 RX9 cX9_takeDraft 2 none 0 none (fun m => (none, m)) 119 [(0, .ref (a0 + q0))] [] μ (k x1 μ)) : ∀ (n : Nat) (x1 : Int32) (μ : Mem), Ex a0 RX9 cX9_takeDraft 2 none 0 none (fun m => (none, m)) 62 [(0, .ref (a0 + q0)), (1, .int x1)] [] μ (f_X9_takeDraft_L62 F q0 k n x1 μ) := by
  intro n
  induction n with
  | zero => intro x1 μ; exact Ex_none
  | succ n ih =>
    intro x1 μ
    rw [f_X9_takeDraft_L62]
    refine Ex_iload_n dX9_takeDraft_62 rfl 1 rfl ?_
    refine Ex_bipush (v := 8) dX9_takeDraft_63 (by decide) ?_
    refine Ex_icmp_ge (tgt := 119) dX9_takeDraft_65 (by decide) ?_ ?_
    · refine Ex_perm [0] rfl ?_
      exact hk x1 μ
    · refine Ex_aload_n dX9_takeDraft_68 rfl 0 rfl ?_
      refine Ex_get (v := .ref (a0 + (q0 + 4))) fgX9_20 hq0 (by decide) rfl dX9_takeDraft_69 ?_
      refine Ex_iload_n dX9_takeDraft_72 rfl 1 rfl ?_
      refine Ex_aload_n dX9_takeDraft_73 rfl 0 rfl ?_
      refine Ex_get (v := .ref (a0 + (q0 + 4))) fgX9_20 hq0 (by decide) rfl dX9_takeDraft_74 ?_
      refine Ex_bipush (v := 8) dX9_takeDraft_77 (by decide) ?_
      refine Ex_iload_n dX9_takeDraft_79 rfl 1 rfl ?_
      refine Ex_iadd dX9_takeDraft_80 ?_
      refine Ex_iald 16 (kn_9_4 hq0) (by decide) dX9_takeDraft_81 ?_
      refine Ex_iast 16 (kn_9_4 hq0) (by decide) dX9_takeDraft_82 (fun μ_6 => ?_)
      refine Ex_aload_n dX9_takeDraft_83 rfl 0 rfl ?_
      refine Ex_get (v := .ref (a0 + (q0 + 5))) fgX9_23 hq0 (by decide) rfl dX9_takeDraft_84 ?_
      refine Ex_iload_n dX9_takeDraft_87 rfl 1 rfl ?_
      refine Ex_aload_n dX9_takeDraft_88 rfl 0 rfl ?_
      refine Ex_get (v := .ref (a0 + (q0 + 5))) fgX9_23 hq0 (by decide) rfl dX9_takeDraft_89 ?_
      refine Ex_bipush (v := 8) dX9_takeDraft_92 (by decide) ?_
      refine Ex_iload_n dX9_takeDraft_94 rfl 1 rfl ?_
      refine Ex_iadd dX9_takeDraft_95 ?_
      refine Ex_iald 16 (kn_9_5 hq0) (by decide) dX9_takeDraft_96 ?_
      refine Ex_iast 16 (kn_9_5 hq0) (by decide) dX9_takeDraft_97 (fun μ_7 => ?_)
      refine Ex_aload_n dX9_takeDraft_98 rfl 0 rfl ?_
      refine Ex_get (v := .ref (a0 + (q0 + 6))) fgX9_26 hq0 (by decide) rfl dX9_takeDraft_99 ?_
      refine Ex_iload_n dX9_takeDraft_102 rfl 1 rfl ?_
      refine Ex_aload_n dX9_takeDraft_103 rfl 0 rfl ?_
      refine Ex_get (v := .ref (a0 + (q0 + 6))) fgX9_26 hq0 (by decide) rfl dX9_takeDraft_104 ?_
      refine Ex_bipush (v := 8) dX9_takeDraft_107 (by decide) ?_
      refine Ex_iload_n dX9_takeDraft_109 rfl 1 rfl ?_
      refine Ex_iadd dX9_takeDraft_110 ?_
      refine Ex_iald 16 (kn_9_6 hq0) (by decide) dX9_takeDraft_111 ?_
      refine Ex_iast 16 (kn_9_6 hq0) (by decide) dX9_takeDraft_112 (fun μ_8 => ?_)
      refine Ex_iinc (v := x1 + 1) (L2 := [(1, .int (x1 + 1)), (0, .ref (a0 + q0))]) dX9_takeDraft_113 1 rfl rfl (by decide) rfl ?_
      refine Ex_goto (tgt := 62) dX9_takeDraft_116 (by decide) ?_
      refine Ex_perm [1, 0] rfl ?_
      exact ih (x1 + 1) μ_8

def f_X9_takeDraft_L121 (F : Nat) (q0 : Nat) (k : Int32 → Mem → Option (Mem)) : Nat → Int32 → Mem → Option (Mem)
  | 0, _, _ => none
  | n + 1, x1, μ => (if x1 < 5 then if ix x1 5 = true then if ix (0 + x1) 531 = true then lt (sI μ (q0 + 12) ((0 + x1).toNatClampNeg) (gI μ (q0 + 9) x1.toNatClampNeg)) (fun μ_11 => if ix x1 5 = true then if ix (5 + x1) 531 = true then lt (sI μ_11 (q0 + 12) ((5 + x1).toNatClampNeg) (gI μ_11 (q0 + 8) x1.toNatClampNeg)) (fun μ_12 => if ix (10 + x1) 531 = true then lt (sI μ_12 (q0 + 12) ((10 + x1).toNatClampNeg) 0) (fun μ_13 => f_X9_takeDraft_L121 F q0 k n (x1 + 1) μ_13) else none) else none else none) else none else none else k x1 μ)
set_option maxRecDepth 100000 in
set_option maxHeartbeats 4000000 in
theorem c_X9_takeDraft_L121 (a0 : Nat) (F : Nat) (q0 : Nat) (k : Int32 → Mem → Option (Mem)) (hq0 : kd q0 = 9) (hk : ∀ (x1 : Int32) (μ : Mem), Ex a0 RX9 cX9_takeDraft 2 none 0 none (fun m => (none, m)) 170 [(0, .ref (a0 + q0))] [] μ (k x1 μ)) : ∀ (n : Nat) (x1 : Int32) (μ : Mem), Ex a0 RX9 cX9_takeDraft 2 none 0 none (fun m => (none, m)) 121 [(0, .ref (a0 + q0)), (1, .int x1)] [] μ (f_X9_takeDraft_L121 F q0 k n x1 μ) := by
  intro n
  induction n with
  | zero => intro x1 μ; exact Ex_none
  | succ n ih =>
    intro x1 μ
    rw [f_X9_takeDraft_L121]
    refine Ex_iload_n dX9_takeDraft_121 rfl 1 rfl ?_
    refine Ex_iconst (v := 5) dX9_takeDraft_122 (by decide) ?_
    refine Ex_icmp_ge (tgt := 170) dX9_takeDraft_123 (by decide) ?_ ?_
    · refine Ex_perm [0] rfl ?_
      exact hk x1 μ
    · refine Ex_aload_n dX9_takeDraft_126 rfl 0 rfl ?_
      refine Ex_get (v := .ref (a0 + (q0 + 12))) fgX9_44 hq0 (by decide) rfl dX9_takeDraft_127 ?_
      refine Ex_iconst (v := 0) dX9_takeDraft_130 (by decide) ?_
      refine Ex_iload_n dX9_takeDraft_131 rfl 1 rfl ?_
      refine Ex_iadd dX9_takeDraft_132 ?_
      refine Ex_aload_n dX9_takeDraft_133 rfl 0 rfl ?_
      refine Ex_get (v := .ref (a0 + (q0 + 9))) fgX9_35 hq0 (by decide) rfl dX9_takeDraft_134 ?_
      refine Ex_iload_n dX9_takeDraft_137 rfl 1 rfl ?_
      refine Ex_iald 5 (kn_9_9 hq0) (by decide) dX9_takeDraft_138 ?_
      refine Ex_iast 531 (kn_9_12 hq0) (by decide) dX9_takeDraft_139 (fun μ_11 => ?_)
      refine Ex_aload_n dX9_takeDraft_140 rfl 0 rfl ?_
      refine Ex_get (v := .ref (a0 + (q0 + 12))) fgX9_44 hq0 (by decide) rfl dX9_takeDraft_141 ?_
      refine Ex_iconst (v := 5) dX9_takeDraft_144 (by decide) ?_
      refine Ex_iload_n dX9_takeDraft_145 rfl 1 rfl ?_
      refine Ex_iadd dX9_takeDraft_146 ?_
      refine Ex_aload_n dX9_takeDraft_147 rfl 0 rfl ?_
      refine Ex_get (v := .ref (a0 + (q0 + 8))) fgX9_32 hq0 (by decide) rfl dX9_takeDraft_148 ?_
      refine Ex_iload_n dX9_takeDraft_151 rfl 1 rfl ?_
      refine Ex_iald 5 (kn_9_8 hq0) (by decide) dX9_takeDraft_152 ?_
      refine Ex_iast 531 (kn_9_12 hq0) (by decide) dX9_takeDraft_153 (fun μ_12 => ?_)
      refine Ex_aload_n dX9_takeDraft_154 rfl 0 rfl ?_
      refine Ex_get (v := .ref (a0 + (q0 + 12))) fgX9_44 hq0 (by decide) rfl dX9_takeDraft_155 ?_
      refine Ex_bipush (v := 10) dX9_takeDraft_158 (by decide) ?_
      refine Ex_iload_n dX9_takeDraft_160 rfl 1 rfl ?_
      refine Ex_iadd dX9_takeDraft_161 ?_
      refine Ex_iconst (v := 0) dX9_takeDraft_162 (by decide) ?_
      refine Ex_iast 531 (kn_9_12 hq0) (by decide) dX9_takeDraft_163 (fun μ_13 => ?_)
      refine Ex_iinc (v := x1 + 1) (L2 := [(1, .int (x1 + 1)), (0, .ref (a0 + q0))]) dX9_takeDraft_164 1 rfl rfl (by decide) rfl ?_
      refine Ex_goto (tgt := 121) dX9_takeDraft_167 (by decide) ?_
      refine Ex_perm [1, 0] rfl ?_
      exact ih (x1 + 1) μ_13
def f_X9_takeDraft (F : Nat) (μ : Mem) (t : Nat) : Option (Mem) := lt (sI μ (t + 2) 0 (gI μ (t + 2) 1)) (fun μ_1 => lt (sI μ_1 (t + 3) 0 (gI μ_1 (t + 3) 1)) (fun μ_2 => lt (sI μ_2 (t + 7) 0 (gI μ_2 (t + 7) 1)) (fun μ_3 => lt (sI μ_3 (t + 10) 0 (gI μ_3 (t + 10) 1)) (fun μ_4 => lt (sI μ_4 (t + 11) 0 (gI μ_4 (t + 11) 1)) (fun μ_5 => f_X9_takeDraft_L62 F t (fun x1_9 μ_10 => f_X9_takeDraft_L121 F t (fun x1_14 μ_15 => lt (sI μ_15 (t + 12) 15 0) (fun μ_16 => lt (sI μ_16 (t + 12) 16 0) (fun μ_17 => lt (sI μ_17 t 26 0) (fun μ_18 => lt (sI μ_18 (t + 13) 0 (vp_nar .boolean 0)) (fun μ_19 => lt (sI μ_19 (t + 13) 1 (vp_nar .boolean 0)) (fun μ_20 => some μ_20)))))) F 0 μ_10) F 0 μ_5)))))
set_option maxRecDepth 100000 in
set_option maxHeartbeats 4000000 in
theorem c_X9_takeDraft (a0 F : Nat) (μ : Mem) (t : Nat) (hk0 : kd t = 9) {μ2 : Mem} (hr : f_X9_takeDraft F μ t = some μ2) : Ct a0 yX9_takeDraft cX9_takeDraft 2 none 0 [.ref (a0 + t)] μ none μ2 := by
  refine Ct_of (own := RX9) (ι := (fun m => (none, m))) (o := f_X9_takeDraft F μ t) (by decide +kernel) rfl (Nat.le_of_ble_eq_true rfl) ?_ hr rfl rfl
  show Ex a0 RX9 cX9_takeDraft 2 none 0 none (fun m => (none, m)) 0 [(0, .ref (a0 + t))] [] μ (f_X9_takeDraft F μ t)
  unfold f_X9_takeDraft
  refine Ex_aload_n dX9_takeDraft_0 rfl 0 rfl ?_
  refine Ex_get (v := .ref (a0 + (t + 2))) fgX9_13 hk0 (by decide) rfl dX9_takeDraft_1 ?_
  refine Ex_iconst (v := 0) dX9_takeDraft_4 (by decide) ?_
  refine Ex_aload_n dX9_takeDraft_5 rfl 0 rfl ?_
  refine Ex_get (v := .ref (a0 + (t + 2))) fgX9_13 hk0 (by decide) rfl dX9_takeDraft_6 ?_
  refine Ex_iconst (v := 1) dX9_takeDraft_9 (by decide) ?_
  refine Ex_ialdC (j := 1) 2 (kn_9_2 hk0) (by decide) (by decide) (by decide) dX9_takeDraft_10 ?_
  refine Ex_iastC (j := 0) 2 (kn_9_2 hk0) (by decide) (by decide) (by decide) dX9_takeDraft_11 (fun μ_1 => ?_)
  refine Ex_aload_n dX9_takeDraft_12 rfl 0 rfl ?_
  refine Ex_get (v := .ref (a0 + (t + 3))) fgX9_17 hk0 (by decide) rfl dX9_takeDraft_13 ?_
  refine Ex_iconst (v := 0) dX9_takeDraft_16 (by decide) ?_
  refine Ex_aload_n dX9_takeDraft_17 rfl 0 rfl ?_
  refine Ex_get (v := .ref (a0 + (t + 3))) fgX9_17 hk0 (by decide) rfl dX9_takeDraft_18 ?_
  refine Ex_iconst (v := 1) dX9_takeDraft_21 (by decide) ?_
  refine Ex_ialdC (j := 1) 2 (kn_9_3 hk0) (by decide) (by decide) (by decide) dX9_takeDraft_22 ?_
  refine Ex_iastC (j := 0) 2 (kn_9_3 hk0) (by decide) (by decide) (by decide) dX9_takeDraft_23 (fun μ_2 => ?_)
  refine Ex_aload_n dX9_takeDraft_24 rfl 0 rfl ?_
  refine Ex_get (v := .ref (a0 + (t + 7))) fgX9_29 hk0 (by decide) rfl dX9_takeDraft_25 ?_
  refine Ex_iconst (v := 0) dX9_takeDraft_28 (by decide) ?_
  refine Ex_aload_n dX9_takeDraft_29 rfl 0 rfl ?_
  refine Ex_get (v := .ref (a0 + (t + 7))) fgX9_29 hk0 (by decide) rfl dX9_takeDraft_30 ?_
  refine Ex_iconst (v := 1) dX9_takeDraft_33 (by decide) ?_
  refine Ex_ialdC (j := 1) 2 (kn_9_7 hk0) (by decide) (by decide) (by decide) dX9_takeDraft_34 ?_
  refine Ex_iastC (j := 0) 2 (kn_9_7 hk0) (by decide) (by decide) (by decide) dX9_takeDraft_35 (fun μ_3 => ?_)
  refine Ex_aload_n dX9_takeDraft_36 rfl 0 rfl ?_
  refine Ex_get (v := .ref (a0 + (t + 10))) fgX9_38 hk0 (by decide) rfl dX9_takeDraft_37 ?_
  refine Ex_iconst (v := 0) dX9_takeDraft_40 (by decide) ?_
  refine Ex_aload_n dX9_takeDraft_41 rfl 0 rfl ?_
  refine Ex_get (v := .ref (a0 + (t + 10))) fgX9_38 hk0 (by decide) rfl dX9_takeDraft_42 ?_
  refine Ex_iconst (v := 1) dX9_takeDraft_45 (by decide) ?_
  refine Ex_ialdC (j := 1) 2 (kn_9_10 hk0) (by decide) (by decide) (by decide) dX9_takeDraft_46 ?_
  refine Ex_iastC (j := 0) 2 (kn_9_10 hk0) (by decide) (by decide) (by decide) dX9_takeDraft_47 (fun μ_4 => ?_)
  refine Ex_aload_n dX9_takeDraft_48 rfl 0 rfl ?_
  refine Ex_get (v := .ref (a0 + (t + 11))) fgX9_41 hk0 (by decide) rfl dX9_takeDraft_49 ?_
  refine Ex_iconst (v := 0) dX9_takeDraft_52 (by decide) ?_
  refine Ex_aload_n dX9_takeDraft_53 rfl 0 rfl ?_
  refine Ex_get (v := .ref (a0 + (t + 11))) fgX9_41 hk0 (by decide) rfl dX9_takeDraft_54 ?_
  refine Ex_iconst (v := 1) dX9_takeDraft_57 (by decide) ?_
  refine Ex_ialdC (j := 1) 2 (kn_9_11 hk0) (by decide) (by decide) (by decide) dX9_takeDraft_58 ?_
  refine Ex_iastC (j := 0) 2 (kn_9_11 hk0) (by decide) (by decide) (by decide) dX9_takeDraft_59 (fun μ_5 => ?_)
  refine Ex_iconst (v := 0) dX9_takeDraft_60 (by decide) ?_
  refine Ex_istore_n (L2 := [(1, .int 0), (0, .ref (a0 + t))]) dX9_takeDraft_61 rfl (by decide) rfl ?_
  refine Ex_perm [1, 0] rfl ?_
  refine c_X9_takeDraft_L62 a0 F t _ hk0 (fun x1_9 μ_10 => ?_) F 0 μ_5
  refine Ex_iconst (v := 0) dX9_takeDraft_119 (by decide) ?_
  refine Ex_istore_n (L2 := [(1, .int 0), (0, .ref (a0 + t))]) dX9_takeDraft_120 rfl (by decide) rfl ?_
  refine Ex_perm [1, 0] rfl ?_
  refine c_X9_takeDraft_L121 a0 F t _ hk0 (fun x1_14 μ_15 => ?_) F 0 μ_10
  refine Ex_aload_n dX9_takeDraft_170 rfl 0 rfl ?_
  refine Ex_get (v := .ref (a0 + (t + 12))) fgX9_44 hk0 (by decide) rfl dX9_takeDraft_171 ?_
  refine Ex_bipush (v := 15) dX9_takeDraft_174 (by decide) ?_
  refine Ex_iconst (v := 0) dX9_takeDraft_176 (by decide) ?_
  refine Ex_iastC (j := 15) 531 (kn_9_12 hk0) (by decide) (by decide) (by decide) dX9_takeDraft_177 (fun μ_16 => ?_)
  refine Ex_aload_n dX9_takeDraft_178 rfl 0 rfl ?_
  refine Ex_get (v := .ref (a0 + (t + 12))) fgX9_44 hk0 (by decide) rfl dX9_takeDraft_179 ?_
  refine Ex_bipush (v := 16) dX9_takeDraft_182 (by decide) ?_
  refine Ex_iconst (v := 0) dX9_takeDraft_184 (by decide) ?_
  refine Ex_iastC (j := 16) 531 (kn_9_12 hk0) (by decide) (by decide) (by decide) dX9_takeDraft_185 (fun μ_17 => ?_)
  refine Ex_aload_n dX9_takeDraft_186 rfl 0 rfl ?_
  refine Ex_iconst (v := 0) dX9_takeDraft_187 (by decide) ?_
  refine Ex_putI fgX9_113 fp9_26 hk0 (by decide) rfl rfl (Nat.le_of_ble_eq_true rfl) (fs9_26 a0 μ_17 t 0) dX9_takeDraft_188 (fun μ_18 => ?_)
  refine Ex_aload_n dX9_takeDraft_191 rfl 0 rfl ?_
  refine Ex_get (v := .ref (a0 + (t + 13))) fgX9_47 hk0 (by decide) rfl dX9_takeDraft_192 ?_
  refine Ex_iconst (v := 0) dX9_takeDraft_195 (by decide) ?_
  refine Ex_iconst (v := 0) dX9_takeDraft_196 (by decide) ?_
  refine Ex_zastC (j := 0) 2 (kn_9_13 hk0) (by decide) (by decide) (by decide) dX9_takeDraft_197 (fun μ_19 => ?_)
  refine Ex_aload_n dX9_takeDraft_198 rfl 0 rfl ?_
  refine Ex_get (v := .ref (a0 + (t + 13))) fgX9_47 hk0 (by decide) rfl dX9_takeDraft_199 ?_
  refine Ex_iconst (v := 1) dX9_takeDraft_202 (by decide) ?_
  refine Ex_iconst (v := 0) dX9_takeDraft_203 (by decide) ?_
  refine Ex_zastC (j := 1) 2 (kn_9_13 hk0) (by decide) (by decide) (by decide) dX9_takeDraft_204 (fun μ_20 => ?_)
  exact Ex_vret dX9_takeDraft_205 rfl

def f_X9_capital_L21 (F : Nat) (q0 : Nat) (k : Int32 → Mem → Option (Int32 × Mem)) : Nat → Int32 → Mem → Option (Int32 × Mem)
  | 0, _, _ => none
  | n + 1, x1, μ => (if (gI μ q0 18) = (-9) then (if (gI μ q0 16) = 3 then k x1 μ else (f_X9_mayBe F μ q0 (gI μ q0 16) x1).bind (fun v_9 => bW (f_X9_due F μ q0 v_9) (fun v_12 μ_13 => (if (gI μ_13 q0 18) = (-9) then (f_X9_readRow F μ_13 q0 (gI μ q0 16)).bind (fun μ_16 => (if (gI μ_16 q0 16) = 2 then bW (f_X9_due F μ_16 q0 1) (fun v_21 μ_22 => f_X9_capital_L21 F q0 k n (x1 + 1) μ_22) else bW (f_X9_due F μ_16 q0 0) (fun v_18 μ_19 => f_X9_capital_L21 F q0 k n (x1 + 1) μ_19))) else f_X9_capital_L21 F q0 k n x1 μ_13)))) else k x1 μ)
set_option maxRecDepth 100000 in
set_option maxHeartbeats 4000000 in
theorem c_X9_capital_L21 (a0 : Nat) (F : Nat) (q0 : Nat) (k : Int32 → Mem → Option (Int32 × Mem)) (hq0 : kd q0 = 9) (hk : ∀ (x1 : Int32) (μ : Mem), Ex a0 RX9 cX9_capital 3 (some .int) 5 none (fun x => (some (.int x.1), x.2)) 92 [(0, .ref (a0 + q0)), (1, .int x1)] [] μ (k x1 μ)) : ∀ (n : Nat) (x1 : Int32) (μ : Mem), Ex a0 RX9 cX9_capital 3 (some .int) 5 none (fun x => (some (.int x.1), x.2)) 21 [(0, .ref (a0 + q0)), (1, .int x1)] [] μ (f_X9_capital_L21 F q0 k n x1 μ) := by
  intro n
  induction n with
  | zero => intro x1 μ; exact Ex_none
  | succ n ih =>
    intro x1 μ
    rw [f_X9_capital_L21]
    refine Ex_aload_n dX9_capital_21 rfl 0 rfl ?_
    refine Ex_get (v := .int (gI μ q0 18)) fgX9_96 hq0 (by decide) rfl dX9_capital_22 ?_
    refine Ex_bipush (v := (-9)) dX9_capital_25 (by decide) ?_
    refine Ex_icmp_ne (tgt := 92) dX9_capital_27 (by decide) ?_ ?_
    · exact hk x1 μ
    · refine Ex_aload_n dX9_capital_30 rfl 0 rfl ?_
      refine Ex_get (v := .int (gI μ q0 16)) fgX9_93 hq0 (by decide) rfl dX9_capital_31 ?_
      refine Ex_iconst (v := 3) dX9_capital_34 (by decide) ?_
      refine Ex_icmp_eq (tgt := 92) dX9_capital_35 (by decide) ?_ ?_
      · exact hk x1 μ
      · refine Ex_aload_n dX9_capital_38 rfl 0 rfl ?_
        refine Ex_get (v := .int (gI μ q0 16)) fgX9_93 hq0 (by decide) rfl dX9_capital_39 ?_
        refine Ex_istore_n (L2 := [(2, .int (gI μ q0 16)), (0, .ref (a0 + q0)), (1, .int x1)]) dX9_capital_42 rfl (by decide) rfl ?_
        refine Ex_aload_n dX9_capital_43 rfl 1 rfl ?_
        refine Ex_aload_n dX9_capital_44 rfl 1 rfl ?_
        refine Ex_iload_n dX9_capital_45 rfl 0 rfl ?_
        refine Ex_iload_n dX9_capital_46 rfl 2 rfl ?_
        refine Ex_callVR (n := 2) (dp2 := 0) [.int (gI μ q0 16), .int x1] cvX9_116 hq0 rfl rfl (by decide) (by decide) (Nat.le_of_ble_eq_true rfl) rfl (fun v hv => c_X9_mayBe a0 F μ q0 (gI μ q0 16) x1 hq0 hv) dX9_capital_47 (fun v_9 hv_11 => ?_)
        refine Ex_callVW (n := 1) (dp2 := 2) [.int v_9] cvX9_102 hq0 rfl rfl (by decide) (by decide) (Nat.le_of_ble_eq_true rfl) rfl (fun v μ2 hv => c_X9_due a0 F μ q0 v_9 hq0 hv) dX9_capital_50 (fun v_12 μ_13 hv_14 => ?_)
        refine Ex_pop dX9_capital_53 rfl ?_
        refine Ex_aload_n dX9_capital_54 rfl 1 rfl ?_
        refine Ex_get (v := .int (gI μ_13 q0 18)) fgX9_96 hq0 (by decide) rfl dX9_capital_55 ?_
        refine Ex_bipush (v := (-9)) dX9_capital_58 (by decide) ?_
        refine Ex_icmp_ne (tgt := 89) dX9_capital_60 (by decide) ?_ ?_
        · refine Ex_goto (tgt := 21) dX9_capital_89 (by decide) ?_
          refine Ex_perm [1, 2] rfl ?_
          exact ih x1 μ_13
        · refine Ex_aload_n dX9_capital_63 rfl 1 rfl ?_
          refine Ex_iload_n dX9_capital_64 rfl 0 rfl ?_
          refine Ex_callVV (n := 1) (dp2 := 4) [.int (gI μ q0 16)] cvX9_120 hq0 rfl rfl (by decide) (by decide) (Nat.le_of_ble_eq_true rfl) rfl (fun μ2 hv => c_X9_readRow a0 F μ_13 q0 (gI μ q0 16) hq0 hv) dX9_capital_65 (fun μ_16 hv_17 => ?_)
          refine Ex_aload_n dX9_capital_68 rfl 1 rfl ?_
          refine Ex_aload_n dX9_capital_69 rfl 1 rfl ?_
          refine Ex_get (v := .int (gI μ_16 q0 16)) fgX9_93 hq0 (by decide) rfl dX9_capital_70 ?_
          refine Ex_iconst (v := 2) dX9_capital_73 (by decide) ?_
          refine Ex_icmp_ne (tgt := 81) dX9_capital_74 (by decide) ?_ ?_
          · refine Ex_iconst (v := 0) dX9_capital_81 (by decide) ?_
            refine Ex_callVW (n := 1) (dp2 := 2) [.int 0] cvX9_102 hq0 rfl rfl (by decide) (by decide) (Nat.le_of_ble_eq_true rfl) rfl (fun v μ2 hv => c_X9_due a0 F μ_16 q0 0 hq0 hv) dX9_capital_82 (fun v_18 μ_19 hv_20 => ?_)
            refine Ex_pop dX9_capital_85 rfl ?_
            refine Ex_iinc (v := x1 + 1) (L2 := [(1, .int (x1 + 1)), (2, .int (gI μ q0 16)), (0, .ref (a0 + q0))]) dX9_capital_86 2 rfl rfl (by decide) rfl ?_
            refine Ex_goto (tgt := 21) dX9_capital_89 (by decide) ?_
            refine Ex_perm [2, 0] rfl ?_
            exact ih (x1 + 1) μ_19
          · refine Ex_iconst (v := 1) dX9_capital_77 (by decide) ?_
            refine Ex_goto (tgt := 82) dX9_capital_78 (by decide) ?_
            refine Ex_callVW (n := 1) (dp2 := 2) [.int 1] cvX9_102 hq0 rfl rfl (by decide) (by decide) (Nat.le_of_ble_eq_true rfl) rfl (fun v μ2 hv => c_X9_due a0 F μ_16 q0 1 hq0 hv) dX9_capital_82 (fun v_21 μ_22 hv_23 => ?_)
            refine Ex_pop dX9_capital_85 rfl ?_
            refine Ex_iinc (v := x1 + 1) (L2 := [(1, .int (x1 + 1)), (2, .int (gI μ q0 16)), (0, .ref (a0 + q0))]) dX9_capital_86 2 rfl rfl (by decide) rfl ?_
            refine Ex_goto (tgt := 21) dX9_capital_89 (by decide) ?_
            refine Ex_perm [2, 0] rfl ?_
            exact ih (x1 + 1) μ_22
def f_X9_capital (F : Nat) (μ : Mem) (t : Nat) : Option (Int32 × Mem) := lt (sI μ t 14 0) (fun μ_1 => lt (sI μ_1 t 18 (-9)) (fun μ_2 => (f_X9_plain F μ_2 t).bind (fun μ_4 => (f_X9_step F μ_4 t).bind (fun μ_7 => f_X9_capital_L21 F t (fun x1_24 μ_25 => (if (gI μ_25 t 18) = (-9) then (f_X9_takeDraft F μ_25 t).bind (fun μ_27 => lt (sI μ_27 t 2 0) (fun μ_29 => some (x1_24, μ_29))) else some ((-10) - (gI μ_25 t 18), μ_25))) F 0 μ_7))))
set_option maxRecDepth 100000 in
set_option maxHeartbeats 4000000 in
theorem c_X9_capital (a0 F : Nat) (μ : Mem) (t : Nat) (hk0 : kd t = 9) {v : Int32} {μ2 : Mem} (hr : f_X9_capital F μ t = some (v, μ2)) : Ct a0 yX9_capital cX9_capital 3 (some .int) 5 [.ref (a0 + t)] μ (some (.int v)) μ2 := by
  refine Ct_of (own := RX9) (ι := (fun x => (some (.int x.1), x.2))) (o := f_X9_capital F μ t) (by decide +kernel) rfl (Nat.le_of_ble_eq_true rfl) ?_ hr rfl ⟨_, rfl⟩
  show Ex a0 RX9 cX9_capital 3 (some .int) 5 none (fun x => (some (.int x.1), x.2)) 0 [(0, .ref (a0 + t))] [] μ (f_X9_capital F μ t)
  unfold f_X9_capital
  refine Ex_aload_n dX9_capital_0 rfl 0 rfl ?_
  refine Ex_iconst (v := 0) dX9_capital_1 (by decide) ?_
  refine Ex_putI fgX9_80 fp9_14 hk0 (by decide) rfl rfl (Nat.le_of_ble_eq_true rfl) (fs9_14 a0 μ t 0) dX9_capital_2 (fun μ_1 => ?_)
  refine Ex_aload_n dX9_capital_5 rfl 0 rfl ?_
  refine Ex_bipush (v := (-9)) dX9_capital_6 (by decide) ?_
  refine Ex_putI fgX9_96 fp9_18 hk0 (by decide) rfl rfl (Nat.le_of_ble_eq_true rfl) (fs9_18 a0 μ_1 t (-9)) dX9_capital_8 (fun μ_2 => ?_)
  refine Ex_aload_n dX9_capital_11 rfl 0 rfl ?_
  refine Ex_callVV (n := 0) (dp2 := 0) [] cvX9_66 hk0 rfl rfl (by decide) (by decide) (Nat.le_of_ble_eq_true rfl) rfl (fun μ2 hv => c_X9_plain a0 F μ_2 t hk0 hv) dX9_capital_12 (fun μ_4 hv_5 => ?_)
  refine Ex_iconst (v := 0) dX9_capital_15 (by decide) ?_
  refine Ex_istore_n (L2 := [(1, .int 0), (0, .ref (a0 + t))]) dX9_capital_16 rfl (by decide) rfl ?_
  refine Ex_aload_n dX9_capital_17 rfl 1 rfl ?_
  refine Ex_callVV (n := 0) (dp2 := 1) [] cvX9_99 hk0 rfl rfl (by decide) (by decide) (Nat.le_of_ble_eq_true rfl) rfl (fun μ2 hv => c_X9_step a0 F μ_4 t hk0 hv) dX9_capital_18 (fun μ_7 hv_8 => ?_)
  refine Ex_perm [1, 0] rfl ?_
  refine c_X9_capital_L21 a0 F t _ hk0 (fun x1_24 μ_25 => ?_) F 0 μ_7
  refine Ex_aload_n dX9_capital_92 rfl 0 rfl ?_
  refine Ex_get (v := .int (gI μ_25 t 18)) fgX9_96 hk0 (by decide) rfl dX9_capital_93 ?_
  refine Ex_bipush (v := (-9)) dX9_capital_96 (by decide) ?_
  refine Ex_icmp_eq (tgt := 109) dX9_capital_98 (by decide) ?_ ?_
  · refine Ex_aload_n dX9_capital_109 rfl 0 rfl ?_
    refine Ex_callVV (n := 0) (dp2 := 0) [] cvX9_69 hk0 rfl rfl (by decide) (by decide) (Nat.le_of_ble_eq_true rfl) rfl (fun μ2 hv => c_X9_takeDraft a0 F μ_25 t hk0 hv) dX9_capital_110 (fun μ_27 hv_28 => ?_)
    refine Ex_aload_n dX9_capital_113 rfl 0 rfl ?_
    refine Ex_iconst (v := 0) dX9_capital_114 (by decide) ?_
    refine Ex_putI fgX9_76 fp9_2 hk0 (by decide) rfl rfl (Nat.le_of_ble_eq_true rfl) (fs9_2 a0 μ_27 t 0) dX9_capital_115 (fun μ_29 => ?_)
    refine Ex_iload_n dX9_capital_118 rfl 1 rfl ?_
    exact Ex_iret dX9_capital_119 rfl (fun ty h => by cases h; rfl)
  · refine Ex_bipush (v := (-10)) dX9_capital_101 (by decide) ?_
    refine Ex_aload_n dX9_capital_103 rfl 0 rfl ?_
    refine Ex_get (v := .int (gI μ_25 t 18)) fgX9_96 hk0 (by decide) rfl dX9_capital_104 ?_
    refine Ex_isub dX9_capital_107 ?_
    exact Ex_iret dX9_capital_108 rfl (fun ty h => by cases h; rfl)

def f_X9_isPerson (F : Nat) (μ : Mem) (t : Nat) (p1 : Int32) : Option (Int32) := (f_X9_in F μ p1 0 ((gI μ (t + 7) 0) - 1)).bind (fun v_1 => some v_1)
set_option maxRecDepth 100000 in
set_option maxHeartbeats 4000000 in
theorem c_X9_isPerson (a0 F : Nat) (μ : Mem) (t : Nat) (p1 : Int32) (hk0 : kd t = 9) {v : Int32} (hr : f_X9_isPerson F μ t p1 = some v) : Ct a0 yX9_isPerson cX9_isPerson 2 (some .boolean) 1 [.ref (a0 + t), .int p1] μ (some (.int v)) μ := by
  refine Ct_of (own := RX9) (ι := (fun v => (some (.int v), μ))) (o := f_X9_isPerson F μ t p1) (by decide +kernel) rfl (Nat.le_of_ble_eq_true rfl) ?_ hr rfl ⟨_, rfl⟩
  show Ex a0 RX9 cX9_isPerson 2 (some .boolean) 1 none (fun v => (some (.int v), μ)) 0 [(0, .ref (a0 + t)), (1, .int p1)] [] μ (f_X9_isPerson F μ t p1)
  unfold f_X9_isPerson
  refine Ex_iload_n dX9_isPerson_0 rfl 1 rfl ?_
  refine Ex_iconst (v := 0) dX9_isPerson_1 (by decide) ?_
  refine Ex_aload_n dX9_isPerson_2 rfl 0 rfl ?_
  refine Ex_get (v := .ref (a0 + (t + 7))) fgX9_29 hk0 (by decide) rfl dX9_isPerson_3 ?_
  refine Ex_iconst (v := 0) dX9_isPerson_6 (by decide) ?_
  refine Ex_ialdC (j := 0) 2 (kn_9_7 hk0) (by decide) (by decide) (by decide) dX9_isPerson_7 ?_
  refine Ex_iconst (v := 1) dX9_isPerson_8 (by decide) ?_
  refine Ex_isub dX9_isPerson_9 ?_
  refine Ex_callSR (n := 3) (dp2 := 0) [.int p1, .int 0, .int ((gI μ (t + 7) 0) - 1)] cvX9_72 rfl (by decide) (by decide) (Nat.le_of_ble_eq_true rfl) rfl (fun v hv => c_X9_in a0 F μ p1 0 ((gI μ (t + 7) 0) - 1) hv) dX9_isPerson_10 (fun v_1 hv_3 => ?_)
  exact Ex_iret dX9_isPerson_13 rfl (fun ty h => by cases h; exact (by rcases b_X9_in hv_3 with h | h <;> rw [h] <;> rfl))

def f_X9_know_L58 (F : Nat) (q0 : Nat) (k : Int32 → Mem → Option (Mem)) : Nat → Int32 → Mem → Option (Mem)
  | 0, _, _ => none
  | n + 1, x1, μ => (if x1 < 16 then if ix x1 531 = true then if ix ((17 + (16 * (gI μ (q0 + 12) 16))) + x1) 531 = true then lt (sI μ (q0 + 12) (((17 + (16 * (gI μ (q0 + 12) 16))) + x1).toNatClampNeg) (gI μ (q0 + 12) x1.toNatClampNeg)) (fun μ_1 => f_X9_know_L58 F q0 k n (x1 + 1) μ_1) else none else none else k x1 μ)
set_option maxRecDepth 100000 in
set_option maxHeartbeats 4000000 in
theorem c_X9_know_L58 (a0 : Nat) (F : Nat) (q0 : Nat) (k : Int32 → Mem → Option (Mem)) (hq0 : kd q0 = 9) (hk : ∀ (x1 : Int32) (μ : Mem), Ex a0 RX9 cX9_know 2 none 0 none (fun m => (none, m)) 96 [(0, .ref (a0 + q0))] [] μ (k x1 μ)) : ∀ (n : Nat) (x1 : Int32) (μ : Mem), Ex a0 RX9 cX9_know 2 none 0 none (fun m => (none, m)) 58 [(0, .ref (a0 + q0)), (1, .int x1)] [] μ (f_X9_know_L58 F q0 k n x1 μ) := by
  intro n
  induction n with
  | zero => intro x1 μ; exact Ex_none
  | succ n ih =>
    intro x1 μ
    rw [f_X9_know_L58]
    refine Ex_iload_n dX9_know_58 rfl 1 rfl ?_
    refine Ex_bipush (v := 16) dX9_know_59 (by decide) ?_
    refine Ex_icmp_ge (tgt := 96) dX9_know_61 (by decide) ?_ ?_
    · refine Ex_perm [0] rfl ?_
      exact hk x1 μ
    · refine Ex_aload_n dX9_know_64 rfl 0 rfl ?_
      refine Ex_get (v := .ref (a0 + (q0 + 12))) fgX9_44 hq0 (by decide) rfl dX9_know_65 ?_
      refine Ex_bipush (v := 17) dX9_know_68 (by decide) ?_
      refine Ex_bipush (v := 16) dX9_know_70 (by decide) ?_
      refine Ex_aload_n dX9_know_72 rfl 0 rfl ?_
      refine Ex_get (v := .ref (a0 + (q0 + 12))) fgX9_44 hq0 (by decide) rfl dX9_know_73 ?_
      refine Ex_bipush (v := 16) dX9_know_76 (by decide) ?_
      refine Ex_ialdC (j := 16) 531 (kn_9_12 hq0) (by decide) (by decide) (by decide) dX9_know_78 ?_
      refine Ex_imul dX9_know_79 ?_
      refine Ex_iadd dX9_know_80 ?_
      refine Ex_iload_n dX9_know_81 rfl 1 rfl ?_
      refine Ex_iadd dX9_know_82 ?_
      refine Ex_aload_n dX9_know_83 rfl 0 rfl ?_
      refine Ex_get (v := .ref (a0 + (q0 + 12))) fgX9_44 hq0 (by decide) rfl dX9_know_84 ?_
      refine Ex_iload_n dX9_know_87 rfl 1 rfl ?_
      refine Ex_iald 531 (kn_9_12 hq0) (by decide) dX9_know_88 ?_
      refine Ex_iast 531 (kn_9_12 hq0) (by decide) dX9_know_89 (fun μ_1 => ?_)
      refine Ex_iinc (v := x1 + 1) (L2 := [(1, .int (x1 + 1)), (0, .ref (a0 + q0))]) dX9_know_90 1 rfl rfl (by decide) rfl ?_
      refine Ex_goto (tgt := 58) dX9_know_93 (by decide) ?_
      refine Ex_perm [1, 0] rfl ?_
      exact ih (x1 + 1) μ_1

def f_X9_know_L14 (F : Nat) (q0 : Nat) (k : Int32 → Mem → Option (Mem)) : Nat → Int32 → Mem → Option (Mem)
  | 0, _, _ => none
  | n + 1, x1, μ => (if x1 < 144 then if ix (33 + x1) 531 = true then if ix (17 + x1) 531 = true then lt (sI μ (q0 + 12) ((17 + x1).toNatClampNeg) (gI μ (q0 + 12) ((33 + x1).toNatClampNeg))) (fun μ_5 => f_X9_know_L14 F q0 k n (x1 + 1) μ_5) else none else none else k x1 μ)
set_option maxRecDepth 100000 in
set_option maxHeartbeats 4000000 in
theorem c_X9_know_L14 (a0 : Nat) (F : Nat) (q0 : Nat) (k : Int32 → Mem → Option (Mem)) (hq0 : kd q0 = 9) (hk : ∀ (x1 : Int32) (μ : Mem), Ex a0 RX9 cX9_know 2 none 0 none (fun m => (none, m)) 45 [(0, .ref (a0 + q0))] [] μ (k x1 μ)) : ∀ (n : Nat) (x1 : Int32) (μ : Mem), Ex a0 RX9 cX9_know 2 none 0 none (fun m => (none, m)) 14 [(0, .ref (a0 + q0)), (1, .int x1)] [] μ (f_X9_know_L14 F q0 k n x1 μ) := by
  intro n
  induction n with
  | zero => intro x1 μ; exact Ex_none
  | succ n ih =>
    intro x1 μ
    rw [f_X9_know_L14]
    refine Ex_iload_n dX9_know_14 rfl 1 rfl ?_
    refine Ex_sipush (v := 144) dX9_know_15 (by decide) ?_
    refine Ex_icmp_ge (tgt := 45) dX9_know_18 (by decide) ?_ ?_
    · refine Ex_perm [0] rfl ?_
      exact hk x1 μ
    · refine Ex_aload_n dX9_know_21 rfl 0 rfl ?_
      refine Ex_get (v := .ref (a0 + (q0 + 12))) fgX9_44 hq0 (by decide) rfl dX9_know_22 ?_
      refine Ex_bipush (v := 17) dX9_know_25 (by decide) ?_
      refine Ex_iload_n dX9_know_27 rfl 1 rfl ?_
      refine Ex_iadd dX9_know_28 ?_
      refine Ex_aload_n dX9_know_29 rfl 0 rfl ?_
      refine Ex_get (v := .ref (a0 + (q0 + 12))) fgX9_44 hq0 (by decide) rfl dX9_know_30 ?_
      refine Ex_bipush (v := 33) dX9_know_33 (by decide) ?_
      refine Ex_iload_n dX9_know_35 rfl 1 rfl ?_
      refine Ex_iadd dX9_know_36 ?_
      refine Ex_iald 531 (kn_9_12 hq0) (by decide) dX9_know_37 ?_
      refine Ex_iast 531 (kn_9_12 hq0) (by decide) dX9_know_38 (fun μ_5 => ?_)
      refine Ex_iinc (v := x1 + 1) (L2 := [(1, .int (x1 + 1)), (0, .ref (a0 + q0))]) dX9_know_39 1 rfl rfl (by decide) rfl ?_
      refine Ex_goto (tgt := 14) dX9_know_42 (by decide) ?_
      refine Ex_perm [1, 0] rfl ?_
      exact ih (x1 + 1) μ_5
def f_X9_know (F : Nat) (μ : Mem) (t : Nat) : Option (Mem) := (if (gI μ (t + 12) 16) = 10 then f_X9_know_L14 F t (fun x1_6 μ_7 => lt (sI μ_7 (t + 12) 16 ((gI μ_7 (t + 12) 16) - 1)) (fun μ_8 => f_X9_know_L58 F t (fun x1_9 μ_10 => lt (sI μ_10 (t + 12) 16 ((gI μ_10 (t + 12) 16) + 1)) (fun μ_11 => some μ_11)) F 0 μ_8)) F 0 μ else f_X9_know_L58 F t (fun x1_2 μ_3 => lt (sI μ_3 (t + 12) 16 ((gI μ_3 (t + 12) 16) + 1)) (fun μ_4 => some μ_4)) F 0 μ)
set_option maxRecDepth 100000 in
set_option maxHeartbeats 4000000 in
theorem c_X9_know (a0 F : Nat) (μ : Mem) (t : Nat) (hk0 : kd t = 9) {μ2 : Mem} (hr : f_X9_know F μ t = some μ2) : Ct a0 yX9_know cX9_know 2 none 0 [.ref (a0 + t)] μ none μ2 := by
  refine Ct_of (own := RX9) (ι := (fun m => (none, m))) (o := f_X9_know F μ t) (by decide +kernel) rfl (Nat.le_of_ble_eq_true rfl) ?_ hr rfl rfl
  show Ex a0 RX9 cX9_know 2 none 0 none (fun m => (none, m)) 0 [(0, .ref (a0 + t))] [] μ (f_X9_know F μ t)
  unfold f_X9_know
  refine Ex_aload_n dX9_know_0 rfl 0 rfl ?_
  refine Ex_get (v := .ref (a0 + (t + 12))) fgX9_44 hk0 (by decide) rfl dX9_know_1 ?_
  refine Ex_bipush (v := 16) dX9_know_4 (by decide) ?_
  refine Ex_ialdC (j := 16) 531 (kn_9_12 hk0) (by decide) (by decide) (by decide) dX9_know_6 ?_
  refine Ex_bipush (v := 10) dX9_know_7 (by decide) ?_
  refine Ex_icmp_ne (tgt := 56) dX9_know_9 (by decide) ?_ ?_
  · refine Ex_iconst (v := 0) dX9_know_56 (by decide) ?_
    refine Ex_istore_n (L2 := [(1, .int 0), (0, .ref (a0 + t))]) dX9_know_57 rfl (by decide) rfl ?_
    refine Ex_perm [1, 0] rfl ?_
    refine c_X9_know_L58 a0 F t _ hk0 (fun x1_2 μ_3 => ?_) F 0 μ
    refine Ex_aload_n dX9_know_96 rfl 0 rfl ?_
    refine Ex_get (v := .ref (a0 + (t + 12))) fgX9_44 hk0 (by decide) rfl dX9_know_97 ?_
    refine Ex_bipush (v := 16) dX9_know_100 (by decide) ?_
    refine Ex_dup2 dX9_know_102 rfl rfl ?_
    refine Ex_ialdC (j := 16) 531 (kn_9_12 hk0) (by decide) (by decide) (by decide) dX9_know_103 ?_
    refine Ex_iconst (v := 1) dX9_know_104 (by decide) ?_
    refine Ex_iadd dX9_know_105 ?_
    refine Ex_iastC (j := 16) 531 (kn_9_12 hk0) (by decide) (by decide) (by decide) dX9_know_106 (fun μ_4 => ?_)
    exact Ex_vret dX9_know_107 rfl
  · refine Ex_iconst (v := 0) dX9_know_12 (by decide) ?_
    refine Ex_istore_n (L2 := [(1, .int 0), (0, .ref (a0 + t))]) dX9_know_13 rfl (by decide) rfl ?_
    refine Ex_perm [1, 0] rfl ?_
    refine c_X9_know_L14 a0 F t _ hk0 (fun x1_6 μ_7 => ?_) F 0 μ
    refine Ex_aload_n dX9_know_45 rfl 0 rfl ?_
    refine Ex_get (v := .ref (a0 + (t + 12))) fgX9_44 hk0 (by decide) rfl dX9_know_46 ?_
    refine Ex_bipush (v := 16) dX9_know_49 (by decide) ?_
    refine Ex_dup2 dX9_know_51 rfl rfl ?_
    refine Ex_ialdC (j := 16) 531 (kn_9_12 hk0) (by decide) (by decide) (by decide) dX9_know_52 ?_
    refine Ex_iconst (v := 1) dX9_know_53 (by decide) ?_
    refine Ex_isub dX9_know_54 ?_
    refine Ex_iastC (j := 16) 531 (kn_9_12 hk0) (by decide) (by decide) (by decide) dX9_know_55 (fun μ_8 => ?_)
    refine Ex_iconst (v := 0) dX9_know_56 (by decide) ?_
    refine Ex_istore_n (L2 := [(1, .int 0), (0, .ref (a0 + t))]) dX9_know_57 rfl (by decide) rfl ?_
    refine Ex_perm [1, 0] rfl ?_
    refine c_X9_know_L58 a0 F t _ hk0 (fun x1_9 μ_10 => ?_) F 0 μ_8
    refine Ex_aload_n dX9_know_96 rfl 0 rfl ?_
    refine Ex_get (v := .ref (a0 + (t + 12))) fgX9_44 hk0 (by decide) rfl dX9_know_97 ?_
    refine Ex_bipush (v := 16) dX9_know_100 (by decide) ?_
    refine Ex_dup2 dX9_know_102 rfl rfl ?_
    refine Ex_ialdC (j := 16) 531 (kn_9_12 hk0) (by decide) (by decide) (by decide) dX9_know_103 ?_
    refine Ex_iconst (v := 1) dX9_know_104 (by decide) ?_
    refine Ex_iadd dX9_know_105 ?_
    refine Ex_iastC (j := 16) 531 (kn_9_12 hk0) (by decide) (by decide) (by decide) dX9_know_106 (fun μ_11 => ?_)
    exact Ex_vret dX9_know_107 rfl

def f_X9_claims (F : Nat) (μ : Mem) (t : Nat) (p1 : Int32) (p2 : Int32) : Option (Int32 × Mem) := (f_X9_isPerson F μ t p1).bind (fun v_1 => (if v_1 = 0 then some ((-1), μ) else (f_X9_isPerson F μ t p2).bind (fun v_4 => (if v_4 = 0 then some ((-1), μ) else (if p1 = p2 then some ((-1), μ) else if ix (5 + p1) 531 = true then lt (gI μ (t + 12) ((5 + p1).toNatClampNeg)) (fun x3_7 => if ix (5 + p2) 531 = true then lt (gI μ (t + 12) ((5 + p2).toNatClampNeg)) (fun x4_8 => if ix (0 + p1) 531 = true then if ix (0 + p2) 531 = true then (if (gI μ (t + 12) ((0 + p1).toNatClampNeg)) = (gI μ (t + 12) ((0 + p2).toNatClampNeg)) then (if x4_8 < x3_7 then (if x3_7 = 9 then some ((-2), μ) else (if x4_8 = 0 then some ((-2), μ) else (f_X9_know F μ t).bind (fun μ_10 => if ix (5 + p1) 531 = true then if ix (5 + p1) 531 = true then lt (sI μ_10 (t + 12) ((5 + p1).toNatClampNeg) ((gI μ_10 (t + 12) ((5 + p1).toNatClampNeg)) + 1)) (fun μ_12 => if ix (5 + p2) 531 = true then if ix (5 + p2) 531 = true then lt (sI μ_12 (t + 12) ((5 + p2).toNatClampNeg) ((gI μ_12 (t + 12) ((5 + p2).toNatClampNeg)) - 1)) (fun μ_13 => if ix (5 + p1) 531 = true then some (gI μ_13 (t + 12) ((5 + p1).toNatClampNeg), μ_13) else none) else none else none) else none else none))) else some ((-2), μ)) else some ((-2), μ)) else none else none) else none) else none)))))
set_option maxRecDepth 100000 in
set_option maxHeartbeats 4000000 in
theorem c_X9_claims (a0 F : Nat) (μ : Mem) (t : Nat) (p1 : Int32) (p2 : Int32) (hk0 : kd t = 9) {v : Int32} {μ2 : Mem} (hr : f_X9_claims F μ t p1 p2 = some (v, μ2)) : Ct a0 yX9_claims cX9_claims 5 (some .int) 2 [.ref (a0 + t), .int p1, .int p2] μ (some (.int v)) μ2 := by
  refine Ct_of (own := RX9) (ι := (fun x => (some (.int x.1), x.2))) (o := f_X9_claims F μ t p1 p2) (by decide +kernel) rfl (Nat.le_of_ble_eq_true rfl) ?_ hr rfl ⟨_, rfl⟩
  show Ex a0 RX9 cX9_claims 5 (some .int) 2 none (fun x => (some (.int x.1), x.2)) 0 [(0, .ref (a0 + t)), (1, .int p1), (2, .int p2)] [] μ (f_X9_claims F μ t p1 p2)
  unfold f_X9_claims
  refine Ex_aload_n dX9_claims_0 rfl 0 rfl ?_
  refine Ex_iload_n dX9_claims_1 rfl 1 rfl ?_
  refine Ex_callVR (n := 1) (dp2 := 1) [.int p1] cvX9_141 hk0 rfl rfl (by decide) (by decide) (Nat.le_of_ble_eq_true rfl) rfl (fun v hv => c_X9_isPerson a0 F μ t p1 hk0 hv) dX9_claims_2 (fun v_1 hv_3 => ?_)
  refine Ex_if_eq (tgt := 21) dX9_claims_5 (by decide) ?_ ?_
  · refine Ex_iconst (v := (-1)) dX9_claims_21 (by decide) ?_
    exact Ex_iret dX9_claims_22 rfl (fun ty h => by cases h; rfl)
  · refine Ex_aload_n dX9_claims_8 rfl 0 rfl ?_
    refine Ex_iload_n dX9_claims_9 rfl 2 rfl ?_
    refine Ex_callVR (n := 1) (dp2 := 1) [.int p2] cvX9_141 hk0 rfl rfl (by decide) (by decide) (Nat.le_of_ble_eq_true rfl) rfl (fun v hv => c_X9_isPerson a0 F μ t p2 hk0 hv) dX9_claims_10 (fun v_4 hv_6 => ?_)
    refine Ex_if_eq (tgt := 21) dX9_claims_13 (by decide) ?_ ?_
    · refine Ex_iconst (v := (-1)) dX9_claims_21 (by decide) ?_
      exact Ex_iret dX9_claims_22 rfl (fun ty h => by cases h; rfl)
    · refine Ex_iload_n dX9_claims_16 rfl 1 rfl ?_
      refine Ex_iload_n dX9_claims_17 rfl 2 rfl ?_
      refine Ex_icmp_ne (tgt := 23) dX9_claims_18 (by decide) ?_ ?_
      · refine Ex_aload_n dX9_claims_23 rfl 0 rfl ?_
        refine Ex_get (v := .ref (a0 + (t + 12))) fgX9_44 hk0 (by decide) rfl dX9_claims_24 ?_
        refine Ex_iconst (v := 5) dX9_claims_27 (by decide) ?_
        refine Ex_iload_n dX9_claims_28 rfl 1 rfl ?_
        refine Ex_iadd dX9_claims_29 ?_
        refine Ex_iald 531 (kn_9_12 hk0) (by decide) dX9_claims_30 ?_
        refine Ex_top (fun x3_7 => ?_)
        refine Ex_istore_n (L2 := [(3, .int x3_7), (0, .ref (a0 + t)), (1, .int p1), (2, .int p2)]) dX9_claims_31 rfl (by decide) rfl ?_
        refine Ex_aload_n dX9_claims_32 rfl 1 rfl ?_
        refine Ex_get (v := .ref (a0 + (t + 12))) fgX9_44 hk0 (by decide) rfl dX9_claims_33 ?_
        refine Ex_iconst (v := 5) dX9_claims_36 (by decide) ?_
        refine Ex_iload_n dX9_claims_37 rfl 3 rfl ?_
        refine Ex_iadd dX9_claims_38 ?_
        refine Ex_iald 531 (kn_9_12 hk0) (by decide) dX9_claims_39 ?_
        refine Ex_top (fun x4_8 => ?_)
        refine Ex_istore (L2 := [(4, .int x4_8), (3, .int x3_7), (0, .ref (a0 + t)), (1, .int p1), (2, .int p2)]) dX9_claims_40 (by decide) rfl ?_
        refine Ex_aload_n dX9_claims_42 rfl 2 rfl ?_
        refine Ex_get (v := .ref (a0 + (t + 12))) fgX9_44 hk0 (by decide) rfl dX9_claims_43 ?_
        refine Ex_iconst (v := 0) dX9_claims_46 (by decide) ?_
        refine Ex_iload_n dX9_claims_47 rfl 3 rfl ?_
        refine Ex_iadd dX9_claims_48 ?_
        refine Ex_iald 531 (kn_9_12 hk0) (by decide) dX9_claims_49 ?_
        refine Ex_aload_n dX9_claims_50 rfl 2 rfl ?_
        refine Ex_get (v := .ref (a0 + (t + 12))) fgX9_44 hk0 (by decide) rfl dX9_claims_51 ?_
        refine Ex_iconst (v := 0) dX9_claims_54 (by decide) ?_
        refine Ex_iload_n dX9_claims_55 rfl 4 rfl ?_
        refine Ex_iadd dX9_claims_56 ?_
        refine Ex_iald 531 (kn_9_12 hk0) (by decide) dX9_claims_57 ?_
        refine Ex_icmp_ne (tgt := 78) dX9_claims_58 (by decide) ?_ ?_
        · refine Ex_bipush (v := (-2)) dX9_claims_78 (by decide) ?_
          exact Ex_iret dX9_claims_80 rfl (fun ty h => by cases h; rfl)
        · refine Ex_iload_n dX9_claims_61 rfl 1 rfl ?_
          refine Ex_iload dX9_claims_62 0 rfl ?_
          refine Ex_icmp_le (tgt := 78) dX9_claims_64 (by decide) ?_ ?_
          · refine Ex_bipush (v := (-2)) dX9_claims_78 (by decide) ?_
            exact Ex_iret dX9_claims_80 rfl (fun ty h => by cases h; rfl)
          · refine Ex_iload_n dX9_claims_67 rfl 1 rfl ?_
            refine Ex_bipush (v := 9) dX9_claims_68 (by decide) ?_
            refine Ex_icmp_eq (tgt := 78) dX9_claims_70 (by decide) ?_ ?_
            · refine Ex_bipush (v := (-2)) dX9_claims_78 (by decide) ?_
              exact Ex_iret dX9_claims_80 rfl (fun ty h => by cases h; rfl)
            · refine Ex_iload dX9_claims_73 0 rfl ?_
              refine Ex_if_ne (tgt := 81) dX9_claims_75 (by decide) ?_ ?_
              · refine Ex_aload_n dX9_claims_81 rfl 2 rfl ?_
                refine Ex_callVV (n := 0) (dp2 := 0) [] cvX9_147 hk0 rfl rfl (by decide) (by decide) (Nat.le_of_ble_eq_true rfl) rfl (fun μ2 hv => c_X9_know a0 F μ t hk0 hv) dX9_claims_82 (fun μ_10 hv_11 => ?_)
                refine Ex_aload_n dX9_claims_85 rfl 2 rfl ?_
                refine Ex_get (v := .ref (a0 + (t + 12))) fgX9_44 hk0 (by decide) rfl dX9_claims_86 ?_
                refine Ex_iconst (v := 5) dX9_claims_89 (by decide) ?_
                refine Ex_iload_n dX9_claims_90 rfl 3 rfl ?_
                refine Ex_iadd dX9_claims_91 ?_
                refine Ex_dup2 dX9_claims_92 rfl rfl ?_
                refine Ex_iald 531 (kn_9_12 hk0) (by decide) dX9_claims_93 ?_
                refine Ex_iconst (v := 1) dX9_claims_94 (by decide) ?_
                refine Ex_iadd dX9_claims_95 ?_
                refine Ex_iast 531 (kn_9_12 hk0) (by decide) dX9_claims_96 (fun μ_12 => ?_)
                refine Ex_aload_n dX9_claims_97 rfl 2 rfl ?_
                refine Ex_get (v := .ref (a0 + (t + 12))) fgX9_44 hk0 (by decide) rfl dX9_claims_98 ?_
                refine Ex_iconst (v := 5) dX9_claims_101 (by decide) ?_
                refine Ex_iload_n dX9_claims_102 rfl 4 rfl ?_
                refine Ex_iadd dX9_claims_103 ?_
                refine Ex_dup2 dX9_claims_104 rfl rfl ?_
                refine Ex_iald 531 (kn_9_12 hk0) (by decide) dX9_claims_105 ?_
                refine Ex_iconst (v := 1) dX9_claims_106 (by decide) ?_
                refine Ex_isub dX9_claims_107 ?_
                refine Ex_iast 531 (kn_9_12 hk0) (by decide) dX9_claims_108 (fun μ_13 => ?_)
                refine Ex_aload_n dX9_claims_109 rfl 2 rfl ?_
                refine Ex_get (v := .ref (a0 + (t + 12))) fgX9_44 hk0 (by decide) rfl dX9_claims_110 ?_
                refine Ex_iconst (v := 5) dX9_claims_113 (by decide) ?_
                refine Ex_iload_n dX9_claims_114 rfl 3 rfl ?_
                refine Ex_iadd dX9_claims_115 ?_
                refine Ex_iald 531 (kn_9_12 hk0) (by decide) dX9_claims_116 ?_
                exact Ex_iret dX9_claims_117 rfl (fun ty h => by cases h; rfl)
              · refine Ex_bipush (v := (-2)) dX9_claims_78 (by decide) ?_
                exact Ex_iret dX9_claims_80 rfl (fun ty h => by cases h; rfl)
      · refine Ex_iconst (v := (-1)) dX9_claims_21 (by decide) ?_
        exact Ex_iret dX9_claims_22 rfl (fun ty h => by cases h; rfl)

def f_X9_clear (F : Nat) (μ : Mem) (t : Nat) : Option (Int32 × Mem) := lt (sI μ t 2 0) (fun μ_1 => some (gI μ t 2, μ_1))
set_option maxRecDepth 100000 in
set_option maxHeartbeats 4000000 in
theorem c_X9_clear (a0 F : Nat) (μ : Mem) (t : Nat) (hk0 : kd t = 9) {v : Int32} {μ2 : Mem} (hr : f_X9_clear F μ t = some (v, μ2)) : Ct a0 yX9_clear cX9_clear 2 (some .int) 0 [.ref (a0 + t)] μ (some (.int v)) μ2 := by
  refine Ct_of (own := RX9) (ι := (fun x => (some (.int x.1), x.2))) (o := f_X9_clear F μ t) (by decide +kernel) rfl (Nat.le_of_ble_eq_true rfl) ?_ hr rfl ⟨_, rfl⟩
  show Ex a0 RX9 cX9_clear 2 (some .int) 0 none (fun x => (some (.int x.1), x.2)) 0 [(0, .ref (a0 + t))] [] μ (f_X9_clear F μ t)
  unfold f_X9_clear
  refine Ex_aload_n dX9_clear_0 rfl 0 rfl ?_
  refine Ex_get (v := .int (gI μ t 2)) fgX9_76 hk0 (by decide) rfl dX9_clear_1 ?_
  refine Ex_istore_n (L2 := [(1, .int (gI μ t 2)), (0, .ref (a0 + t))]) dX9_clear_4 rfl (by decide) rfl ?_
  refine Ex_aload_n dX9_clear_5 rfl 1 rfl ?_
  refine Ex_iconst (v := 0) dX9_clear_6 (by decide) ?_
  refine Ex_putI fgX9_76 fp9_2 hk0 (by decide) rfl rfl (Nat.le_of_ble_eq_true rfl) (fs9_2 a0 μ t 0) dX9_clear_7 (fun μ_1 => ?_)
  refine Ex_iload_n dX9_clear_10 rfl 0 rfl ?_
  exact Ex_iret dX9_clear_11 rfl (fun ty h => by cases h; rfl)

def f_X9_isClosed (F : Nat) (μ : Mem) (t : Nat) (p1 : Int32) : Option (Int32) := (if (((gI μ (t + 12) 15) >>> (p1 &&& 31)) &&& 1) = 1 then some 1 else some 0)
set_option maxRecDepth 100000 in
set_option maxHeartbeats 4000000 in
theorem c_X9_isClosed (a0 F : Nat) (μ : Mem) (t : Nat) (p1 : Int32) (hk0 : kd t = 9) {v : Int32} (hr : f_X9_isClosed F μ t p1 = some v) : Ct a0 yX9_isClosed cX9_isClosed 2 (some .boolean) 0 [.ref (a0 + t), .int p1] μ (some (.int v)) μ := by
  refine Ct_of (own := RX9) (ι := (fun v => (some (.int v), μ))) (o := f_X9_isClosed F μ t p1) (by decide +kernel) rfl (Nat.le_of_ble_eq_true rfl) ?_ hr rfl ⟨_, rfl⟩
  show Ex a0 RX9 cX9_isClosed 2 (some .boolean) 0 none (fun v => (some (.int v), μ)) 0 [(0, .ref (a0 + t)), (1, .int p1)] [] μ (f_X9_isClosed F μ t p1)
  unfold f_X9_isClosed
  refine Ex_aload_n dX9_isClosed_0 rfl 0 rfl ?_
  refine Ex_get (v := .ref (a0 + (t + 12))) fgX9_44 hk0 (by decide) rfl dX9_isClosed_1 ?_
  refine Ex_bipush (v := 15) dX9_isClosed_4 (by decide) ?_
  refine Ex_ialdC (j := 15) 531 (kn_9_12 hk0) (by decide) (by decide) (by decide) dX9_isClosed_6 ?_
  refine Ex_iload_n dX9_isClosed_7 rfl 1 rfl ?_
  refine Ex_ishr dX9_isClosed_8 ?_
  refine Ex_iconst (v := 1) dX9_isClosed_9 (by decide) ?_
  refine Ex_iand dX9_isClosed_10 ?_
  refine Ex_iconst (v := 1) dX9_isClosed_11 (by decide) ?_
  refine Ex_icmp_ne (tgt := 19) dX9_isClosed_12 (by decide) ?_ ?_
  · refine Ex_iconst (v := 0) dX9_isClosed_19 (by decide) ?_
    exact Ex_iret dX9_isClosed_20 rfl (fun ty h => by cases h; rfl)
  · refine Ex_iconst (v := 1) dX9_isClosed_15 (by decide) ?_
    refine Ex_goto (tgt := 20) dX9_isClosed_16 (by decide) ?_
    exact Ex_iret dX9_isClosed_20 rfl (fun ty h => by cases h; rfl)

def f_X9_costOf (F : Nat) (μ : Mem) (t : Nat) (p1 : Int32) (p2 : Int32) (p3 : Int32) : Option (Int32) := (f_X9_isClosed F μ t p2).bind (fun v_1 => (if v_1 = 0 then (f_X9_wide F μ t p1).bind (fun v_4 => if ix p2 16 = true then lt (v_4 - (gI μ (t + 6) p2.toNatClampNeg)) (fun x4_7 => (if p3 = 0 then (if 0 < x4_7 then some 100000 else some 1) else (if 0 < x4_7 then some x4_7 else some 0))) else none) else some 100000))
set_option maxRecDepth 100000 in
set_option maxHeartbeats 4000000 in
theorem c_X9_costOf (a0 F : Nat) (μ : Mem) (t : Nat) (p1 : Int32) (p2 : Int32) (p3 : Int32) (hk0 : kd t = 9) {v : Int32} (hr : f_X9_costOf F μ t p1 p2 p3 = some v) : Ct a0 yX9_costOf cX9_costOf 5 (some .int) 1 [.ref (a0 + t), .int p1, .int p2, .int p3] μ (some (.int v)) μ := by
  refine Ct_of (own := RX9) (ι := (fun v => (some (.int v), μ))) (o := f_X9_costOf F μ t p1 p2 p3) (by decide +kernel) rfl (Nat.le_of_ble_eq_true rfl) ?_ hr rfl ⟨_, rfl⟩
  show Ex a0 RX9 cX9_costOf 5 (some .int) 1 none (fun v => (some (.int v), μ)) 0 [(0, .ref (a0 + t)), (1, .int p1), (2, .int p2), (3, .int p3)] [] μ (f_X9_costOf F μ t p1 p2 p3)
  unfold f_X9_costOf
  refine Ex_aload_n dX9_costOf_0 rfl 0 rfl ?_
  refine Ex_iload_n dX9_costOf_1 rfl 2 rfl ?_
  refine Ex_callVR (n := 1) (dp2 := 0) [.int p2] cvX9_138 hk0 rfl rfl (by decide) (by decide) (Nat.le_of_ble_eq_true rfl) rfl (fun v hv => c_X9_isClosed a0 F μ t p2 hk0 hv) dX9_costOf_2 (fun v_1 hv_3 => ?_)
  refine Ex_if_eq (tgt := 11) dX9_costOf_5 (by decide) ?_ ?_
  · refine Ex_aload_n dX9_costOf_11 rfl 0 rfl ?_
    refine Ex_iload_n dX9_costOf_12 rfl 1 rfl ?_
    refine Ex_callVR (n := 1) (dp2 := 0) [.int p1] cvX9_124 hk0 rfl rfl (by decide) (by decide) (Nat.le_of_ble_eq_true rfl) rfl (fun v hv => c_X9_wide a0 F μ t p1 hk0 hv) dX9_costOf_13 (fun v_4 hv_6 => ?_)
    refine Ex_aload_n dX9_costOf_16 rfl 0 rfl ?_
    refine Ex_get (v := .ref (a0 + (t + 6))) fgX9_26 hk0 (by decide) rfl dX9_costOf_17 ?_
    refine Ex_iload_n dX9_costOf_20 rfl 2 rfl ?_
    refine Ex_iald 16 (kn_9_6 hk0) (by decide) dX9_costOf_21 ?_
    refine Ex_isub dX9_costOf_22 ?_
    refine Ex_top (fun x4_7 => ?_)
    refine Ex_istore (L2 := [(4, .int x4_7), (0, .ref (a0 + t)), (1, .int p1), (2, .int p2), (3, .int p3)]) dX9_costOf_23 (by decide) rfl ?_
    refine Ex_iload_n dX9_costOf_25 rfl 4 rfl ?_
    refine Ex_if_eq (tgt := 43) dX9_costOf_26 (by decide) ?_ ?_
    · refine Ex_iload dX9_costOf_43 0 rfl ?_
      refine Ex_if_le (tgt := 53) dX9_costOf_45 (by decide) ?_ ?_
      · refine Ex_iconst (v := 1) dX9_costOf_53 (by decide) ?_
        exact Ex_iret dX9_costOf_54 rfl (fun ty h => by cases h; rfl)
      · refine Ex_ldc (v := 100000) dX9_costOf_48 cnX9_163 ?_
        refine Ex_goto (tgt := 54) dX9_costOf_50 (by decide) ?_
        exact Ex_iret dX9_costOf_54 rfl (fun ty h => by cases h; rfl)
    · refine Ex_iload dX9_costOf_29 0 rfl ?_
      refine Ex_if_le (tgt := 39) dX9_costOf_31 (by decide) ?_ ?_
      · refine Ex_iconst (v := 0) dX9_costOf_39 (by decide) ?_
        refine Ex_goto (tgt := 54) dX9_costOf_40 (by decide) ?_
        exact Ex_iret dX9_costOf_54 rfl (fun ty h => by cases h; rfl)
      · refine Ex_iload dX9_costOf_34 0 rfl ?_
        refine Ex_goto (tgt := 54) dX9_costOf_36 (by decide) ?_
        exact Ex_iret dX9_costOf_54 rfl (fun ty h => by cases h; rfl)
  · refine Ex_ldc (v := 100000) dX9_costOf_8 cnX9_163 ?_
    exact Ex_iret dX9_costOf_10 rfl (fun ty h => by cases h; rfl)

def f_X9_count (F : Nat) (μ : Mem) (t : Nat) (p1 : Int32) : Option (Int32) := (if p1 = 0 then some (gI μ (t + 2) 0) else (if p1 = 1 then some (gI μ (t + 3) 0) else (if p1 = 2 then some (gI μ (t + 7) 0) else (if p1 = 3 then some (gI μ (t + 10) 0) else (if p1 = 4 then some (gI μ (t + 11) 0) else (if p1 = 5 then some (gI μ t 26) else (if p1 = 6 then some (gI μ (t + 12) 16) else (if p1 = 7 then some (gI μ t 2) else some (-1)))))))))
set_option maxRecDepth 100000 in
set_option maxHeartbeats 4000000 in
theorem c_X9_count (a0 F : Nat) (μ : Mem) (t : Nat) (p1 : Int32) (hk0 : kd t = 9) {v : Int32} (hr : f_X9_count F μ t p1 = some v) : Ct a0 yX9_count cX9_count 2 (some .int) 0 [.ref (a0 + t), .int p1] μ (some (.int v)) μ := by
  refine Ct_of (own := RX9) (ι := (fun v => (some (.int v), μ))) (o := f_X9_count F μ t p1) (by decide +kernel) rfl (Nat.le_of_ble_eq_true rfl) ?_ hr rfl ⟨_, rfl⟩
  show Ex a0 RX9 cX9_count 2 (some .int) 0 none (fun v => (some (.int v), μ)) 0 [(0, .ref (a0 + t)), (1, .int p1)] [] μ (f_X9_count F μ t p1)
  unfold f_X9_count
  refine Ex_iload_n dX9_count_0 rfl 1 rfl ?_
  refine Ex_if (p1 = 0) (fun hc_1 => ?_) (fun hc_1 => ?_)
  · refine Ex_tblC (tgt := 48) dX9_count_1 (i := 0) (by rw [hc_1]; rfl) (by decide) (by decide) (off := 47) rfl (by decide) ?_
    refine Ex_aload_n dX9_count_48 rfl 0 rfl ?_
    refine Ex_get (v := .ref (a0 + (t + 2))) fgX9_13 hk0 (by decide) rfl dX9_count_49 ?_
    refine Ex_iconst (v := 0) dX9_count_52 (by decide) ?_
    refine Ex_ialdC (j := 0) 2 (kn_9_2 hk0) (by decide) (by decide) (by decide) dX9_count_53 ?_
    exact Ex_iret dX9_count_54 rfl (fun ty h => by cases h; rfl)
  · refine Ex_if (p1 = 1) (fun hc_2 => ?_) (fun hc_2 => ?_)
    · refine Ex_tblC (tgt := 55) dX9_count_1 (i := 1) (by rw [hc_2]; rfl) (by decide) (by decide) (off := 54) rfl (by decide) ?_
      refine Ex_aload_n dX9_count_55 rfl 0 rfl ?_
      refine Ex_get (v := .ref (a0 + (t + 3))) fgX9_17 hk0 (by decide) rfl dX9_count_56 ?_
      refine Ex_iconst (v := 0) dX9_count_59 (by decide) ?_
      refine Ex_ialdC (j := 0) 2 (kn_9_3 hk0) (by decide) (by decide) (by decide) dX9_count_60 ?_
      exact Ex_iret dX9_count_61 rfl (fun ty h => by cases h; rfl)
    · refine Ex_if (p1 = 2) (fun hc_3 => ?_) (fun hc_3 => ?_)
      · refine Ex_tblC (tgt := 62) dX9_count_1 (i := 2) (by rw [hc_3]; rfl) (by decide) (by decide) (off := 61) rfl (by decide) ?_
        refine Ex_aload_n dX9_count_62 rfl 0 rfl ?_
        refine Ex_get (v := .ref (a0 + (t + 7))) fgX9_29 hk0 (by decide) rfl dX9_count_63 ?_
        refine Ex_iconst (v := 0) dX9_count_66 (by decide) ?_
        refine Ex_ialdC (j := 0) 2 (kn_9_7 hk0) (by decide) (by decide) (by decide) dX9_count_67 ?_
        exact Ex_iret dX9_count_68 rfl (fun ty h => by cases h; rfl)
      · refine Ex_if (p1 = 3) (fun hc_4 => ?_) (fun hc_4 => ?_)
        · refine Ex_tblC (tgt := 69) dX9_count_1 (i := 3) (by rw [hc_4]; rfl) (by decide) (by decide) (off := 68) rfl (by decide) ?_
          refine Ex_aload_n dX9_count_69 rfl 0 rfl ?_
          refine Ex_get (v := .ref (a0 + (t + 10))) fgX9_38 hk0 (by decide) rfl dX9_count_70 ?_
          refine Ex_iconst (v := 0) dX9_count_73 (by decide) ?_
          refine Ex_ialdC (j := 0) 2 (kn_9_10 hk0) (by decide) (by decide) (by decide) dX9_count_74 ?_
          exact Ex_iret dX9_count_75 rfl (fun ty h => by cases h; rfl)
        · refine Ex_if (p1 = 4) (fun hc_5 => ?_) (fun hc_5 => ?_)
          · refine Ex_tblC (tgt := 76) dX9_count_1 (i := 4) (by rw [hc_5]; rfl) (by decide) (by decide) (off := 75) rfl (by decide) ?_
            refine Ex_aload_n dX9_count_76 rfl 0 rfl ?_
            refine Ex_get (v := .ref (a0 + (t + 11))) fgX9_41 hk0 (by decide) rfl dX9_count_77 ?_
            refine Ex_iconst (v := 0) dX9_count_80 (by decide) ?_
            refine Ex_ialdC (j := 0) 2 (kn_9_11 hk0) (by decide) (by decide) (by decide) dX9_count_81 ?_
            exact Ex_iret dX9_count_82 rfl (fun ty h => by cases h; rfl)
          · refine Ex_if (p1 = 5) (fun hc_6 => ?_) (fun hc_6 => ?_)
            · refine Ex_tblC (tgt := 83) dX9_count_1 (i := 5) (by rw [hc_6]; rfl) (by decide) (by decide) (off := 82) rfl (by decide) ?_
              refine Ex_aload_n dX9_count_83 rfl 0 rfl ?_
              refine Ex_get (v := .int (gI μ t 26)) fgX9_113 hk0 (by decide) rfl dX9_count_84 ?_
              exact Ex_iret dX9_count_87 rfl (fun ty h => by cases h; rfl)
            · refine Ex_if (p1 = 6) (fun hc_7 => ?_) (fun hc_7 => ?_)
              · refine Ex_tblC (tgt := 88) dX9_count_1 (i := 6) (by rw [hc_7]; rfl) (by decide) (by decide) (off := 87) rfl (by decide) ?_
                refine Ex_aload_n dX9_count_88 rfl 0 rfl ?_
                refine Ex_get (v := .ref (a0 + (t + 12))) fgX9_44 hk0 (by decide) rfl dX9_count_89 ?_
                refine Ex_bipush (v := 16) dX9_count_92 (by decide) ?_
                refine Ex_ialdC (j := 16) 531 (kn_9_12 hk0) (by decide) (by decide) (by decide) dX9_count_94 ?_
                exact Ex_iret dX9_count_95 rfl (fun ty h => by cases h; rfl)
              · refine Ex_if (p1 = 7) (fun hc_8 => ?_) (fun hc_8 => ?_)
                · refine Ex_tblC (tgt := 96) dX9_count_1 (i := 7) (by rw [hc_8]; rfl) (by decide) (by decide) (off := 95) rfl (by decide) ?_
                  refine Ex_aload_n dX9_count_96 rfl 0 rfl ?_
                  refine Ex_get (v := .int (gI μ t 2)) fgX9_76 hk0 (by decide) rfl dX9_count_97 ?_
                  exact Ex_iret dX9_count_100 rfl (fun ty h => by cases h; rfl)
                · refine Ex_tblD (tgt := 101) dX9_count_1 (by have q0 := lv_neT hc_1 (show (0 : Int32).toInt = 0 from rfl); have q1 := lv_neT hc_2 (show (1 : Int32).toInt = 1 from rfl); have q2 := lv_neT hc_3 (show (2 : Int32).toInt = 2 from rfl); have q3 := lv_neT hc_4 (show (3 : Int32).toInt = 3 from rfl); have q4 := lv_neT hc_5 (show (4 : Int32).toInt = 4 from rfl); have q5 := lv_neT hc_6 (show (5 : Int32).toInt = 5 from rfl); have q6 := lv_neT hc_7 (show (6 : Int32).toInt = 6 from rfl); have q7 := lv_neT hc_8 (show (7 : Int32).toInt = 7 from rfl); omega) (by decide) ?_
                  refine Ex_iconst (v := (-1)) dX9_count_101 (by decide) ?_
                  exact Ex_iret dX9_count_102 rfl (fun ty h => by cases h; rfl)

def f_X9_ends (F : Nat) (μ : Mem) (t : Nat) (p1 : Int32) (p2 : Int32) : Option (Int32) := if ix p1 16 = true then (if (gI μ (t + 4) p1.toNatClampNeg) = p2 then some 1 else if ix p1 16 = true then (if (gI μ (t + 5) p1.toNatClampNeg) = p2 then some 1 else some 0) else none) else none
set_option maxRecDepth 100000 in
set_option maxHeartbeats 4000000 in
theorem c_X9_ends (a0 F : Nat) (μ : Mem) (t : Nat) (p1 : Int32) (p2 : Int32) (hk0 : kd t = 9) {v : Int32} (hr : f_X9_ends F μ t p1 p2 = some v) : Ct a0 yX9_ends cX9_ends 3 (some .boolean) 0 [.ref (a0 + t), .int p1, .int p2] μ (some (.int v)) μ := by
  refine Ct_of (own := RX9) (ι := (fun v => (some (.int v), μ))) (o := f_X9_ends F μ t p1 p2) (by decide +kernel) rfl (Nat.le_of_ble_eq_true rfl) ?_ hr rfl ⟨_, rfl⟩
  show Ex a0 RX9 cX9_ends 3 (some .boolean) 0 none (fun v => (some (.int v), μ)) 0 [(0, .ref (a0 + t)), (1, .int p1), (2, .int p2)] [] μ (f_X9_ends F μ t p1 p2)
  unfold f_X9_ends
  refine Ex_aload_n dX9_ends_0 rfl 0 rfl ?_
  refine Ex_get (v := .ref (a0 + (t + 4))) fgX9_20 hk0 (by decide) rfl dX9_ends_1 ?_
  refine Ex_iload_n dX9_ends_4 rfl 1 rfl ?_
  refine Ex_iald 16 (kn_9_4 hk0) (by decide) dX9_ends_5 ?_
  refine Ex_iload_n dX9_ends_6 rfl 2 rfl ?_
  refine Ex_icmp_eq (tgt := 20) dX9_ends_7 (by decide) ?_ ?_
  · refine Ex_iconst (v := 1) dX9_ends_20 (by decide) ?_
    refine Ex_goto (tgt := 25) dX9_ends_21 (by decide) ?_
    exact Ex_iret dX9_ends_25 rfl (fun ty h => by cases h; rfl)
  · refine Ex_aload_n dX9_ends_10 rfl 0 rfl ?_
    refine Ex_get (v := .ref (a0 + (t + 5))) fgX9_23 hk0 (by decide) rfl dX9_ends_11 ?_
    refine Ex_iload_n dX9_ends_14 rfl 1 rfl ?_
    refine Ex_iald 16 (kn_9_5 hk0) (by decide) dX9_ends_15 ?_
    refine Ex_iload_n dX9_ends_16 rfl 2 rfl ?_
    refine Ex_icmp_ne (tgt := 24) dX9_ends_17 (by decide) ?_ ?_
    · refine Ex_iconst (v := 0) dX9_ends_24 (by decide) ?_
      exact Ex_iret dX9_ends_25 rfl (fun ty h => by cases h; rfl)
    · refine Ex_iconst (v := 1) dX9_ends_20 (by decide) ?_
      refine Ex_goto (tgt := 25) dX9_ends_21 (by decide) ?_
      exact Ex_iret dX9_ends_25 rfl (fun ty h => by cases h; rfl)

def f_X9_fitsOf_L16 (F : Nat) (μ : Mem) (q0 : Nat) (x1 : Int32) (x2 : Int32) (x3 : Int32) (k : Int32 → Int32 → Option (Int32)) : Nat → Int32 → Int32 → Option (Int32)
  | 0, _, _ => none
  | n + 1, x4, x5 => (if x5 < (gI μ q0 26) then if ix x5 6 = true then lt (((gI μ (q0 + 10) 0) + (2 * x3)) - (gI μ (q0 + 18) x5.toNatClampNeg)) (fun x6_1 => (if x4 = 0 then f_X9_fitsOf_L16 F μ q0 x1 x2 x3 k n 0 (x5 + 1) else if ix x5 6 = true then (if (gI μ (q0 + 17) x5.toNatClampNeg) = x1 then (f_X9_in F μ x6_1 (-(gI μ (q0 + 11) 0)) (gI μ (q0 + 11) 0)).bind (fun v_2 => (if v_2 = 0 then f_X9_fitsOf_L16 F μ q0 x1 x2 x3 k n 0 (x5 + 1) else f_X9_fitsOf_L16 F μ q0 x1 x2 x3 k n 1 (x5 + 1))) else f_X9_fitsOf_L16 F μ q0 x1 x2 x3 k n 1 (x5 + 1)) else none)) else none else k x4 x5)
set_option maxRecDepth 100000 in
set_option maxHeartbeats 4000000 in
theorem c_X9_fitsOf_L16 (a0 : Nat) (F : Nat) (μ : Mem) (q0 : Nat) (x1 : Int32) (x2 : Int32) (x3 : Int32) (k : Int32 → Int32 → Option (Int32)) (hq0 : kd q0 = 9) (hk : ∀ (x4 : Int32) (x5 : Int32), Ex a0 RX9 cX9_fitsOf 7 (some .int) 1 none (fun v => (some (.int v), μ)) 95 [(0, .ref (a0 + q0)), (1, .int x1), (2, .int x2), (3, .int x3), (4, .int x4)] [] μ (k x4 x5)) : ∀ (n : Nat) (x4 : Int32) (x5 : Int32), Ex a0 RX9 cX9_fitsOf 7 (some .int) 1 none (fun v => (some (.int v), μ)) 16 [(0, .ref (a0 + q0)), (1, .int x1), (2, .int x2), (3, .int x3), (4, .int x4), (5, .int x5)] [] μ (f_X9_fitsOf_L16 F μ q0 x1 x2 x3 k n x4 x5) := by
  intro n
  induction n with
  | zero => intro x4 x5; exact Ex_none
  | succ n ih =>
    intro x4 x5
    rw [f_X9_fitsOf_L16]
    refine Ex_iload dX9_fitsOf_16 5 rfl ?_
    refine Ex_aload_n dX9_fitsOf_18 rfl 0 rfl ?_
    refine Ex_get (v := .int (gI μ q0 26)) fgX9_113 hq0 (by decide) rfl dX9_fitsOf_19 ?_
    refine Ex_icmp_ge (tgt := 95) dX9_fitsOf_22 (by decide) ?_ ?_
    · refine Ex_perm [0, 1, 2, 3, 4] rfl ?_
      exact hk x4 x5
    · refine Ex_aload_n dX9_fitsOf_25 rfl 0 rfl ?_
      refine Ex_get (v := .ref (a0 + (q0 + 10))) fgX9_38 hq0 (by decide) rfl dX9_fitsOf_26 ?_
      refine Ex_iconst (v := 0) dX9_fitsOf_29 (by decide) ?_
      refine Ex_ialdC (j := 0) 2 (kn_9_10 hq0) (by decide) (by decide) (by decide) dX9_fitsOf_30 ?_
      refine Ex_iconst (v := 2) dX9_fitsOf_31 (by decide) ?_
      refine Ex_iload_n dX9_fitsOf_32 rfl 3 rfl ?_
      refine Ex_imul dX9_fitsOf_33 ?_
      refine Ex_iadd dX9_fitsOf_34 ?_
      refine Ex_aload_n dX9_fitsOf_35 rfl 0 rfl ?_
      refine Ex_get (v := .ref (a0 + (q0 + 18))) fgX9_63 hq0 (by decide) rfl dX9_fitsOf_36 ?_
      refine Ex_iload dX9_fitsOf_39 5 rfl ?_
      refine Ex_iald 6 (kn_9_18 hq0) (by decide) dX9_fitsOf_41 ?_
      refine Ex_isub dX9_fitsOf_42 ?_
      refine Ex_top (fun x6_1 => ?_)
      refine Ex_istore (L2 := [(6, .int x6_1), (0, .ref (a0 + q0)), (1, .int x1), (2, .int x2), (3, .int x3), (4, .int x4), (5, .int x5)]) dX9_fitsOf_43 (by decide) rfl ?_
      refine Ex_iload dX9_fitsOf_45 5 rfl ?_
      refine Ex_if_eq (tgt := 86) dX9_fitsOf_47 (by decide) ?_ ?_
      · refine Ex_iconst (v := 0) dX9_fitsOf_86 (by decide) ?_
        refine Ex_istore (L2 := [(4, .int 0), (6, .int x6_1), (0, .ref (a0 + q0)), (1, .int x1), (2, .int x2), (3, .int x3), (5, .int x5)]) dX9_fitsOf_87 (by decide) rfl ?_
        refine Ex_iinc (v := x5 + 1) (L2 := [(5, .int (x5 + 1)), (4, .int 0), (6, .int x6_1), (0, .ref (a0 + q0)), (1, .int x1), (2, .int x2), (3, .int x3)]) dX9_fitsOf_89 6 rfl rfl (by decide) rfl ?_
        refine Ex_goto (tgt := 16) dX9_fitsOf_92 (by decide) ?_
        refine Ex_perm [3, 4, 5, 6, 1, 0] rfl ?_
        exact ih 0 (x5 + 1)
      · refine Ex_aload_n dX9_fitsOf_50 rfl 1 rfl ?_
        refine Ex_get (v := .ref (a0 + (q0 + 17))) fgX9_60 hq0 (by decide) rfl dX9_fitsOf_51 ?_
        refine Ex_iload dX9_fitsOf_54 6 rfl ?_
        refine Ex_iald 6 (kn_9_17 hq0) (by decide) dX9_fitsOf_56 ?_
        refine Ex_iload_n dX9_fitsOf_57 rfl 2 rfl ?_
        refine Ex_icmp_ne (tgt := 82) dX9_fitsOf_58 (by decide) ?_ ?_
        · refine Ex_iconst (v := 1) dX9_fitsOf_82 (by decide) ?_
          refine Ex_goto (tgt := 87) dX9_fitsOf_83 (by decide) ?_
          refine Ex_istore (L2 := [(4, .int 1), (6, .int x6_1), (0, .ref (a0 + q0)), (1, .int x1), (2, .int x2), (3, .int x3), (5, .int x5)]) dX9_fitsOf_87 (by decide) rfl ?_
          refine Ex_iinc (v := x5 + 1) (L2 := [(5, .int (x5 + 1)), (4, .int 1), (6, .int x6_1), (0, .ref (a0 + q0)), (1, .int x1), (2, .int x2), (3, .int x3)]) dX9_fitsOf_89 6 rfl rfl (by decide) rfl ?_
          refine Ex_goto (tgt := 16) dX9_fitsOf_92 (by decide) ?_
          refine Ex_perm [3, 4, 5, 6, 1, 0] rfl ?_
          exact ih 1 (x5 + 1)
        · refine Ex_iload dX9_fitsOf_61 0 rfl ?_
          refine Ex_aload_n dX9_fitsOf_63 rfl 1 rfl ?_
          refine Ex_get (v := .ref (a0 + (q0 + 11))) fgX9_41 hq0 (by decide) rfl dX9_fitsOf_64 ?_
          refine Ex_iconst (v := 0) dX9_fitsOf_67 (by decide) ?_
          refine Ex_ialdC (j := 0) 2 (kn_9_11 hq0) (by decide) (by decide) (by decide) dX9_fitsOf_68 ?_
          refine Ex_ineg dX9_fitsOf_69 ?_
          refine Ex_aload_n dX9_fitsOf_70 rfl 1 rfl ?_
          refine Ex_get (v := .ref (a0 + (q0 + 11))) fgX9_41 hq0 (by decide) rfl dX9_fitsOf_71 ?_
          refine Ex_iconst (v := 0) dX9_fitsOf_74 (by decide) ?_
          refine Ex_ialdC (j := 0) 2 (kn_9_11 hq0) (by decide) (by decide) (by decide) dX9_fitsOf_75 ?_
          refine Ex_callSR (n := 3) (dp2 := 0) [.int x6_1, .int (-(gI μ (q0 + 11) 0)), .int (gI μ (q0 + 11) 0)] cvX9_72 rfl (by decide) (by decide) (Nat.le_of_ble_eq_true rfl) rfl (fun v hv => c_X9_in a0 F μ x6_1 (-(gI μ (q0 + 11) 0)) (gI μ (q0 + 11) 0) hv) dX9_fitsOf_76 (fun v_2 hv_4 => ?_)
          refine Ex_if_eq (tgt := 86) dX9_fitsOf_79 (by decide) ?_ ?_
          · refine Ex_iconst (v := 0) dX9_fitsOf_86 (by decide) ?_
            refine Ex_istore (L2 := [(4, .int 0), (6, .int x6_1), (0, .ref (a0 + q0)), (1, .int x1), (2, .int x2), (3, .int x3), (5, .int x5)]) dX9_fitsOf_87 (by decide) rfl ?_
            refine Ex_iinc (v := x5 + 1) (L2 := [(5, .int (x5 + 1)), (4, .int 0), (6, .int x6_1), (0, .ref (a0 + q0)), (1, .int x1), (2, .int x2), (3, .int x3)]) dX9_fitsOf_89 6 rfl rfl (by decide) rfl ?_
            refine Ex_goto (tgt := 16) dX9_fitsOf_92 (by decide) ?_
            refine Ex_perm [3, 4, 5, 6, 1, 0] rfl ?_
            exact ih 0 (x5 + 1)
          · refine Ex_iconst (v := 1) dX9_fitsOf_82 (by decide) ?_
            refine Ex_goto (tgt := 87) dX9_fitsOf_83 (by decide) ?_
            refine Ex_istore (L2 := [(4, .int 1), (6, .int x6_1), (0, .ref (a0 + q0)), (1, .int x1), (2, .int x2), (3, .int x3), (5, .int x5)]) dX9_fitsOf_87 (by decide) rfl ?_
            refine Ex_iinc (v := x5 + 1) (L2 := [(5, .int (x5 + 1)), (4, .int 1), (6, .int x6_1), (0, .ref (a0 + q0)), (1, .int x1), (2, .int x2), (3, .int x3)]) dX9_fitsOf_89 6 rfl rfl (by decide) rfl ?_
            refine Ex_goto (tgt := 16) dX9_fitsOf_92 (by decide) ?_
            refine Ex_perm [3, 4, 5, 6, 1, 0] rfl ?_
            exact ih 1 (x5 + 1)

def f_X9_fitsOf_L4 (F : Nat) (μ : Mem) (q0 : Nat) (x1 : Int32) (k : Int32 → Int32 → Option (Int32)) : Nat → Int32 → Int32 → Option (Int32)
  | 0, _, _ => none
  | n + 1, x2, x3 => (if 9 < x3 then k x2 x3 else f_X9_fitsOf_L16 F μ q0 x1 x2 x3 (fun x4_5 x5_6 => (if x4_5 = 0 then f_X9_fitsOf_L4 F μ q0 x1 k n (x2 ||| 0) (x3 + 1) else f_X9_fitsOf_L4 F μ q0 x1 k n (x2 ||| (1 <<< (x3 &&& 31))) (x3 + 1))) F 1 0)
set_option maxRecDepth 100000 in
set_option maxHeartbeats 4000000 in
theorem c_X9_fitsOf_L4 (a0 : Nat) (F : Nat) (μ : Mem) (q0 : Nat) (x1 : Int32) (k : Int32 → Int32 → Option (Int32)) (hq0 : kd q0 = 9) (hk : ∀ (x2 : Int32) (x3 : Int32), Ex a0 RX9 cX9_fitsOf 7 (some .int) 1 none (fun v => (some (.int v), μ)) 116 [(2, .int x2)] [] μ (k x2 x3)) : ∀ (n : Nat) (x2 : Int32) (x3 : Int32), Ex a0 RX9 cX9_fitsOf 7 (some .int) 1 none (fun v => (some (.int v), μ)) 4 [(0, .ref (a0 + q0)), (1, .int x1), (2, .int x2), (3, .int x3)] [] μ (f_X9_fitsOf_L4 F μ q0 x1 k n x2 x3) := by
  intro n
  induction n with
  | zero => intro x2 x3; exact Ex_none
  | succ n ih =>
    intro x2 x3
    rw [f_X9_fitsOf_L4]
    refine Ex_iload_n dX9_fitsOf_4 rfl 3 rfl ?_
    refine Ex_bipush (v := 9) dX9_fitsOf_5 (by decide) ?_
    refine Ex_icmp_gt (tgt := 116) dX9_fitsOf_7 (by decide) ?_ ?_
    · refine Ex_perm [2] rfl ?_
      exact hk x2 x3
    · refine Ex_iconst (v := 1) dX9_fitsOf_10 (by decide) ?_
      refine Ex_istore (L2 := [(4, .int 1), (0, .ref (a0 + q0)), (1, .int x1), (2, .int x2), (3, .int x3)]) dX9_fitsOf_11 (by decide) rfl ?_
      refine Ex_iconst (v := 0) dX9_fitsOf_13 (by decide) ?_
      refine Ex_istore (L2 := [(5, .int 0), (4, .int 1), (0, .ref (a0 + q0)), (1, .int x1), (2, .int x2), (3, .int x3)]) dX9_fitsOf_14 (by decide) rfl ?_
      refine Ex_perm [2, 3, 4, 5, 1, 0] rfl ?_
      refine c_X9_fitsOf_L16 a0 F μ q0 x1 x2 x3 _ hq0 (fun x4_5 x5_6 => ?_) F 1 0
      refine Ex_iload_n dX9_fitsOf_95 rfl 2 rfl ?_
      refine Ex_iload dX9_fitsOf_96 4 rfl ?_
      refine Ex_if_eq (tgt := 107) dX9_fitsOf_98 (by decide) ?_ ?_
      · refine Ex_iconst (v := 0) dX9_fitsOf_107 (by decide) ?_
        refine Ex_ior dX9_fitsOf_108 ?_
        refine Ex_istore_n (L2 := [(2, .int (x2 ||| 0)), (0, .ref (a0 + q0)), (1, .int x1), (3, .int x3), (4, .int x4_5)]) dX9_fitsOf_109 rfl (by decide) rfl ?_
        refine Ex_iinc (v := x3 + 1) (L2 := [(3, .int (x3 + 1)), (2, .int (x2 ||| 0)), (0, .ref (a0 + q0)), (1, .int x1), (4, .int x4_5)]) dX9_fitsOf_110 3 rfl rfl (by decide) rfl ?_
        refine Ex_goto (tgt := 4) dX9_fitsOf_113 (by decide) ?_
        refine Ex_perm [2, 3, 1, 0] rfl ?_
        exact ih (x2 ||| 0) (x3 + 1)
      · refine Ex_iconst (v := 1) dX9_fitsOf_101 (by decide) ?_
        refine Ex_iload_n dX9_fitsOf_102 rfl 3 rfl ?_
        refine Ex_ishl dX9_fitsOf_103 ?_
        refine Ex_goto (tgt := 108) dX9_fitsOf_104 (by decide) ?_
        refine Ex_ior dX9_fitsOf_108 ?_
        refine Ex_istore_n (L2 := [(2, .int (x2 ||| (1 <<< (x3 &&& 31)))), (0, .ref (a0 + q0)), (1, .int x1), (3, .int x3), (4, .int x4_5)]) dX9_fitsOf_109 rfl (by decide) rfl ?_
        refine Ex_iinc (v := x3 + 1) (L2 := [(3, .int (x3 + 1)), (2, .int (x2 ||| (1 <<< (x3 &&& 31)))), (0, .ref (a0 + q0)), (1, .int x1), (4, .int x4_5)]) dX9_fitsOf_110 3 rfl rfl (by decide) rfl ?_
        refine Ex_goto (tgt := 4) dX9_fitsOf_113 (by decide) ?_
        refine Ex_perm [2, 3, 1, 0] rfl ?_
        exact ih (x2 ||| (1 <<< (x3 &&& 31))) (x3 + 1)
def f_X9_fitsOf (F : Nat) (μ : Mem) (t : Nat) (p1 : Int32) : Option (Int32) := f_X9_fitsOf_L4 F μ t p1 (fun x2_7 x3_8 => some x2_7) F 0 0
set_option maxRecDepth 100000 in
set_option maxHeartbeats 4000000 in
theorem c_X9_fitsOf (a0 F : Nat) (μ : Mem) (t : Nat) (p1 : Int32) (hk0 : kd t = 9) {v : Int32} (hr : f_X9_fitsOf F μ t p1 = some v) : Ct a0 yX9_fitsOf cX9_fitsOf 7 (some .int) 1 [.ref (a0 + t), .int p1] μ (some (.int v)) μ := by
  refine Ct_of (own := RX9) (ι := (fun v => (some (.int v), μ))) (o := f_X9_fitsOf F μ t p1) (by decide +kernel) rfl (Nat.le_of_ble_eq_true rfl) ?_ hr rfl ⟨_, rfl⟩
  show Ex a0 RX9 cX9_fitsOf 7 (some .int) 1 none (fun v => (some (.int v), μ)) 0 [(0, .ref (a0 + t)), (1, .int p1)] [] μ (f_X9_fitsOf F μ t p1)
  unfold f_X9_fitsOf
  refine Ex_iconst (v := 0) dX9_fitsOf_0 (by decide) ?_
  refine Ex_istore_n (L2 := [(2, .int 0), (0, .ref (a0 + t)), (1, .int p1)]) dX9_fitsOf_1 rfl (by decide) rfl ?_
  refine Ex_iconst (v := 0) dX9_fitsOf_2 (by decide) ?_
  refine Ex_istore_n (L2 := [(3, .int 0), (2, .int 0), (0, .ref (a0 + t)), (1, .int p1)]) dX9_fitsOf_3 rfl (by decide) rfl ?_
  refine Ex_perm [2, 3, 1, 0] rfl ?_
  refine c_X9_fitsOf_L4 a0 F μ t p1 _ hk0 (fun x2_7 x3_8 => ?_) F 0 0
  refine Ex_iload_n dX9_fitsOf_116 rfl 0 rfl ?_
  exact Ex_iret dX9_fitsOf_117 rfl (fun ty h => by cases h; rfl)

def f_X9_fits (F : Nat) (μ : Mem) (t : Nat) (p1 : Int32) : Option (Int32) := (f_X9_isPerson F μ t p1).bind (fun v_1 => (if v_1 = 0 then some (-1) else (f_X9_fitsOf F μ t p1).bind (fun v_4 => some v_4)))
set_option maxRecDepth 100000 in
set_option maxHeartbeats 4000000 in
theorem c_X9_fits (a0 F : Nat) (μ : Mem) (t : Nat) (p1 : Int32) (hk0 : kd t = 9) {v : Int32} (hr : f_X9_fits F μ t p1 = some v) : Ct a0 yX9_fits cX9_fits 2 (some .int) 2 [.ref (a0 + t), .int p1] μ (some (.int v)) μ := by
  refine Ct_of (own := RX9) (ι := (fun v => (some (.int v), μ))) (o := f_X9_fits F μ t p1) (by decide +kernel) rfl (Nat.le_of_ble_eq_true rfl) ?_ hr rfl ⟨_, rfl⟩
  show Ex a0 RX9 cX9_fits 2 (some .int) 2 none (fun v => (some (.int v), μ)) 0 [(0, .ref (a0 + t)), (1, .int p1)] [] μ (f_X9_fits F μ t p1)
  unfold f_X9_fits
  refine Ex_aload_n dX9_fits_0 rfl 0 rfl ?_
  refine Ex_iload_n dX9_fits_1 rfl 1 rfl ?_
  refine Ex_callVR (n := 1) (dp2 := 1) [.int p1] cvX9_141 hk0 rfl rfl (by decide) (by decide) (Nat.le_of_ble_eq_true rfl) rfl (fun v hv => c_X9_isPerson a0 F μ t p1 hk0 hv) dX9_fits_2 (fun v_1 hv_3 => ?_)
  refine Ex_if_eq (tgt := 16) dX9_fits_5 (by decide) ?_ ?_
  · refine Ex_iconst (v := (-1)) dX9_fits_16 (by decide) ?_
    exact Ex_iret dX9_fits_17 rfl (fun ty h => by cases h; rfl)
  · refine Ex_aload_n dX9_fits_8 rfl 0 rfl ?_
    refine Ex_iload_n dX9_fits_9 rfl 1 rfl ?_
    refine Ex_callVR (n := 1) (dp2 := 1) [.int p1] cvX9_160 hk0 rfl rfl (by decide) (by decide) (Nat.le_of_ble_eq_true rfl) rfl (fun v hv => c_X9_fitsOf a0 F μ t p1 hk0 hv) dX9_fits_10 (fun v_4 hv_6 => ?_)
    refine Ex_goto (tgt := 17) dX9_fits_13 (by decide) ?_
    exact Ex_iret dX9_fits_17 rfl (fun ty h => by cases h; rfl)

def f_X9_forget (F : Nat) (μ : Mem) (t : Nat) : Option (Int32 × Mem) := lt (sI μ t 26 0) (fun μ_1 => some (gI μ t 26, μ_1))
set_option maxRecDepth 100000 in
set_option maxHeartbeats 4000000 in
theorem c_X9_forget (a0 F : Nat) (μ : Mem) (t : Nat) (hk0 : kd t = 9) {v : Int32} {μ2 : Mem} (hr : f_X9_forget F μ t = some (v, μ2)) : Ct a0 yX9_forget cX9_forget 2 (some .int) 0 [.ref (a0 + t)] μ (some (.int v)) μ2 := by
  refine Ct_of (own := RX9) (ι := (fun x => (some (.int x.1), x.2))) (o := f_X9_forget F μ t) (by decide +kernel) rfl (Nat.le_of_ble_eq_true rfl) ?_ hr rfl ⟨_, rfl⟩
  show Ex a0 RX9 cX9_forget 2 (some .int) 0 none (fun x => (some (.int x.1), x.2)) 0 [(0, .ref (a0 + t))] [] μ (f_X9_forget F μ t)
  unfold f_X9_forget
  refine Ex_aload_n dX9_forget_0 rfl 0 rfl ?_
  refine Ex_get (v := .int (gI μ t 26)) fgX9_113 hk0 (by decide) rfl dX9_forget_1 ?_
  refine Ex_istore_n (L2 := [(1, .int (gI μ t 26)), (0, .ref (a0 + t))]) dX9_forget_4 rfl (by decide) rfl ?_
  refine Ex_aload_n dX9_forget_5 rfl 1 rfl ?_
  refine Ex_iconst (v := 0) dX9_forget_6 (by decide) ?_
  refine Ex_putI fgX9_113 fp9_26 hk0 (by decide) rfl rfl (Nat.le_of_ble_eq_true rfl) (fs9_26 a0 μ t 0) dX9_forget_7 (fun μ_1 => ?_)
  refine Ex_iload_n dX9_forget_10 rfl 0 rfl ?_
  exact Ex_iret dX9_forget_11 rfl (fun ty h => by cases h; rfl)

def f_X9_gate (F : Nat) (μ : Mem) (t : Nat) (p1 : Int32) (p2 : Int32) : Option (Int32 × Mem) := (f_X9_isPerson F μ t p1).bind (fun v_1 => (if v_1 = 0 then some ((-1), μ) else (f_X9_in F μ p2 0 40).bind (fun v_4 => (if v_4 = 0 then some ((-1), μ) else (if (gI μ t 26) = 6 then some ((-3), μ) else if ix (gI μ t 26) 6 = true then lt (sI μ (t + 17) ((gI μ t 26).toNatClampNeg) p1) (fun μ_7 => if ix (gI μ_7 t 26) 6 = true then lt (sI μ_7 (t + 18) ((gI μ_7 t 26).toNatClampNeg) p2) (fun μ_8 => lt (sI μ_8 t 26 ((gI μ_8 t 26) + 1)) (fun μ_9 => some (gI μ_9 t 26, μ_9))) else none) else none)))))
set_option maxRecDepth 100000 in
set_option maxHeartbeats 4000000 in
theorem c_X9_gate (a0 F : Nat) (μ : Mem) (t : Nat) (p1 : Int32) (p2 : Int32) (hk0 : kd t = 9) {v : Int32} {μ2 : Mem} (hr : f_X9_gate F μ t p1 p2 = some (v, μ2)) : Ct a0 yX9_gate cX9_gate 3 (some .int) 2 [.ref (a0 + t), .int p1, .int p2] μ (some (.int v)) μ2 := by
  refine Ct_of (own := RX9) (ι := (fun x => (some (.int x.1), x.2))) (o := f_X9_gate F μ t p1 p2) (by decide +kernel) rfl (Nat.le_of_ble_eq_true rfl) ?_ hr rfl ⟨_, rfl⟩
  show Ex a0 RX9 cX9_gate 3 (some .int) 2 none (fun x => (some (.int x.1), x.2)) 0 [(0, .ref (a0 + t)), (1, .int p1), (2, .int p2)] [] μ (f_X9_gate F μ t p1 p2)
  unfold f_X9_gate
  refine Ex_aload_n dX9_gate_0 rfl 0 rfl ?_
  refine Ex_iload_n dX9_gate_1 rfl 1 rfl ?_
  refine Ex_callVR (n := 1) (dp2 := 1) [.int p1] cvX9_141 hk0 rfl rfl (by decide) (by decide) (Nat.le_of_ble_eq_true rfl) rfl (fun v hv => c_X9_isPerson a0 F μ t p1 hk0 hv) dX9_gate_2 (fun v_1 hv_3 => ?_)
  refine Ex_if_eq (tgt := 18) dX9_gate_5 (by decide) ?_ ?_
  · refine Ex_iconst (v := (-1)) dX9_gate_18 (by decide) ?_
    exact Ex_iret dX9_gate_19 rfl (fun ty h => by cases h; rfl)
  · refine Ex_iload_n dX9_gate_8 rfl 2 rfl ?_
    refine Ex_iconst (v := 0) dX9_gate_9 (by decide) ?_
    refine Ex_bipush (v := 40) dX9_gate_10 (by decide) ?_
    refine Ex_callSR (n := 3) (dp2 := 0) [.int p2, .int 0, .int 40] cvX9_72 rfl (by decide) (by decide) (Nat.le_of_ble_eq_true rfl) rfl (fun v hv => c_X9_in a0 F μ p2 0 40 hv) dX9_gate_12 (fun v_4 hv_6 => ?_)
    refine Ex_if_ne (tgt := 20) dX9_gate_15 (by decide) ?_ ?_
    · refine Ex_aload_n dX9_gate_20 rfl 0 rfl ?_
      refine Ex_get (v := .int (gI μ t 26)) fgX9_113 hk0 (by decide) rfl dX9_gate_21 ?_
      refine Ex_bipush (v := 6) dX9_gate_24 (by decide) ?_
      refine Ex_icmp_ne (tgt := 32) dX9_gate_26 (by decide) ?_ ?_
      · refine Ex_aload_n dX9_gate_32 rfl 0 rfl ?_
        refine Ex_get (v := .ref (a0 + (t + 17))) fgX9_60 hk0 (by decide) rfl dX9_gate_33 ?_
        refine Ex_aload_n dX9_gate_36 rfl 0 rfl ?_
        refine Ex_get (v := .int (gI μ t 26)) fgX9_113 hk0 (by decide) rfl dX9_gate_37 ?_
        refine Ex_iload_n dX9_gate_40 rfl 1 rfl ?_
        refine Ex_iast 6 (kn_9_17 hk0) (by decide) dX9_gate_41 (fun μ_7 => ?_)
        refine Ex_aload_n dX9_gate_42 rfl 0 rfl ?_
        refine Ex_get (v := .ref (a0 + (t + 18))) fgX9_63 hk0 (by decide) rfl dX9_gate_43 ?_
        refine Ex_aload_n dX9_gate_46 rfl 0 rfl ?_
        refine Ex_get (v := .int (gI μ_7 t 26)) fgX9_113 hk0 (by decide) rfl dX9_gate_47 ?_
        refine Ex_iload_n dX9_gate_50 rfl 2 rfl ?_
        refine Ex_iast 6 (kn_9_18 hk0) (by decide) dX9_gate_51 (fun μ_8 => ?_)
        refine Ex_aload_n dX9_gate_52 rfl 0 rfl ?_
        refine Ex_dup dX9_gate_53 rfl ?_
        refine Ex_get (v := .int (gI μ_8 t 26)) fgX9_113 hk0 (by decide) rfl dX9_gate_54 ?_
        refine Ex_iconst (v := 1) dX9_gate_57 (by decide) ?_
        refine Ex_iadd dX9_gate_58 ?_
        refine Ex_putI fgX9_113 fp9_26 hk0 (by decide) rfl rfl (Nat.le_of_ble_eq_true rfl) (fs9_26 a0 μ_8 t ((gI μ_8 t 26) + 1)) dX9_gate_59 (fun μ_9 => ?_)
        refine Ex_aload_n dX9_gate_62 rfl 0 rfl ?_
        refine Ex_get (v := .int (gI μ_9 t 26)) fgX9_113 hk0 (by decide) rfl dX9_gate_63 ?_
        exact Ex_iret dX9_gate_66 rfl (fun ty h => by cases h; rfl)
      · refine Ex_bipush (v := (-3)) dX9_gate_29 (by decide) ?_
        exact Ex_iret dX9_gate_31 rfl (fun ty h => by cases h; rfl)
    · refine Ex_iconst (v := (-1)) dX9_gate_18 (by decide) ?_
      exact Ex_iret dX9_gate_19 rfl (fun ty h => by cases h; rfl)

def f_X9_isLane (F : Nat) (μ : Mem) (t : Nat) (p1 : Int32) : Option (Int32) := (f_X9_in F μ p1 0 ((gI μ (t + 3) 0) - 1)).bind (fun v_1 => some v_1)
set_option maxRecDepth 100000 in
set_option maxHeartbeats 4000000 in
theorem c_X9_isLane (a0 F : Nat) (μ : Mem) (t : Nat) (p1 : Int32) (hk0 : kd t = 9) {v : Int32} (hr : f_X9_isLane F μ t p1 = some v) : Ct a0 yX9_isLane cX9_isLane 2 (some .boolean) 1 [.ref (a0 + t), .int p1] μ (some (.int v)) μ := by
  refine Ct_of (own := RX9) (ι := (fun v => (some (.int v), μ))) (o := f_X9_isLane F μ t p1) (by decide +kernel) rfl (Nat.le_of_ble_eq_true rfl) ?_ hr rfl ⟨_, rfl⟩
  show Ex a0 RX9 cX9_isLane 2 (some .boolean) 1 none (fun v => (some (.int v), μ)) 0 [(0, .ref (a0 + t)), (1, .int p1)] [] μ (f_X9_isLane F μ t p1)
  unfold f_X9_isLane
  refine Ex_iload_n dX9_isLane_0 rfl 1 rfl ?_
  refine Ex_iconst (v := 0) dX9_isLane_1 (by decide) ?_
  refine Ex_aload_n dX9_isLane_2 rfl 0 rfl ?_
  refine Ex_get (v := .ref (a0 + (t + 3))) fgX9_17 hk0 (by decide) rfl dX9_isLane_3 ?_
  refine Ex_iconst (v := 0) dX9_isLane_6 (by decide) ?_
  refine Ex_ialdC (j := 0) 2 (kn_9_3 hk0) (by decide) (by decide) (by decide) dX9_isLane_7 ?_
  refine Ex_iconst (v := 1) dX9_isLane_8 (by decide) ?_
  refine Ex_isub dX9_isLane_9 ?_
  refine Ex_callSR (n := 3) (dp2 := 0) [.int p1, .int 0, .int ((gI μ (t + 3) 0) - 1)] cvX9_72 rfl (by decide) (by decide) (Nat.le_of_ble_eq_true rfl) rfl (fun v hv => c_X9_in a0 F μ p1 0 ((gI μ (t + 3) 0) - 1) hv) dX9_isLane_10 (fun v_1 hv_3 => ?_)
  exact Ex_iret dX9_isLane_13 rfl (fun ty h => by cases h; exact (by rcases b_X9_in hv_3 with h | h <;> rw [h] <;> rfl))
