def f_X3_begin_L2 (F : Nat) (q0 : Nat) (q1 : Nat) (k : Int32 → Mem → Option (Mem)) : Nat → Int32 → Mem → Option (Mem)
  | 0, _, _ => none
  | n + 1, x2, μ => (if x2 < 5 then if ix x2 5 = true then if ix x2 5 = true then lt (sI μ (q0 + 1) x2.toNatClampNeg (gI μ (q1 + 4) x2.toNatClampNeg)) (fun μ_1 => if ix x2 5 = true then if ix x2 5 = true then lt (sI μ_1 (q0 + 2) x2.toNatClampNeg (gI μ_1 (q1 + 5) x2.toNatClampNeg)) (fun μ_2 => if ix x2 5 = true then lt (sI μ_2 (q0 + 3) x2.toNatClampNeg 0) (fun μ_3 => f_X3_begin_L2 F q0 q1 k n (x2 + 1) μ_3) else none) else none else none) else none else none else k x2 μ)
set_option maxRecDepth 100000 in
set_option maxHeartbeats 4000000 in
theorem c_X3_begin_L2 (a0 : Nat) (F : Nat) (q0 : Nat) (q1 : Nat) (k : Int32 → Mem → Option (Mem)) (hq0 : kd q0 = 3) (hq1 : kd q1 = 7) (hk : ∀ (x2 : Int32) (μ : Mem), Ex a0 RX3 cX3_begin 3 none 0 none (fun m => (none, m)) 44 [(0, .ref (a0 + q0))] [] μ (k x2 μ)) : ∀ (n : Nat) (x2 : Int32) (μ : Mem), Ex a0 RX3 cX3_begin 3 none 0 none (fun m => (none, m)) 2 [(0, .ref (a0 + q0)), (1, .ref (a0 + q1)), (2, .int x2)] [] μ (f_X3_begin_L2 F q0 q1 k n x2 μ) := by
  intro n
  induction n with
  | zero => intro x2 μ; exact Ex_none
  | succ n ih =>
    intro x2 μ
    rw [f_X3_begin_L2]
    refine Ex_iload_n dX3_begin_2 rfl 2 rfl ?_
    refine Ex_iconst (v := 5) dX3_begin_3 (by decide) ?_
    refine Ex_icmp_ge (tgt := 44) dX3_begin_4 (by decide) ?_ ?_
    · refine Ex_perm [0] rfl ?_
      exact hk x2 μ
    · refine Ex_aload_n dX3_begin_7 rfl 0 rfl ?_
      refine Ex_get (v := .ref (a0 + (q0 + 1))) fgX3_9 hq0 (by decide) rfl dX3_begin_8 ?_
      refine Ex_iload_n dX3_begin_11 rfl 2 rfl ?_
      refine Ex_aload_n dX3_begin_12 rfl 1 rfl ?_
      refine Ex_get (v := .ref (a0 + (q1 + 4))) fgX3_25 hq1 (by decide) rfl dX3_begin_13 ?_
      refine Ex_iload_n dX3_begin_16 rfl 2 rfl ?_
      refine Ex_iald 5 (kn_7_4 hq1) (by decide) dX3_begin_17 ?_
      refine Ex_iast 5 (kn_3_1 hq0) (by decide) dX3_begin_18 (fun μ_1 => ?_)
      refine Ex_aload_n dX3_begin_19 rfl 0 rfl ?_
      refine Ex_get (v := .ref (a0 + (q0 + 2))) fgX3_15 hq0 (by decide) rfl dX3_begin_20 ?_
      refine Ex_iload_n dX3_begin_23 rfl 2 rfl ?_
      refine Ex_aload_n dX3_begin_24 rfl 1 rfl ?_
      refine Ex_get (v := .ref (a0 + (q1 + 5))) fgX3_28 hq1 (by decide) rfl dX3_begin_25 ?_
      refine Ex_iload_n dX3_begin_28 rfl 2 rfl ?_
      refine Ex_iald 5 (kn_7_5 hq1) (by decide) dX3_begin_29 ?_
      refine Ex_iast 5 (kn_3_2 hq0) (by decide) dX3_begin_30 (fun μ_2 => ?_)
      refine Ex_aload_n dX3_begin_31 rfl 0 rfl ?_
      refine Ex_get (v := .ref (a0 + (q0 + 3))) fgX3_18 hq0 (by decide) rfl dX3_begin_32 ?_
      refine Ex_iload_n dX3_begin_35 rfl 2 rfl ?_
      refine Ex_iconst (v := 0) dX3_begin_36 (by decide) ?_
      refine Ex_iast 5 (kn_3_3 hq0) (by decide) dX3_begin_37 (fun μ_3 => ?_)
      refine Ex_iinc (v := x2 + 1) (L2 := [(2, .int (x2 + 1)), (0, .ref (a0 + q0)), (1, .ref (a0 + q1))]) dX3_begin_38 2 rfl rfl (by decide) rfl ?_
      refine Ex_goto (tgt := 2) dX3_begin_41 (by decide) ?_
      refine Ex_perm [1, 2, 0] rfl ?_
      exact ih (x2 + 1) μ_3
def f_X3_begin (F : Nat) (μ : Mem) (t : Nat) (p1 : Nat) : Option (Mem) := f_X3_begin_L2 F t p1 (fun x2_4 μ_5 => lt (sI μ_5 t 3 0) (fun μ_6 => some μ_6)) F 0 μ
set_option maxRecDepth 100000 in
set_option maxHeartbeats 4000000 in
theorem c_X3_begin (a0 F : Nat) (μ : Mem) (t : Nat) (p1 : Nat) (hk0 : kd t = 3) (hk1 : kd p1 = 7) {μ2 : Mem} (hr : f_X3_begin F μ t p1 = some μ2) : Ct a0 yX3_begin cX3_begin 3 none 0 [.ref (a0 + t), .ref (a0 + p1)] μ none μ2 := by
  refine Ct_of (own := RX3) (ι := (fun m => (none, m))) (o := f_X3_begin F μ t p1) (by decide +kernel) rfl (Nat.le_of_ble_eq_true rfl) ?_ hr rfl rfl
  show Ex a0 RX3 cX3_begin 3 none 0 none (fun m => (none, m)) 0 [(0, .ref (a0 + t)), (1, .ref (a0 + p1))] [] μ (f_X3_begin F μ t p1)
  unfold f_X3_begin
  refine Ex_iconst (v := 0) dX3_begin_0 (by decide) ?_
  refine Ex_istore_n (L2 := [(2, .int 0), (0, .ref (a0 + t)), (1, .ref (a0 + p1))]) dX3_begin_1 rfl (by decide) rfl ?_
  refine Ex_perm [1, 2, 0] rfl ?_
  refine c_X3_begin_L2 a0 F t p1 _ hk0 hk1 (fun x2_4 μ_5 => ?_) F 0 μ
  refine Ex_aload_n dX3_begin_44 rfl 0 rfl ?_
  refine Ex_iconst (v := 0) dX3_begin_45 (by decide) ?_
  refine Ex_putI fgX3_21 fp3_3 hk0 (by decide) rfl rfl (Nat.le_of_ble_eq_true rfl) (fs3_3 a0 μ_5 t 0) dX3_begin_46 (fun μ_6 => ?_)
  exact Ex_vret dX3_begin_49 rfl

def f_X0_begin (F : Nat) (μ : Mem) (t : Nat) (p1 : Nat) : Option (Mem) := (f_X3_begin F μ (t + 1) p1).bind (fun μ_2 => lt (sI μ_2 t 2 0) (fun μ_4 => some μ_4))
set_option maxRecDepth 100000 in
set_option maxHeartbeats 4000000 in
theorem c_X0_begin (a0 F : Nat) (μ : Mem) (t : Nat) (p1 : Nat) (hk0 : kd t = 0) (hk1 : kd p1 = 7) {μ2 : Mem} (hr : f_X0_begin F μ t p1 = some μ2) : Ct a0 yX0_begin cX0_begin 2 none 1 [.ref (a0 + t), .ref (a0 + p1)] μ none μ2 := by
  refine Ct_of (own := RX0) (ι := (fun m => (none, m))) (o := f_X0_begin F μ t p1) (by decide +kernel) rfl (Nat.le_of_ble_eq_true rfl) ?_ hr rfl rfl
  show Ex a0 RX0 cX0_begin 2 none 1 none (fun m => (none, m)) 0 [(0, .ref (a0 + t)), (1, .ref (a0 + p1))] [] μ (f_X0_begin F μ t p1)
  unfold f_X0_begin
  refine Ex_aload_n dX0_begin_0 rfl 0 rfl ?_
  refine Ex_get (v := .ref (a0 + (t + 1))) fgX0_12 hk0 (by decide) rfl dX0_begin_1 ?_
  refine Ex_aload_n dX0_begin_4 rfl 1 rfl ?_
  refine Ex_callVV (n := 1) (dp2 := 0) [.ref (a0 + p1)] cvX0_26 (kn_0_1 hk0) rfl rfl (by decide) (by decide) (Nat.le_of_ble_eq_true rfl) rfl (fun μ2 hv => c_X3_begin a0 F μ (t + 1) p1 (kn_0_1 hk0) hk1 hv) dX0_begin_5 (fun μ_2 hv_3 => ?_)
  refine Ex_aload_n dX0_begin_8 rfl 0 rfl ?_
  refine Ex_iconst (v := 0) dX0_begin_9 (by decide) ?_
  refine Ex_putI fgX0_22 fp0_2 hk0 (by decide) rfl rfl (Nat.le_of_ble_eq_true rfl) (fs0_2 a0 μ_2 t 0) dX0_begin_10 (fun μ_4 => ?_)
  exact Ex_vret dX0_begin_13 rfl

def f_X3_copy_L2 (F : Nat) (q0 : Nat) (q1 : Nat) (k : Int32 → Mem → Option (Mem)) : Nat → Int32 → Mem → Option (Mem)
  | 0, _, _ => none
  | n + 1, x2, μ => (if x2 < 5 then if ix x2 5 = true then if ix x2 5 = true then lt (sI μ (q0 + 1) x2.toNatClampNeg (gI μ (q1 + 1) x2.toNatClampNeg)) (fun μ_1 => if ix x2 5 = true then if ix x2 5 = true then lt (sI μ_1 (q0 + 2) x2.toNatClampNeg (gI μ_1 (q1 + 2) x2.toNatClampNeg)) (fun μ_2 => if ix x2 5 = true then if ix x2 5 = true then lt (sI μ_2 (q0 + 3) x2.toNatClampNeg (gI μ_2 (q1 + 3) x2.toNatClampNeg)) (fun μ_3 => f_X3_copy_L2 F q0 q1 k n (x2 + 1) μ_3) else none else none) else none else none) else none else none else k x2 μ)
set_option maxRecDepth 100000 in
set_option maxHeartbeats 4000000 in
theorem c_X3_copy_L2 (a0 : Nat) (F : Nat) (q0 : Nat) (q1 : Nat) (k : Int32 → Mem → Option (Mem)) (hq0 : kd q0 = 3) (hq1 : kd q1 = 3) (hk : ∀ (x2 : Int32) (μ : Mem), Ex a0 RX3 cX3_copy 3 none 0 none (fun m => (none, m)) 49 [(0, .ref (a0 + q0)), (1, .ref (a0 + q1))] [] μ (k x2 μ)) : ∀ (n : Nat) (x2 : Int32) (μ : Mem), Ex a0 RX3 cX3_copy 3 none 0 none (fun m => (none, m)) 2 [(0, .ref (a0 + q0)), (1, .ref (a0 + q1)), (2, .int x2)] [] μ (f_X3_copy_L2 F q0 q1 k n x2 μ) := by
  intro n
  induction n with
  | zero => intro x2 μ; exact Ex_none
  | succ n ih =>
    intro x2 μ
    rw [f_X3_copy_L2]
    refine Ex_iload_n dX3_copy_2 rfl 2 rfl ?_
    refine Ex_iconst (v := 5) dX3_copy_3 (by decide) ?_
    refine Ex_icmp_ge (tgt := 49) dX3_copy_4 (by decide) ?_ ?_
    · refine Ex_perm [0, 1] rfl ?_
      exact hk x2 μ
    · refine Ex_aload_n dX3_copy_7 rfl 0 rfl ?_
      refine Ex_get (v := .ref (a0 + (q0 + 1))) fgX3_9 hq0 (by decide) rfl dX3_copy_8 ?_
      refine Ex_iload_n dX3_copy_11 rfl 2 rfl ?_
      refine Ex_aload_n dX3_copy_12 rfl 1 rfl ?_
      refine Ex_get (v := .ref (a0 + (q1 + 1))) fgX3_9 hq1 (by decide) rfl dX3_copy_13 ?_
      refine Ex_iload_n dX3_copy_16 rfl 2 rfl ?_
      refine Ex_iald 5 (kn_3_1 hq1) (by decide) dX3_copy_17 ?_
      refine Ex_iast 5 (kn_3_1 hq0) (by decide) dX3_copy_18 (fun μ_1 => ?_)
      refine Ex_aload_n dX3_copy_19 rfl 0 rfl ?_
      refine Ex_get (v := .ref (a0 + (q0 + 2))) fgX3_15 hq0 (by decide) rfl dX3_copy_20 ?_
      refine Ex_iload_n dX3_copy_23 rfl 2 rfl ?_
      refine Ex_aload_n dX3_copy_24 rfl 1 rfl ?_
      refine Ex_get (v := .ref (a0 + (q1 + 2))) fgX3_15 hq1 (by decide) rfl dX3_copy_25 ?_
      refine Ex_iload_n dX3_copy_28 rfl 2 rfl ?_
      refine Ex_iald 5 (kn_3_2 hq1) (by decide) dX3_copy_29 ?_
      refine Ex_iast 5 (kn_3_2 hq0) (by decide) dX3_copy_30 (fun μ_2 => ?_)
      refine Ex_aload_n dX3_copy_31 rfl 0 rfl ?_
      refine Ex_get (v := .ref (a0 + (q0 + 3))) fgX3_18 hq0 (by decide) rfl dX3_copy_32 ?_
      refine Ex_iload_n dX3_copy_35 rfl 2 rfl ?_
      refine Ex_aload_n dX3_copy_36 rfl 1 rfl ?_
      refine Ex_get (v := .ref (a0 + (q1 + 3))) fgX3_18 hq1 (by decide) rfl dX3_copy_37 ?_
      refine Ex_iload_n dX3_copy_40 rfl 2 rfl ?_
      refine Ex_iald 5 (kn_3_3 hq1) (by decide) dX3_copy_41 ?_
      refine Ex_iast 5 (kn_3_3 hq0) (by decide) dX3_copy_42 (fun μ_3 => ?_)
      refine Ex_iinc (v := x2 + 1) (L2 := [(2, .int (x2 + 1)), (0, .ref (a0 + q0)), (1, .ref (a0 + q1))]) dX3_copy_43 2 rfl rfl (by decide) rfl ?_
      refine Ex_goto (tgt := 2) dX3_copy_46 (by decide) ?_
      refine Ex_perm [1, 2, 0] rfl ?_
      exact ih (x2 + 1) μ_3
def f_X3_copy (F : Nat) (μ : Mem) (t : Nat) (p1 : Nat) : Option (Mem) := f_X3_copy_L2 F t p1 (fun x2_4 μ_5 => lt (sI μ_5 t 3 (gI μ_5 p1 3)) (fun μ_6 => some μ_6)) F 0 μ
set_option maxRecDepth 100000 in
set_option maxHeartbeats 4000000 in
theorem c_X3_copy (a0 F : Nat) (μ : Mem) (t : Nat) (p1 : Nat) (hk0 : kd t = 3) (hk1 : kd p1 = 3) {μ2 : Mem} (hr : f_X3_copy F μ t p1 = some μ2) : Ct a0 yX3_copy cX3_copy 3 none 0 [.ref (a0 + t), .ref (a0 + p1)] μ none μ2 := by
  refine Ct_of (own := RX3) (ι := (fun m => (none, m))) (o := f_X3_copy F μ t p1) (by decide +kernel) rfl (Nat.le_of_ble_eq_true rfl) ?_ hr rfl rfl
  show Ex a0 RX3 cX3_copy 3 none 0 none (fun m => (none, m)) 0 [(0, .ref (a0 + t)), (1, .ref (a0 + p1))] [] μ (f_X3_copy F μ t p1)
  unfold f_X3_copy
  refine Ex_iconst (v := 0) dX3_copy_0 (by decide) ?_
  refine Ex_istore_n (L2 := [(2, .int 0), (0, .ref (a0 + t)), (1, .ref (a0 + p1))]) dX3_copy_1 rfl (by decide) rfl ?_
  refine Ex_perm [1, 2, 0] rfl ?_
  refine c_X3_copy_L2 a0 F t p1 _ hk0 hk1 (fun x2_4 μ_5 => ?_) F 0 μ
  refine Ex_aload_n dX3_copy_49 rfl 0 rfl ?_
  refine Ex_aload_n dX3_copy_50 rfl 1 rfl ?_
  refine Ex_get (v := .int (gI μ_5 p1 3)) fgX3_21 hk1 (by decide) rfl dX3_copy_51 ?_
  refine Ex_putI fgX3_21 fp3_3 hk0 (by decide) rfl rfl (Nat.le_of_ble_eq_true rfl) (fs3_3 a0 μ_5 t (gI μ_5 p1 3)) dX3_copy_54 (fun μ_6 => ?_)
  exact Ex_vret dX3_copy_57 rfl

def f_X0_copy_L13 (F : Nat) (q0 : Nat) (q1 : Nat) (k : Int32 → Mem → Option (Mem)) : Nat → Int32 → Mem → Option (Mem)
  | 0, _, _ => none
  | n + 1, x2, μ => (if x2 < (gI μ q1 2) then if ix x2 10 = true then if ix x2 10 = true then (f_X3_copy F μ (gR μ (q0 + 5) x2.toNatClampNeg) (gR μ (q1 + 5) x2.toNatClampNeg)).bind (fun μ_7 => f_X0_copy_L13 F q0 q1 k n (x2 + 1) μ_7) else none else none else k x2 μ)
set_option maxRecDepth 100000 in
set_option maxHeartbeats 4000000 in
theorem c_X0_copy_L13 (a0 : Nat) (F : Nat) (q0 : Nat) (q1 : Nat) (k : Int32 → Mem → Option (Mem)) (hq0 : kd q0 = 0) (hq1 : kd q1 = 0) (hk : ∀ (x2 : Int32) (μ : Mem), Ex a0 RX0 cX0_copy 3 none 1 none (fun m => (none, m)) 42 [(0, .ref (a0 + q0)), (1, .ref (a0 + q1))] [] μ (k x2 μ)) : ∀ (n : Nat) (x2 : Int32) (μ : Mem), Ex a0 RX0 cX0_copy 3 none 1 none (fun m => (none, m)) 13 [(0, .ref (a0 + q0)), (1, .ref (a0 + q1)), (2, .int x2)] [] μ (f_X0_copy_L13 F q0 q1 k n x2 μ) := by
  intro n
  induction n with
  | zero => intro x2 μ; exact Ex_none
  | succ n ih =>
    intro x2 μ
    rw [f_X0_copy_L13]
    refine Ex_iload_n dX0_copy_13 rfl 2 rfl ?_
    refine Ex_aload_n dX0_copy_14 rfl 1 rfl ?_
    refine Ex_get (v := .int (gI μ q1 2)) fgX0_22 hq1 (by decide) rfl dX0_copy_15 ?_
    refine Ex_icmp_ge (tgt := 42) dX0_copy_18 (by decide) ?_ ?_
    · refine Ex_perm [0, 1] rfl ?_
      exact hk x2 μ
    · refine Ex_aload_n dX0_copy_21 rfl 0 rfl ?_
      refine Ex_get (v := .ref (a0 + (q0 + 5))) fgX0_18 hq0 (by decide) rfl dX0_copy_22 ?_
      refine Ex_iload_n dX0_copy_25 rfl 2 rfl ?_
      refine Ex_mald 10 (kn_0_5 hq0) (by decide) (by decide) dX0_copy_26 (fun hm_4 => ?_)
      refine Ex_aload_n dX0_copy_27 rfl 1 rfl ?_
      refine Ex_get (v := .ref (a0 + (q1 + 5))) fgX0_18 hq1 (by decide) rfl dX0_copy_28 ?_
      refine Ex_iload_n dX0_copy_31 rfl 2 rfl ?_
      refine Ex_mald 10 (kn_0_5 hq1) (by decide) (by decide) dX0_copy_32 (fun hm_5 => ?_)
      refine Ex_callVV (n := 1) (dp2 := 0) [.ref (a0 + (gR μ (q1 + 5) x2.toNatClampNeg))] cvX0_33 hm_4 rfl rfl (by decide) (by decide) (Nat.le_of_ble_eq_true rfl) rfl (fun μ2 hv => c_X3_copy a0 F μ (gR μ (q0 + 5) x2.toNatClampNeg) (gR μ (q1 + 5) x2.toNatClampNeg) hm_4 hm_5 hv) dX0_copy_33 (fun μ_7 hv_8 => ?_)
      refine Ex_iinc (v := x2 + 1) (L2 := [(2, .int (x2 + 1)), (0, .ref (a0 + q0)), (1, .ref (a0 + q1))]) dX0_copy_36 2 rfl rfl (by decide) rfl ?_
      refine Ex_goto (tgt := 13) dX0_copy_39 (by decide) ?_
      refine Ex_perm [1, 2, 0] rfl ?_
      exact ih (x2 + 1) μ_7
def f_X0_copy (F : Nat) (μ : Mem) (t : Nat) (p1 : Nat) : Option (Mem) := (f_X3_copy F μ (t + 1) (p1 + 1)).bind (fun μ_2 => f_X0_copy_L13 F t p1 (fun x2_9 μ_10 => lt (sI μ_10 t 2 (gI μ_10 p1 2)) (fun μ_11 => some μ_11)) F 0 μ_2)
set_option maxRecDepth 100000 in
set_option maxHeartbeats 4000000 in
theorem c_X0_copy (a0 F : Nat) (μ : Mem) (t : Nat) (p1 : Nat) (hk0 : kd t = 0) (hk1 : kd p1 = 0) {μ2 : Mem} (hr : f_X0_copy F μ t p1 = some μ2) : Ct a0 yX0_copy cX0_copy 3 none 1 [.ref (a0 + t), .ref (a0 + p1)] μ none μ2 := by
  refine Ct_of (own := RX0) (ι := (fun m => (none, m))) (o := f_X0_copy F μ t p1) (by decide +kernel) rfl (Nat.le_of_ble_eq_true rfl) ?_ hr rfl rfl
  show Ex a0 RX0 cX0_copy 3 none 1 none (fun m => (none, m)) 0 [(0, .ref (a0 + t)), (1, .ref (a0 + p1))] [] μ (f_X0_copy F μ t p1)
  unfold f_X0_copy
  refine Ex_aload_n dX0_copy_0 rfl 0 rfl ?_
  refine Ex_get (v := .ref (a0 + (t + 1))) fgX0_12 hk0 (by decide) rfl dX0_copy_1 ?_
  refine Ex_aload_n dX0_copy_4 rfl 1 rfl ?_
  refine Ex_get (v := .ref (a0 + (p1 + 1))) fgX0_12 hk1 (by decide) rfl dX0_copy_5 ?_
  refine Ex_callVV (n := 1) (dp2 := 0) [.ref (a0 + (p1 + 1))] cvX0_33 (kn_0_1 hk0) rfl rfl (by decide) (by decide) (Nat.le_of_ble_eq_true rfl) rfl (fun μ2 hv => c_X3_copy a0 F μ (t + 1) (p1 + 1) (kn_0_1 hk0) (kn_0_1 hk1) hv) dX0_copy_8 (fun μ_2 hv_3 => ?_)
  refine Ex_iconst (v := 0) dX0_copy_11 (by decide) ?_
  refine Ex_istore_n (L2 := [(2, .int 0), (0, .ref (a0 + t)), (1, .ref (a0 + p1))]) dX0_copy_12 rfl (by decide) rfl ?_
  refine Ex_perm [1, 2, 0] rfl ?_
  refine c_X0_copy_L13 a0 F t p1 _ hk0 hk1 (fun x2_9 μ_10 => ?_) F 0 μ_2
  refine Ex_aload_n dX0_copy_42 rfl 0 rfl ?_
  refine Ex_aload_n dX0_copy_43 rfl 1 rfl ?_
  refine Ex_get (v := .int (gI μ_10 p1 2)) fgX0_22 hk1 (by decide) rfl dX0_copy_44 ?_
  refine Ex_putI fgX0_22 fp0_2 hk0 (by decide) rfl rfl (Nat.le_of_ble_eq_true rfl) (fs0_2 a0 μ_10 t (gI μ_10 p1 2)) dX0_copy_47 (fun μ_11 => ?_)
  exact Ex_vret dX0_copy_50 rfl

def f_X0_loseOldest_L9 (F : Nat) (q0 : Nat) (q1 : Nat) (k : Int32 → Mem → Option (Mem)) : Nat → Int32 → Mem → Option (Mem)
  | 0, _, _ => none
  | n + 1, x2, μ => (if x2 < 10 then if ix x2 10 = true then if ix (x2 - 1) 10 = true then lt (sR μ (q0 + 5) ((x2 - 1).toNatClampNeg) (gR μ (q0 + 5) x2.toNatClampNeg)) (fun μ_3 => f_X0_loseOldest_L9 F q0 q1 k n (x2 + 1) μ_3) else none else none else k x2 μ)
set_option maxRecDepth 100000 in
set_option maxHeartbeats 4000000 in
theorem c_X0_loseOldest_L9 (a0 : Nat) (F : Nat) (q0 : Nat) (q1 : Nat) (k : Int32 → Mem → Option (Mem)) (hq0 : kd q0 = 0) (hq1 : kd q1 = 3) (hk : ∀ (x2 : Int32) (μ : Mem), Ex a0 RX0 cX0_loseOldest 3 none 0 none (fun m => (none, m)) 35 [(0, .ref (a0 + q0)), (1, .ref (a0 + q1))] [] μ (k x2 μ)) : ∀ (n : Nat) (x2 : Int32) (μ : Mem), Ex a0 RX0 cX0_loseOldest 3 none 0 none (fun m => (none, m)) 9 [(0, .ref (a0 + q0)), (1, .ref (a0 + q1)), (2, .int x2)] [] μ (f_X0_loseOldest_L9 F q0 q1 k n x2 μ) := by
  intro n
  induction n with
  | zero => intro x2 μ; exact Ex_none
  | succ n ih =>
    intro x2 μ
    rw [f_X0_loseOldest_L9]
    refine Ex_iload_n dX0_loseOldest_9 rfl 2 rfl ?_
    refine Ex_bipush (v := 10) dX0_loseOldest_10 (by decide) ?_
    refine Ex_icmp_ge (tgt := 35) dX0_loseOldest_12 (by decide) ?_ ?_
    · refine Ex_perm [0, 1] rfl ?_
      exact hk x2 μ
    · refine Ex_aload_n dX0_loseOldest_15 rfl 0 rfl ?_
      refine Ex_get (v := .ref (a0 + (q0 + 5))) fgX0_18 hq0 (by decide) rfl dX0_loseOldest_16 ?_
      refine Ex_iload_n dX0_loseOldest_19 rfl 2 rfl ?_
      refine Ex_iconst (v := 1) dX0_loseOldest_20 (by decide) ?_
      refine Ex_isub dX0_loseOldest_21 ?_
      refine Ex_aload_n dX0_loseOldest_22 rfl 0 rfl ?_
      refine Ex_get (v := .ref (a0 + (q0 + 5))) fgX0_18 hq0 (by decide) rfl dX0_loseOldest_23 ?_
      refine Ex_iload_n dX0_loseOldest_26 rfl 2 rfl ?_
      refine Ex_mald 10 (kn_0_5 hq0) (by decide) (by decide) dX0_loseOldest_27 (fun hm_2 => ?_)
      refine Ex_mast 10 (kn_0_5 hq0) (by decide) hm_2 (by decide) dX0_loseOldest_28 (fun μ_3 => ?_)
      refine Ex_iinc (v := x2 + 1) (L2 := [(2, .int (x2 + 1)), (0, .ref (a0 + q0)), (1, .ref (a0 + q1))]) dX0_loseOldest_29 2 rfl rfl (by decide) rfl ?_
      refine Ex_goto (tgt := 9) dX0_loseOldest_32 (by decide) ?_
      refine Ex_perm [1, 2, 0] rfl ?_
      exact ih (x2 + 1) μ_3
def f_X0_loseOldest (F : Nat) (μ : Mem) (t : Nat) : Option (Mem) := f_X0_loseOldest_L9 F t (gR μ (t + 5) 0) (fun x2_4 μ_5 => lt (sR μ_5 (t + 5) 9 (gR μ (t + 5) 0)) (fun μ_6 => lt (sI μ_6 t 2 9) (fun μ_7 => some μ_7))) F 1 μ
set_option maxRecDepth 100000 in
set_option maxHeartbeats 4000000 in
theorem c_X0_loseOldest (a0 F : Nat) (μ : Mem) (t : Nat) (hk0 : kd t = 0) {μ2 : Mem} (hr : f_X0_loseOldest F μ t = some μ2) : Ct a0 yX0_loseOldest cX0_loseOldest 3 none 0 [.ref (a0 + t)] μ none μ2 := by
  refine Ct_of (own := RX0) (ι := (fun m => (none, m))) (o := f_X0_loseOldest F μ t) (by decide +kernel) rfl (Nat.le_of_ble_eq_true rfl) ?_ hr rfl rfl
  show Ex a0 RX0 cX0_loseOldest 3 none 0 none (fun m => (none, m)) 0 [(0, .ref (a0 + t))] [] μ (f_X0_loseOldest F μ t)
  unfold f_X0_loseOldest
  refine Ex_aload_n dX0_loseOldest_0 rfl 0 rfl ?_
  refine Ex_get (v := .ref (a0 + (t + 5))) fgX0_18 hk0 (by decide) rfl dX0_loseOldest_1 ?_
  refine Ex_iconst (v := 0) dX0_loseOldest_4 (by decide) ?_
  refine Ex_maldC (j := 0) 10 (kn_0_5 hk0) (by decide) (by decide) (by decide) (by decide) dX0_loseOldest_5 (fun hm_1 => ?_)
  refine Ex_astore_n (L2 := [(1, .ref (a0 + (gR μ (t + 5) 0))), (0, .ref (a0 + t))]) dX0_loseOldest_6 rfl (by decide) rfl ?_
  refine Ex_iconst (v := 1) dX0_loseOldest_7 (by decide) ?_
  refine Ex_istore_n (L2 := [(2, .int 1), (1, .ref (a0 + (gR μ (t + 5) 0))), (0, .ref (a0 + t))]) dX0_loseOldest_8 rfl (by decide) rfl ?_
  refine Ex_perm [2, 1, 0] rfl ?_
  refine c_X0_loseOldest_L9 a0 F t (gR μ (t + 5) 0) _ hk0 hm_1 (fun x2_4 μ_5 => ?_) F 1 μ
  refine Ex_aload_n dX0_loseOldest_35 rfl 0 rfl ?_
  refine Ex_get (v := .ref (a0 + (t + 5))) fgX0_18 hk0 (by decide) rfl dX0_loseOldest_36 ?_
  refine Ex_bipush (v := 9) dX0_loseOldest_39 (by decide) ?_
  refine Ex_aload_n dX0_loseOldest_41 rfl 1 rfl ?_
  refine Ex_mastC (j := 9) 10 (kn_0_5 hk0) (by decide) hm_1 (by decide) (by decide) (by decide) dX0_loseOldest_42 (fun μ_6 => ?_)
  refine Ex_aload_n dX0_loseOldest_43 rfl 0 rfl ?_
  refine Ex_bipush (v := 9) dX0_loseOldest_44 (by decide) ?_
  refine Ex_putI fgX0_22 fp0_2 hk0 (by decide) rfl rfl (Nat.le_of_ble_eq_true rfl) (fs0_2 a0 μ_6 t 9) dX0_loseOldest_46 (fun μ_7 => ?_)
  exact Ex_vret dX0_loseOldest_49 rfl

def f_X0_remember (F : Nat) (μ : Mem) (t : Nat) : Option (Mem) := (if (gI μ t 2) < 10 then if ix (gI μ t 2) 10 = true then (f_X3_copy F μ (gR μ (t + 5) ((gI μ t 2).toNatClampNeg)) (t + 1)).bind (fun μ_3 => lt (sI μ_3 t 2 ((gI μ_3 t 2) + 1)) (fun μ_5 => some μ_5)) else none else (f_X0_loseOldest F μ t).bind (fun μ_7 => if ix (gI μ_7 t 2) 10 = true then (f_X3_copy F μ_7 (gR μ_7 (t + 5) ((gI μ_7 t 2).toNatClampNeg)) (t + 1)).bind (fun μ_11 => lt (sI μ_11 t 2 ((gI μ_11 t 2) + 1)) (fun μ_13 => some μ_13)) else none))
set_option maxRecDepth 100000 in
set_option maxHeartbeats 4000000 in
theorem c_X0_remember (a0 F : Nat) (μ : Mem) (t : Nat) (hk0 : kd t = 0) {μ2 : Mem} (hr : f_X0_remember F μ t = some μ2) : Ct a0 yX0_remember cX0_remember 1 none 1 [.ref (a0 + t)] μ none μ2 := by
  refine Ct_of (own := RX0) (ι := (fun m => (none, m))) (o := f_X0_remember F μ t) (by decide +kernel) rfl (Nat.le_of_ble_eq_true rfl) ?_ hr rfl rfl
  show Ex a0 RX0 cX0_remember 1 none 1 none (fun m => (none, m)) 0 [(0, .ref (a0 + t))] [] μ (f_X0_remember F μ t)
  unfold f_X0_remember
  refine Ex_aload_n dX0_remember_0 rfl 0 rfl ?_
  refine Ex_get (v := .int (gI μ t 2)) fgX0_22 hk0 (by decide) rfl dX0_remember_1 ?_
  refine Ex_bipush (v := 10) dX0_remember_4 (by decide) ?_
  refine Ex_icmp_lt (tgt := 13) dX0_remember_6 (by decide) ?_ ?_
  · refine Ex_aload_n dX0_remember_13 rfl 0 rfl ?_
    refine Ex_get (v := .ref (a0 + (t + 5))) fgX0_18 hk0 (by decide) rfl dX0_remember_14 ?_
    refine Ex_aload_n dX0_remember_17 rfl 0 rfl ?_
    refine Ex_get (v := .int (gI μ t 2)) fgX0_22 hk0 (by decide) rfl dX0_remember_18 ?_
    refine Ex_mald 10 (kn_0_5 hk0) (by decide) (by decide) dX0_remember_21 (fun hm_1 => ?_)
    refine Ex_aload_n dX0_remember_22 rfl 0 rfl ?_
    refine Ex_get (v := .ref (a0 + (t + 1))) fgX0_12 hk0 (by decide) rfl dX0_remember_23 ?_
    refine Ex_callVV (n := 1) (dp2 := 0) [.ref (a0 + (t + 1))] cvX0_33 hm_1 rfl rfl (by decide) (by decide) (Nat.le_of_ble_eq_true rfl) rfl (fun μ2 hv => c_X3_copy a0 F μ (gR μ (t + 5) ((gI μ t 2).toNatClampNeg)) (t + 1) hm_1 (kn_0_1 hk0) hv) dX0_remember_26 (fun μ_3 hv_4 => ?_)
    refine Ex_aload_n dX0_remember_29 rfl 0 rfl ?_
    refine Ex_dup dX0_remember_30 rfl ?_
    refine Ex_get (v := .int (gI μ_3 t 2)) fgX0_22 hk0 (by decide) rfl dX0_remember_31 ?_
    refine Ex_iconst (v := 1) dX0_remember_34 (by decide) ?_
    refine Ex_iadd dX0_remember_35 ?_
    refine Ex_putI fgX0_22 fp0_2 hk0 (by decide) rfl rfl (Nat.le_of_ble_eq_true rfl) (fs0_2 a0 μ_3 t ((gI μ_3 t 2) + 1)) dX0_remember_36 (fun μ_5 => ?_)
    exact Ex_vret dX0_remember_39 rfl
  · refine Ex_aload_n dX0_remember_9 rfl 0 rfl ?_
    refine Ex_callVV (n := 0) (dp2 := 0) [] cvX0_30 hk0 rfl rfl (by decide) (by decide) (Nat.le_of_ble_eq_true rfl) rfl (fun μ2 hv => c_X0_loseOldest a0 F μ t hk0 hv) dX0_remember_10 (fun μ_7 hv_8 => ?_)
    refine Ex_aload_n dX0_remember_13 rfl 0 rfl ?_
    refine Ex_get (v := .ref (a0 + (t + 5))) fgX0_18 hk0 (by decide) rfl dX0_remember_14 ?_
    refine Ex_aload_n dX0_remember_17 rfl 0 rfl ?_
    refine Ex_get (v := .int (gI μ_7 t 2)) fgX0_22 hk0 (by decide) rfl dX0_remember_18 ?_
    refine Ex_mald 10 (kn_0_5 hk0) (by decide) (by decide) dX0_remember_21 (fun hm_9 => ?_)
    refine Ex_aload_n dX0_remember_22 rfl 0 rfl ?_
    refine Ex_get (v := .ref (a0 + (t + 1))) fgX0_12 hk0 (by decide) rfl dX0_remember_23 ?_
    refine Ex_callVV (n := 1) (dp2 := 0) [.ref (a0 + (t + 1))] cvX0_33 hm_9 rfl rfl (by decide) (by decide) (Nat.le_of_ble_eq_true rfl) rfl (fun μ2 hv => c_X3_copy a0 F μ_7 (gR μ_7 (t + 5) ((gI μ_7 t 2).toNatClampNeg)) (t + 1) hm_9 (kn_0_1 hk0) hv) dX0_remember_26 (fun μ_11 hv_12 => ?_)
    refine Ex_aload_n dX0_remember_29 rfl 0 rfl ?_
    refine Ex_dup dX0_remember_30 rfl ?_
    refine Ex_get (v := .int (gI μ_11 t 2)) fgX0_22 hk0 (by decide) rfl dX0_remember_31 ?_
    refine Ex_iconst (v := 1) dX0_remember_34 (by decide) ?_
    refine Ex_iadd dX0_remember_35 ?_
    refine Ex_putI fgX0_22 fp0_2 hk0 (by decide) rfl rfl (Nat.le_of_ble_eq_true rfl) (fs0_2 a0 μ_11 t ((gI μ_11 t 2) + 1)) dX0_remember_36 (fun μ_13 => ?_)
    exact Ex_vret dX0_remember_39 rfl

def f_X0_stepBack (F : Nat) (μ : Mem) (t : Nat) : Option (Int32 × Mem) := (if 0 < (gI μ t 2) then lt (sI μ t 2 ((gI μ t 2) - 1)) (fun μ_1 => if ix (gI μ_1 t 2) 10 = true then (f_X3_copy F μ_1 (t + 1) (gR μ_1 (t + 5) ((gI μ_1 t 2).toNatClampNeg))).bind (fun μ_4 => some (1, μ_4)) else none) else some (0, μ))
set_option maxRecDepth 100000 in
set_option maxHeartbeats 4000000 in
theorem c_X0_stepBack (a0 F : Nat) (μ : Mem) (t : Nat) (hk0 : kd t = 0) {v : Int32} {μ2 : Mem} (hr : f_X0_stepBack F μ t = some (v, μ2)) : Ct a0 yX0_stepBack cX0_stepBack 1 (some .boolean) 1 [.ref (a0 + t)] μ (some (.int v)) μ2 := by
  refine Ct_of (own := RX0) (ι := (fun x => (some (.int x.1), x.2))) (o := f_X0_stepBack F μ t) (by decide +kernel) rfl (Nat.le_of_ble_eq_true rfl) ?_ hr rfl ⟨_, rfl⟩
  show Ex a0 RX0 cX0_stepBack 1 (some .boolean) 1 none (fun x => (some (.int x.1), x.2)) 0 [(0, .ref (a0 + t))] [] μ (f_X0_stepBack F μ t)
  unfold f_X0_stepBack
  refine Ex_aload_n dX0_stepBack_0 rfl 0 rfl ?_
  refine Ex_get (v := .int (gI μ t 2)) fgX0_22 hk0 (by decide) rfl dX0_stepBack_1 ?_
  refine Ex_if_gt (tgt := 9) dX0_stepBack_4 (by decide) ?_ ?_
  · refine Ex_aload_n dX0_stepBack_9 rfl 0 rfl ?_
    refine Ex_dup dX0_stepBack_10 rfl ?_
    refine Ex_get (v := .int (gI μ t 2)) fgX0_22 hk0 (by decide) rfl dX0_stepBack_11 ?_
    refine Ex_iconst (v := 1) dX0_stepBack_14 (by decide) ?_
    refine Ex_isub dX0_stepBack_15 ?_
    refine Ex_putI fgX0_22 fp0_2 hk0 (by decide) rfl rfl (Nat.le_of_ble_eq_true rfl) (fs0_2 a0 μ t ((gI μ t 2) - 1)) dX0_stepBack_16 (fun μ_1 => ?_)
    refine Ex_aload_n dX0_stepBack_19 rfl 0 rfl ?_
    refine Ex_get (v := .ref (a0 + (t + 1))) fgX0_12 hk0 (by decide) rfl dX0_stepBack_20 ?_
    refine Ex_aload_n dX0_stepBack_23 rfl 0 rfl ?_
    refine Ex_get (v := .ref (a0 + (t + 5))) fgX0_18 hk0 (by decide) rfl dX0_stepBack_24 ?_
    refine Ex_aload_n dX0_stepBack_27 rfl 0 rfl ?_
    refine Ex_get (v := .int (gI μ_1 t 2)) fgX0_22 hk0 (by decide) rfl dX0_stepBack_28 ?_
    refine Ex_mald 10 (kn_0_5 hk0) (by decide) (by decide) dX0_stepBack_31 (fun hm_2 => ?_)
    refine Ex_callVV (n := 1) (dp2 := 0) [.ref (a0 + (gR μ_1 (t + 5) ((gI μ_1 t 2).toNatClampNeg)))] cvX0_33 (kn_0_1 hk0) rfl rfl (by decide) (by decide) (Nat.le_of_ble_eq_true rfl) rfl (fun μ2 hv => c_X3_copy a0 F μ_1 (t + 1) (gR μ_1 (t + 5) ((gI μ_1 t 2).toNatClampNeg)) (kn_0_1 hk0) hm_2 hv) dX0_stepBack_32 (fun μ_4 hv_5 => ?_)
    refine Ex_iconst (v := 1) dX0_stepBack_35 (by decide) ?_
    exact Ex_iret dX0_stepBack_36 rfl (fun ty h => by cases h; rfl)
  · refine Ex_iconst (v := 0) dX0_stepBack_7 (by decide) ?_
    exact Ex_iret dX0_stepBack_8 rfl (fun ty h => by cases h; rfl)

def f_X1_measure_L2 (F : Nat) (q0 : Nat) (q1 : Nat) (x2 : Int32) (k : Int32 → Mem → Option (Mem)) : Nat → Int32 → Mem → Option (Mem)
  | 0, _, _ => none
  | n + 1, x3, μ => (if x3 < (gI μ q1 0) then (if x3 = x2 then if ix x3 8 = true then lt (sI μ (q0 + 2) x3.toNatClampNeg 0) (fun μ_2 => f_X1_measure_L2 F q0 q1 x2 k n (x3 + 1) μ_2) else none else if ix x3 8 = true then lt (sI μ (q0 + 2) x3.toNatClampNeg 1000000) (fun μ_1 => f_X1_measure_L2 F q0 q1 x2 k n (x3 + 1) μ_1) else none) else k x3 μ)
set_option maxRecDepth 100000 in
set_option maxHeartbeats 4000000 in
theorem c_X1_measure_L2 (a0 : Nat) (F : Nat) (q0 : Nat) (q1 : Nat) (x2 : Int32) (k : Int32 → Mem → Option (Mem)) (hq0 : kd q0 = 1) (hq1 : kd q1 = 7) (hk : ∀ (x3 : Int32) (μ : Mem), Ex a0 RX1 cX1_measure 7 none 1 none (fun m => (none, m)) 33 [(0, .ref (a0 + q0)), (1, .ref (a0 + q1))] [] μ (k x3 μ)) : ∀ (n : Nat) (x3 : Int32) (μ : Mem), Ex a0 RX1 cX1_measure 7 none 1 none (fun m => (none, m)) 2 [(0, .ref (a0 + q0)), (1, .ref (a0 + q1)), (2, .int x2), (3, .int x3)] [] μ (f_X1_measure_L2 F q0 q1 x2 k n x3 μ) := by
  intro n
  induction n with
  | zero => intro x3 μ; exact Ex_none
  | succ n ih =>
    intro x3 μ
    rw [f_X1_measure_L2]
    refine Ex_iload_n dX1_measure_2 rfl 3 rfl ?_
    refine Ex_aload_n dX1_measure_3 rfl 1 rfl ?_
    refine Ex_get (v := .int (gI μ q1 0)) fgX1_38 hq1 (by decide) rfl dX1_measure_4 ?_
    refine Ex_icmp_ge (tgt := 33) dX1_measure_7 (by decide) ?_ ?_
    · refine Ex_perm [0, 1] rfl ?_
      exact hk x3 μ
    · refine Ex_aload_n dX1_measure_10 rfl 0 rfl ?_
      refine Ex_get (v := .ref (a0 + (q0 + 2))) fgX1_15 hq0 (by decide) rfl dX1_measure_11 ?_
      refine Ex_iload_n dX1_measure_14 rfl 3 rfl ?_
      refine Ex_iload_n dX1_measure_15 rfl 3 rfl ?_
      refine Ex_iload_n dX1_measure_16 rfl 2 rfl ?_
      refine Ex_icmp_ne (tgt := 24) dX1_measure_17 (by decide) ?_ ?_
      · refine Ex_ldc (v := 1000000) dX1_measure_24 cnX1_24 ?_
        refine Ex_iast 8 (kn_1_2 hq0) (by decide) dX1_measure_26 (fun μ_1 => ?_)
        refine Ex_iinc (v := x3 + 1) (L2 := [(3, .int (x3 + 1)), (0, .ref (a0 + q0)), (1, .ref (a0 + q1)), (2, .int x2)]) dX1_measure_27 3 rfl rfl (by decide) rfl ?_
        refine Ex_goto (tgt := 2) dX1_measure_30 (by decide) ?_
        refine Ex_perm [1, 2, 3, 0] rfl ?_
        exact ih (x3 + 1) μ_1
      · refine Ex_iconst (v := 0) dX1_measure_20 (by decide) ?_
        refine Ex_goto (tgt := 26) dX1_measure_21 (by decide) ?_
        refine Ex_iast 8 (kn_1_2 hq0) (by decide) dX1_measure_26 (fun μ_2 => ?_)
        refine Ex_iinc (v := x3 + 1) (L2 := [(3, .int (x3 + 1)), (0, .ref (a0 + q0)), (1, .ref (a0 + q1)), (2, .int x2)]) dX1_measure_27 3 rfl rfl (by decide) rfl ?_
        refine Ex_goto (tgt := 2) dX1_measure_30 (by decide) ?_
        refine Ex_perm [1, 2, 3, 0] rfl ?_
        exact ih (x3 + 1) μ_2

def f_X1_measure_L46 (F : Nat) (q0 : Nat) (q1 : Nat) (x3 : Int32) (k : Int32 → Mem → Option (Mem)) : Nat → Int32 → Mem → Option (Mem)
  | 0, _, _ => none
  | n + 1, x4, μ => (if x4 < (gI μ q1 1) then if ix x4 8 = true then if ix x4 8 = true then if ix (gI μ (q1 + 1) x4.toNatClampNeg) 8 = true then if ix (gI μ (q1 + 2) x4.toNatClampNeg) 8 = true then if ix x4 8 = true then if ix (gI μ (q1 + 1) x4.toNatClampNeg) 8 = true then lt (sI μ (q0 + 2) ((gI μ (q1 + 1) x4.toNatClampNeg).toNatClampNeg) (imin (gI μ (q0 + 2) ((gI μ (q1 + 1) x4.toNatClampNeg).toNatClampNeg)) ((gI μ (q0 + 2) ((gI μ (q1 + 2) x4.toNatClampNeg).toNatClampNeg)) + (gI μ (q0 + 1) x4.toNatClampNeg)))) (fun μ_5 => if ix (gI μ (q1 + 2) x4.toNatClampNeg) 8 = true then if ix (gI μ (q1 + 1) x4.toNatClampNeg) 8 = true then if ix x4 8 = true then if ix (gI μ (q1 + 2) x4.toNatClampNeg) 8 = true then lt (sI μ_5 (q0 + 2) ((gI μ (q1 + 2) x4.toNatClampNeg).toNatClampNeg) (imin (gI μ_5 (q0 + 2) ((gI μ (q1 + 2) x4.toNatClampNeg).toNatClampNeg)) ((gI μ_5 (q0 + 2) ((gI μ (q1 + 1) x4.toNatClampNeg).toNatClampNeg)) + (gI μ_5 (q0 + 1) x4.toNatClampNeg)))) (fun μ_6 => f_X1_measure_L46 F q0 q1 x3 k n (x4 + 1) μ_6) else none else none else none else none) else none else none else none else none else none else none else k x4 μ)
set_option maxRecDepth 100000 in
set_option maxHeartbeats 4000000 in
theorem c_X1_measure_L46 (a0 : Nat) (F : Nat) (q0 : Nat) (q1 : Nat) (x3 : Int32) (k : Int32 → Mem → Option (Mem)) (hq0 : kd q0 = 1) (hq1 : kd q1 = 7) (hk : ∀ (x4 : Int32) (μ : Mem), Ex a0 RX1 cX1_measure 7 none 1 none (fun m => (none, m)) 143 [(0, .ref (a0 + q0)), (1, .ref (a0 + q1)), (3, .int x3)] [] μ (k x4 μ)) : ∀ (n : Nat) (x4 : Int32) (μ : Mem), Ex a0 RX1 cX1_measure 7 none 1 none (fun m => (none, m)) 46 [(0, .ref (a0 + q0)), (1, .ref (a0 + q1)), (3, .int x3), (4, .int x4)] [] μ (f_X1_measure_L46 F q0 q1 x3 k n x4 μ) := by
  intro n
  induction n with
  | zero => intro x4 μ; exact Ex_none
  | succ n ih =>
    intro x4 μ
    rw [f_X1_measure_L46]
    refine Ex_iload dX1_measure_46 3 rfl ?_
    refine Ex_aload_n dX1_measure_48 rfl 1 rfl ?_
    refine Ex_get (v := .int (gI μ q1 1)) fgX1_18 hq1 (by decide) rfl dX1_measure_49 ?_
    refine Ex_icmp_ge (tgt := 143) dX1_measure_52 (by decide) ?_ ?_
    · refine Ex_perm [0, 1, 2] rfl ?_
      exact hk x4 μ
    · refine Ex_aload_n dX1_measure_55 rfl 1 rfl ?_
      refine Ex_get (v := .ref (a0 + (q1 + 1))) fgX1_41 hq1 (by decide) rfl dX1_measure_56 ?_
      refine Ex_iload dX1_measure_59 3 rfl ?_
      refine Ex_iald 8 (kn_7_1 hq1) (by decide) dX1_measure_61 ?_
      refine Ex_istore (L2 := [(5, .int (gI μ (q1 + 1) x4.toNatClampNeg)), (0, .ref (a0 + q0)), (1, .ref (a0 + q1)), (3, .int x3), (4, .int x4)]) dX1_measure_62 (by decide) rfl ?_
      refine Ex_aload_n dX1_measure_64 rfl 2 rfl ?_
      refine Ex_get (v := .ref (a0 + (q1 + 2))) fgX1_44 hq1 (by decide) rfl dX1_measure_65 ?_
      refine Ex_iload dX1_measure_68 4 rfl ?_
      refine Ex_iald 8 (kn_7_2 hq1) (by decide) dX1_measure_70 ?_
      refine Ex_istore (L2 := [(6, .int (gI μ (q1 + 2) x4.toNatClampNeg)), (5, .int (gI μ (q1 + 1) x4.toNatClampNeg)), (0, .ref (a0 + q0)), (1, .ref (a0 + q1)), (3, .int x3), (4, .int x4)]) dX1_measure_71 (by decide) rfl ?_
      refine Ex_aload_n dX1_measure_73 rfl 2 rfl ?_
      refine Ex_get (v := .ref (a0 + (q0 + 2))) fgX1_15 hq0 (by decide) rfl dX1_measure_74 ?_
      refine Ex_iload dX1_measure_77 1 rfl ?_
      refine Ex_aload_n dX1_measure_79 rfl 2 rfl ?_
      refine Ex_get (v := .ref (a0 + (q0 + 2))) fgX1_15 hq0 (by decide) rfl dX1_measure_80 ?_
      refine Ex_iload dX1_measure_83 1 rfl ?_
      refine Ex_iald 8 (kn_1_2 hq0) (by decide) dX1_measure_85 ?_
      refine Ex_aload_n dX1_measure_86 rfl 2 rfl ?_
      refine Ex_get (v := .ref (a0 + (q0 + 2))) fgX1_15 hq0 (by decide) rfl dX1_measure_87 ?_
      refine Ex_iload dX1_measure_90 0 rfl ?_
      refine Ex_iald 8 (kn_1_2 hq0) (by decide) dX1_measure_92 ?_
      refine Ex_aload_n dX1_measure_93 rfl 2 rfl ?_
      refine Ex_get (v := .ref (a0 + (q0 + 1))) fgX1_9 hq0 (by decide) rfl dX1_measure_94 ?_
      refine Ex_iload dX1_measure_97 5 rfl ?_
      refine Ex_iald 8 (kn_1_1 hq0) (by decide) dX1_measure_99 ?_
      refine Ex_iadd dX1_measure_100 ?_
      refine Ex_mmin cvX1_47 (by decide) (Nat.le_of_ble_eq_true rfl) dX1_measure_101 ?_
      refine Ex_iast 8 (kn_1_2 hq0) (by decide) dX1_measure_104 (fun μ_5 => ?_)
      refine Ex_aload_n dX1_measure_105 rfl 2 rfl ?_
      refine Ex_get (v := .ref (a0 + (q0 + 2))) fgX1_15 hq0 (by decide) rfl dX1_measure_106 ?_
      refine Ex_iload dX1_measure_109 0 rfl ?_
      refine Ex_aload_n dX1_measure_111 rfl 2 rfl ?_
      refine Ex_get (v := .ref (a0 + (q0 + 2))) fgX1_15 hq0 (by decide) rfl dX1_measure_112 ?_
      refine Ex_iload dX1_measure_115 0 rfl ?_
      refine Ex_iald 8 (kn_1_2 hq0) (by decide) dX1_measure_117 ?_
      refine Ex_aload_n dX1_measure_118 rfl 2 rfl ?_
      refine Ex_get (v := .ref (a0 + (q0 + 2))) fgX1_15 hq0 (by decide) rfl dX1_measure_119 ?_
      refine Ex_iload dX1_measure_122 1 rfl ?_
      refine Ex_iald 8 (kn_1_2 hq0) (by decide) dX1_measure_124 ?_
      refine Ex_aload_n dX1_measure_125 rfl 2 rfl ?_
      refine Ex_get (v := .ref (a0 + (q0 + 1))) fgX1_9 hq0 (by decide) rfl dX1_measure_126 ?_
      refine Ex_iload dX1_measure_129 5 rfl ?_
      refine Ex_iald 8 (kn_1_1 hq0) (by decide) dX1_measure_131 ?_
      refine Ex_iadd dX1_measure_132 ?_
      refine Ex_mmin cvX1_47 (by decide) (Nat.le_of_ble_eq_true rfl) dX1_measure_133 ?_
      refine Ex_iast 8 (kn_1_2 hq0) (by decide) dX1_measure_136 (fun μ_6 => ?_)
      refine Ex_iinc (v := x4 + 1) (L2 := [(4, .int (x4 + 1)), (6, .int (gI μ (q1 + 2) x4.toNatClampNeg)), (5, .int (gI μ (q1 + 1) x4.toNatClampNeg)), (0, .ref (a0 + q0)), (1, .ref (a0 + q1)), (3, .int x3)]) dX1_measure_137 5 rfl rfl (by decide) rfl ?_
      refine Ex_goto (tgt := 46) dX1_measure_140 (by decide) ?_
      refine Ex_perm [3, 4, 5, 0] rfl ?_
      exact ih (x4 + 1) μ_6

def f_X1_measure_L35 (F : Nat) (q0 : Nat) (q1 : Nat) (k : Int32 → Mem → Option (Mem)) : Nat → Int32 → Mem → Option (Mem)
  | 0, _, _ => none
  | n + 1, x3, μ => (if x3 < (gI μ q1 0) then f_X1_measure_L46 F q0 q1 x3 (fun x4_7 μ_8 => f_X1_measure_L35 F q0 q1 k n (x3 + 1) μ_8) F 0 μ else k x3 μ)
set_option maxRecDepth 100000 in
set_option maxHeartbeats 4000000 in
theorem c_X1_measure_L35 (a0 : Nat) (F : Nat) (q0 : Nat) (q1 : Nat) (k : Int32 → Mem → Option (Mem)) (hq0 : kd q0 = 1) (hq1 : kd q1 = 7) (hk : ∀ (x3 : Int32) (μ : Mem), Ex a0 RX1 cX1_measure 7 none 1 none (fun m => (none, m)) 149 [] [] μ (k x3 μ)) : ∀ (n : Nat) (x3 : Int32) (μ : Mem), Ex a0 RX1 cX1_measure 7 none 1 none (fun m => (none, m)) 35 [(0, .ref (a0 + q0)), (1, .ref (a0 + q1)), (3, .int x3)] [] μ (f_X1_measure_L35 F q0 q1 k n x3 μ) := by
  intro n
  induction n with
  | zero => intro x3 μ; exact Ex_none
  | succ n ih =>
    intro x3 μ
    rw [f_X1_measure_L35]
    refine Ex_iload_n dX1_measure_35 rfl 2 rfl ?_
    refine Ex_aload_n dX1_measure_36 rfl 1 rfl ?_
    refine Ex_get (v := .int (gI μ q1 0)) fgX1_38 hq1 (by decide) rfl dX1_measure_37 ?_
    refine Ex_icmp_ge (tgt := 149) dX1_measure_40 (by decide) ?_ ?_
    · refine Ex_perm [] rfl ?_
      exact hk x3 μ
    · refine Ex_iconst (v := 0) dX1_measure_43 (by decide) ?_
      refine Ex_istore (L2 := [(4, .int 0), (0, .ref (a0 + q0)), (1, .ref (a0 + q1)), (3, .int x3)]) dX1_measure_44 (by decide) rfl ?_
      refine Ex_perm [1, 2, 3, 0] rfl ?_
      refine c_X1_measure_L46 a0 F q0 q1 x3 _ hq0 hq1 (fun x4_7 μ_8 => ?_) F 0 μ
      refine Ex_iinc (v := x3 + 1) (L2 := [(3, .int (x3 + 1)), (0, .ref (a0 + q0)), (1, .ref (a0 + q1))]) dX1_measure_143 2 rfl rfl (by decide) rfl ?_
      refine Ex_goto (tgt := 35) dX1_measure_146 (by decide) ?_
      refine Ex_perm [1, 2, 0] rfl ?_
      exact ih (x3 + 1) μ_8
def f_X1_measure (F : Nat) (μ : Mem) (t : Nat) (p1 : Nat) (p2 : Int32) : Option (Mem) := f_X1_measure_L2 F t p1 p2 (fun x3_3 μ_4 => f_X1_measure_L35 F t p1 (fun x3_9 μ_10 => some μ_10) F 1 μ_4) F 0 μ
set_option maxRecDepth 100000 in
set_option maxHeartbeats 4000000 in
theorem c_X1_measure (a0 F : Nat) (μ : Mem) (t : Nat) (p1 : Nat) (p2 : Int32) (hk0 : kd t = 1) (hk1 : kd p1 = 7) {μ2 : Mem} (hr : f_X1_measure F μ t p1 p2 = some μ2) : Ct a0 yX1_measure cX1_measure 7 none 1 [.ref (a0 + t), .ref (a0 + p1), .int p2] μ none μ2 := by
  refine Ct_of (own := RX1) (ι := (fun m => (none, m))) (o := f_X1_measure F μ t p1 p2) (by decide +kernel) rfl (Nat.le_of_ble_eq_true rfl) ?_ hr rfl rfl
  show Ex a0 RX1 cX1_measure 7 none 1 none (fun m => (none, m)) 0 [(0, .ref (a0 + t)), (1, .ref (a0 + p1)), (2, .int p2)] [] μ (f_X1_measure F μ t p1 p2)
  unfold f_X1_measure
  refine Ex_iconst (v := 0) dX1_measure_0 (by decide) ?_
  refine Ex_istore_n (L2 := [(3, .int 0), (0, .ref (a0 + t)), (1, .ref (a0 + p1)), (2, .int p2)]) dX1_measure_1 rfl (by decide) rfl ?_
  refine Ex_perm [1, 2, 3, 0] rfl ?_
  refine c_X1_measure_L2 a0 F t p1 p2 _ hk0 hk1 (fun x3_3 μ_4 => ?_) F 0 μ
  refine Ex_iconst (v := 1) dX1_measure_33 (by decide) ?_
  refine Ex_istore_n (L2 := [(3, .int 1), (0, .ref (a0 + t)), (1, .ref (a0 + p1))]) dX1_measure_34 rfl (by decide) rfl ?_
  refine Ex_perm [1, 2, 0] rfl ?_
  refine c_X1_measure_L35 a0 F t p1 _ hk0 hk1 (fun x3_9 μ_10 => ?_) F 1 μ_4
  exact Ex_vret dX1_measure_149 rfl

def f_X1_addLacks_L3 (F : Nat) (q0 : Nat) (q1 : Nat) (x2 : Int32) (x3 : Int32) (x4 : Int32) (k : Int32 → Mem → Option (Mem)) : Nat → Int32 → Mem → Option (Mem)
  | 0, _, _ => none
  | n + 1, x5, μ => (if x5 < (gI μ q1 1) then (if ((x3 >>> (x5 &&& 31)) &&& 1) = 0 then if ix x5 8 = true then lt (sI μ (q0 + 1) x5.toNatClampNeg 1000000) (fun μ_1 => f_X1_addLacks_L3 F q0 q1 x2 x3 x4 k n (x5 + 1) μ_1) else none else if ix x5 8 = true then if ix x5 8 = true then lt (sI μ (q0 + 1) x5.toNatClampNeg (imax 0 (x4 - (gI μ (q1 + 3) x5.toNatClampNeg)))) (fun μ_2 => f_X1_addLacks_L3 F q0 q1 x2 x3 x4 k n (x5 + 1) μ_2) else none else none) else k x5 μ)
set_option maxRecDepth 100000 in
set_option maxHeartbeats 4000000 in
theorem c_X1_addLacks_L3 (a0 : Nat) (F : Nat) (q0 : Nat) (q1 : Nat) (x2 : Int32) (x3 : Int32) (x4 : Int32) (k : Int32 → Mem → Option (Mem)) (hq0 : kd q0 = 1) (hq1 : kd q1 = 7) (hk : ∀ (x5 : Int32) (μ : Mem), Ex a0 RX1 cX1_addLacks 6 none 2 none (fun m => (none, m)) 53 [(0, .ref (a0 + q0)), (1, .ref (a0 + q1)), (2, .int x2)] [] μ (k x5 μ)) : ∀ (n : Nat) (x5 : Int32) (μ : Mem), Ex a0 RX1 cX1_addLacks 6 none 2 none (fun m => (none, m)) 3 [(0, .ref (a0 + q0)), (1, .ref (a0 + q1)), (2, .int x2), (3, .int x3), (4, .int x4), (5, .int x5)] [] μ (f_X1_addLacks_L3 F q0 q1 x2 x3 x4 k n x5 μ) := by
  intro n
  induction n with
  | zero => intro x5 μ; exact Ex_none
  | succ n ih =>
    intro x5 μ
    rw [f_X1_addLacks_L3]
    refine Ex_iload dX1_addLacks_3 5 rfl ?_
    refine Ex_aload_n dX1_addLacks_5 rfl 1 rfl ?_
    refine Ex_get (v := .int (gI μ q1 1)) fgX1_18 hq1 (by decide) rfl dX1_addLacks_6 ?_
    refine Ex_icmp_ge (tgt := 53) dX1_addLacks_9 (by decide) ?_ ?_
    · refine Ex_perm [0, 1, 2] rfl ?_
      exact hk x5 μ
    · refine Ex_aload_n dX1_addLacks_12 rfl 0 rfl ?_
      refine Ex_get (v := .ref (a0 + (q0 + 1))) fgX1_9 hq0 (by decide) rfl dX1_addLacks_13 ?_
      refine Ex_iload dX1_addLacks_16 5 rfl ?_
      refine Ex_iload_n dX1_addLacks_18 rfl 3 rfl ?_
      refine Ex_iload dX1_addLacks_19 5 rfl ?_
      refine Ex_ishr dX1_addLacks_21 ?_
      refine Ex_iconst (v := 1) dX1_addLacks_22 (by decide) ?_
      refine Ex_iand dX1_addLacks_23 ?_
      refine Ex_if_eq (tgt := 44) dX1_addLacks_24 (by decide) ?_ ?_
      · refine Ex_ldc (v := 1000000) dX1_addLacks_44 cnX1_24 ?_
        refine Ex_iast 8 (kn_1_1 hq0) (by decide) dX1_addLacks_46 (fun μ_1 => ?_)
        refine Ex_iinc (v := x5 + 1) (L2 := [(5, .int (x5 + 1)), (0, .ref (a0 + q0)), (1, .ref (a0 + q1)), (2, .int x2), (3, .int x3), (4, .int x4)]) dX1_addLacks_47 5 rfl rfl (by decide) rfl ?_
        refine Ex_goto (tgt := 3) dX1_addLacks_50 (by decide) ?_
        refine Ex_perm [1, 2, 3, 4, 5, 0] rfl ?_
        exact ih (x5 + 1) μ_1
      · refine Ex_iconst (v := 0) dX1_addLacks_27 (by decide) ?_
        refine Ex_iload dX1_addLacks_28 4 rfl ?_
        refine Ex_aload_n dX1_addLacks_30 rfl 1 rfl ?_
        refine Ex_get (v := .ref (a0 + (q1 + 3))) fgX1_29 hq1 (by decide) rfl dX1_addLacks_31 ?_
        refine Ex_iload dX1_addLacks_34 5 rfl ?_
        refine Ex_iald 8 (kn_7_3 hq1) (by decide) dX1_addLacks_36 ?_
        refine Ex_isub dX1_addLacks_37 ?_
        refine Ex_mmax cvX1_32 (by decide) (Nat.le_of_ble_eq_true rfl) dX1_addLacks_38 ?_
        refine Ex_goto (tgt := 46) dX1_addLacks_41 (by decide) ?_
        refine Ex_iast 8 (kn_1_1 hq0) (by decide) dX1_addLacks_46 (fun μ_2 => ?_)
        refine Ex_iinc (v := x5 + 1) (L2 := [(5, .int (x5 + 1)), (0, .ref (a0 + q0)), (1, .ref (a0 + q1)), (2, .int x2), (3, .int x3), (4, .int x4)]) dX1_addLacks_47 5 rfl rfl (by decide) rfl ?_
        refine Ex_goto (tgt := 3) dX1_addLacks_50 (by decide) ?_
        refine Ex_perm [1, 2, 3, 4, 5, 0] rfl ?_
        exact ih (x5 + 1) μ_2
def f_X1_addLacks (F : Nat) (μ : Mem) (t : Nat) (p1 : Nat) (p2 : Int32) (p3 : Int32) (p4 : Int32) : Option (Mem) := f_X1_addLacks_L3 F t p1 p2 p3 p4 (fun x5_3 μ_4 => (f_X1_measure F μ_4 t p1 p2).bind (fun μ_6 => some μ_6)) F 0 μ
set_option maxRecDepth 100000 in
set_option maxHeartbeats 4000000 in
theorem c_X1_addLacks (a0 F : Nat) (μ : Mem) (t : Nat) (p1 : Nat) (p2 : Int32) (p3 : Int32) (p4 : Int32) (hk0 : kd t = 1) (hk1 : kd p1 = 7) {μ2 : Mem} (hr : f_X1_addLacks F μ t p1 p2 p3 p4 = some μ2) : Ct a0 yX1_addLacks cX1_addLacks 6 none 2 [.ref (a0 + t), .ref (a0 + p1), .int p2, .int p3, .int p4] μ none μ2 := by
  refine Ct_of (own := RX1) (ι := (fun m => (none, m))) (o := f_X1_addLacks F μ t p1 p2 p3 p4) (by decide +kernel) rfl (Nat.le_of_ble_eq_true rfl) ?_ hr rfl rfl
  show Ex a0 RX1 cX1_addLacks 6 none 2 none (fun m => (none, m)) 0 [(0, .ref (a0 + t)), (1, .ref (a0 + p1)), (2, .int p2), (3, .int p3), (4, .int p4)] [] μ (f_X1_addLacks F μ t p1 p2 p3 p4)
  unfold f_X1_addLacks
  refine Ex_iconst (v := 0) dX1_addLacks_0 (by decide) ?_
  refine Ex_istore (L2 := [(5, .int 0), (0, .ref (a0 + t)), (1, .ref (a0 + p1)), (2, .int p2), (3, .int p3), (4, .int p4)]) dX1_addLacks_1 (by decide) rfl ?_
  refine Ex_perm [1, 2, 3, 4, 5, 0] rfl ?_
  refine c_X1_addLacks_L3 a0 F t p1 p2 p3 p4 _ hk0 hk1 (fun x5_3 μ_4 => ?_) F 0 μ
  refine Ex_aload_n dX1_addLacks_53 rfl 0 rfl ?_
  refine Ex_aload_n dX1_addLacks_54 rfl 1 rfl ?_
  refine Ex_iload_n dX1_addLacks_55 rfl 2 rfl ?_
  refine Ex_callVV (n := 2) (dp2 := 1) [.ref (a0 + p1), .int p2] cvX1_25 hk0 rfl rfl (by decide) (by decide) (Nat.le_of_ble_eq_true rfl) rfl (fun μ2 hv => c_X1_measure a0 F μ_4 t p1 p2 hk0 hk1 hv) dX1_addLacks_56 (fun μ_6 hv_7 => ?_)
  exact Ex_vret dX1_addLacks_59 rfl

def f_X1_countLanes_L3 (F : Nat) (q0 : Nat) (q1 : Nat) (x2 : Int32) (x3 : Int32) (k : Int32 → Mem → Option (Mem)) : Nat → Int32 → Mem → Option (Mem)
  | 0, _, _ => none
  | n + 1, x4, μ => (if x4 < (gI μ q1 1) then (if ((x3 >>> (x4 &&& 31)) &&& 1) = 0 then if ix x4 8 = true then lt (sI μ (q0 + 1) x4.toNatClampNeg 1000000) (fun μ_1 => f_X1_countLanes_L3 F q0 q1 x2 x3 k n (x4 + 1) μ_1) else none else if ix x4 8 = true then lt (sI μ (q0 + 1) x4.toNatClampNeg 1) (fun μ_2 => f_X1_countLanes_L3 F q0 q1 x2 x3 k n (x4 + 1) μ_2) else none) else k x4 μ)
set_option maxRecDepth 100000 in
set_option maxHeartbeats 4000000 in
theorem c_X1_countLanes_L3 (a0 : Nat) (F : Nat) (q0 : Nat) (q1 : Nat) (x2 : Int32) (x3 : Int32) (k : Int32 → Mem → Option (Mem)) (hq0 : kd q0 = 1) (hq1 : kd q1 = 7) (hk : ∀ (x4 : Int32) (μ : Mem), Ex a0 RX1 cX1_countLanes 5 none 2 none (fun m => (none, m)) 40 [(0, .ref (a0 + q0)), (1, .ref (a0 + q1)), (2, .int x2)] [] μ (k x4 μ)) : ∀ (n : Nat) (x4 : Int32) (μ : Mem), Ex a0 RX1 cX1_countLanes 5 none 2 none (fun m => (none, m)) 3 [(0, .ref (a0 + q0)), (1, .ref (a0 + q1)), (2, .int x2), (3, .int x3), (4, .int x4)] [] μ (f_X1_countLanes_L3 F q0 q1 x2 x3 k n x4 μ) := by
  intro n
  induction n with
  | zero => intro x4 μ; exact Ex_none
  | succ n ih =>
    intro x4 μ
    rw [f_X1_countLanes_L3]
    refine Ex_iload dX1_countLanes_3 4 rfl ?_
    refine Ex_aload_n dX1_countLanes_5 rfl 1 rfl ?_
    refine Ex_get (v := .int (gI μ q1 1)) fgX1_18 hq1 (by decide) rfl dX1_countLanes_6 ?_
    refine Ex_icmp_ge (tgt := 40) dX1_countLanes_9 (by decide) ?_ ?_
    · refine Ex_perm [0, 1, 2] rfl ?_
      exact hk x4 μ
    · refine Ex_aload_n dX1_countLanes_12 rfl 0 rfl ?_
      refine Ex_get (v := .ref (a0 + (q0 + 1))) fgX1_9 hq0 (by decide) rfl dX1_countLanes_13 ?_
      refine Ex_iload dX1_countLanes_16 4 rfl ?_
      refine Ex_iload_n dX1_countLanes_18 rfl 3 rfl ?_
      refine Ex_iload dX1_countLanes_19 4 rfl ?_
      refine Ex_ishr dX1_countLanes_21 ?_
      refine Ex_iconst (v := 1) dX1_countLanes_22 (by decide) ?_
      refine Ex_iand dX1_countLanes_23 ?_
      refine Ex_if_eq (tgt := 31) dX1_countLanes_24 (by decide) ?_ ?_
      · refine Ex_ldc (v := 1000000) dX1_countLanes_31 cnX1_24 ?_
        refine Ex_iast 8 (kn_1_1 hq0) (by decide) dX1_countLanes_33 (fun μ_1 => ?_)
        refine Ex_iinc (v := x4 + 1) (L2 := [(4, .int (x4 + 1)), (0, .ref (a0 + q0)), (1, .ref (a0 + q1)), (2, .int x2), (3, .int x3)]) dX1_countLanes_34 4 rfl rfl (by decide) rfl ?_
        refine Ex_goto (tgt := 3) dX1_countLanes_37 (by decide) ?_
        refine Ex_perm [1, 2, 3, 4, 0] rfl ?_
        exact ih (x4 + 1) μ_1
      · refine Ex_iconst (v := 1) dX1_countLanes_27 (by decide) ?_
        refine Ex_goto (tgt := 33) dX1_countLanes_28 (by decide) ?_
        refine Ex_iast 8 (kn_1_1 hq0) (by decide) dX1_countLanes_33 (fun μ_2 => ?_)
        refine Ex_iinc (v := x4 + 1) (L2 := [(4, .int (x4 + 1)), (0, .ref (a0 + q0)), (1, .ref (a0 + q1)), (2, .int x2), (3, .int x3)]) dX1_countLanes_34 4 rfl rfl (by decide) rfl ?_
        refine Ex_goto (tgt := 3) dX1_countLanes_37 (by decide) ?_
        refine Ex_perm [1, 2, 3, 4, 0] rfl ?_
        exact ih (x4 + 1) μ_2
def f_X1_countLanes (F : Nat) (μ : Mem) (t : Nat) (p1 : Nat) (p2 : Int32) (p3 : Int32) : Option (Mem) := f_X1_countLanes_L3 F t p1 p2 p3 (fun x4_3 μ_4 => (f_X1_measure F μ_4 t p1 p2).bind (fun μ_6 => some μ_6)) F 0 μ
set_option maxRecDepth 100000 in
set_option maxHeartbeats 4000000 in
theorem c_X1_countLanes (a0 F : Nat) (μ : Mem) (t : Nat) (p1 : Nat) (p2 : Int32) (p3 : Int32) (hk0 : kd t = 1) (hk1 : kd p1 = 7) {μ2 : Mem} (hr : f_X1_countLanes F μ t p1 p2 p3 = some μ2) : Ct a0 yX1_countLanes cX1_countLanes 5 none 2 [.ref (a0 + t), .ref (a0 + p1), .int p2, .int p3] μ none μ2 := by
  refine Ct_of (own := RX1) (ι := (fun m => (none, m))) (o := f_X1_countLanes F μ t p1 p2 p3) (by decide +kernel) rfl (Nat.le_of_ble_eq_true rfl) ?_ hr rfl rfl
  show Ex a0 RX1 cX1_countLanes 5 none 2 none (fun m => (none, m)) 0 [(0, .ref (a0 + t)), (1, .ref (a0 + p1)), (2, .int p2), (3, .int p3)] [] μ (f_X1_countLanes F μ t p1 p2 p3)
  unfold f_X1_countLanes
  refine Ex_iconst (v := 0) dX1_countLanes_0 (by decide) ?_
  refine Ex_istore (L2 := [(4, .int 0), (0, .ref (a0 + t)), (1, .ref (a0 + p1)), (2, .int p2), (3, .int p3)]) dX1_countLanes_1 (by decide) rfl ?_
  refine Ex_perm [1, 2, 3, 4, 0] rfl ?_
  refine c_X1_countLanes_L3 a0 F t p1 p2 p3 _ hk0 hk1 (fun x4_3 μ_4 => ?_) F 0 μ
  refine Ex_aload_n dX1_countLanes_40 rfl 0 rfl ?_
  refine Ex_aload_n dX1_countLanes_41 rfl 1 rfl ?_
  refine Ex_iload_n dX1_countLanes_42 rfl 2 rfl ?_
  refine Ex_callVV (n := 2) (dp2 := 1) [.ref (a0 + p1), .int p2] cvX1_25 hk0 rfl rfl (by decide) (by decide) (Nat.le_of_ble_eq_true rfl) rfl (fun μ2 hv => c_X1_measure a0 F μ_4 t p1 p2 hk0 hk1 hv) dX1_countLanes_43 (fun μ_6 hv_7 => ?_)
  exact Ex_vret dX1_countLanes_46 rfl

def f_X1_firstLaneNearer_L2 (F : Nat) (μ : Mem) (q0 : Nat) (q1 : Nat) (x2 : Int32) (k : Int32 → Option (Int32)) : Nat → Int32 → Option (Int32)
  | 0, _ => none
  | n + 1, x3 => (if x3 < (gI μ q1 1) then if ix x3 8 = true then if ix x3 8 = true then (if x2 = (gI μ (q1 + 1) x3.toNatClampNeg) then (if x2 = (gI μ (q1 + 1) x3.toNatClampNeg) then if ix x3 8 = true then (if (gI μ (q0 + 1) x3.toNatClampNeg) = 1 then if ix (gI μ (q1 + 2) x3.toNatClampNeg) 8 = true then if ix x2 8 = true then (if (gI μ (q0 + 2) ((gI μ (q1 + 2) x3.toNatClampNeg).toNatClampNeg)) = ((gI μ (q0 + 2) x2.toNatClampNeg) - 1) then some x3 else f_X1_firstLaneNearer_L2 F μ q0 q1 x2 k n (x3 + 1)) else none else none else f_X1_firstLaneNearer_L2 F μ q0 q1 x2 k n (x3 + 1)) else none else if ix x3 8 = true then (if (gI μ (q0 + 1) x3.toNatClampNeg) = 1 then if ix (gI μ (q1 + 1) x3.toNatClampNeg) 8 = true then if ix x2 8 = true then (if (gI μ (q0 + 2) ((gI μ (q1 + 1) x3.toNatClampNeg).toNatClampNeg)) = ((gI μ (q0 + 2) x2.toNatClampNeg) - 1) then some x3 else f_X1_firstLaneNearer_L2 F μ q0 q1 x2 k n (x3 + 1)) else none else none else f_X1_firstLaneNearer_L2 F μ q0 q1 x2 k n (x3 + 1)) else none) else (if x2 = (gI μ (q1 + 2) x3.toNatClampNeg) then (if x2 = (gI μ (q1 + 1) x3.toNatClampNeg) then if ix x3 8 = true then (if (gI μ (q0 + 1) x3.toNatClampNeg) = 1 then if ix (gI μ (q1 + 2) x3.toNatClampNeg) 8 = true then if ix x2 8 = true then (if (gI μ (q0 + 2) ((gI μ (q1 + 2) x3.toNatClampNeg).toNatClampNeg)) = ((gI μ (q0 + 2) x2.toNatClampNeg) - 1) then some x3 else f_X1_firstLaneNearer_L2 F μ q0 q1 x2 k n (x3 + 1)) else none else none else f_X1_firstLaneNearer_L2 F μ q0 q1 x2 k n (x3 + 1)) else none else if ix x3 8 = true then (if (gI μ (q0 + 1) x3.toNatClampNeg) = 1 then if ix (gI μ (q1 + 1) x3.toNatClampNeg) 8 = true then if ix x2 8 = true then (if (gI μ (q0 + 2) ((gI μ (q1 + 1) x3.toNatClampNeg).toNatClampNeg)) = ((gI μ (q0 + 2) x2.toNatClampNeg) - 1) then some x3 else f_X1_firstLaneNearer_L2 F μ q0 q1 x2 k n (x3 + 1)) else none else none else f_X1_firstLaneNearer_L2 F μ q0 q1 x2 k n (x3 + 1)) else none) else (if x2 = (gI μ (q1 + 1) x3.toNatClampNeg) then f_X1_firstLaneNearer_L2 F μ q0 q1 x2 k n (x3 + 1) else f_X1_firstLaneNearer_L2 F μ q0 q1 x2 k n (x3 + 1)))) else none else none else k x3)
set_option maxRecDepth 100000 in
set_option maxHeartbeats 4000000 in
theorem c_X1_firstLaneNearer_L2 (a0 : Nat) (F : Nat) (μ : Mem) (q0 : Nat) (q1 : Nat) (x2 : Int32) (k : Int32 → Option (Int32)) (hq0 : kd q0 = 1) (hq1 : kd q1 = 7) (hk : ∀ (x3 : Int32), Ex a0 RX1 cX1_firstLaneNearer 8 (some .int) 0 none (fun v => (some (.int v), μ)) 101 [] [] μ (k x3)) : ∀ (n : Nat) (x3 : Int32), Ex a0 RX1 cX1_firstLaneNearer 8 (some .int) 0 none (fun v => (some (.int v), μ)) 2 [(0, .ref (a0 + q0)), (1, .ref (a0 + q1)), (2, .int x2), (3, .int x3)] [] μ (f_X1_firstLaneNearer_L2 F μ q0 q1 x2 k n x3) := by
  intro n
  induction n with
  | zero => intro x3; exact Ex_none
  | succ n ih =>
    intro x3
    rw [f_X1_firstLaneNearer_L2]
    refine Ex_iload_n dX1_firstLaneNearer_2 rfl 3 rfl ?_
    refine Ex_aload_n dX1_firstLaneNearer_3 rfl 1 rfl ?_
    refine Ex_get (v := .int (gI μ q1 1)) fgX1_18 hq1 (by decide) rfl dX1_firstLaneNearer_4 ?_
    refine Ex_icmp_ge (tgt := 101) dX1_firstLaneNearer_7 (by decide) ?_ ?_
    · refine Ex_perm [] rfl ?_
      exact hk x3
    · refine Ex_aload_n dX1_firstLaneNearer_10 rfl 1 rfl ?_
      refine Ex_get (v := .ref (a0 + (q1 + 1))) fgX1_41 hq1 (by decide) rfl dX1_firstLaneNearer_11 ?_
      refine Ex_iload_n dX1_firstLaneNearer_14 rfl 3 rfl ?_
      refine Ex_iald 8 (kn_7_1 hq1) (by decide) dX1_firstLaneNearer_15 ?_
      refine Ex_istore (L2 := [(4, .int (gI μ (q1 + 1) x3.toNatClampNeg)), (0, .ref (a0 + q0)), (1, .ref (a0 + q1)), (2, .int x2), (3, .int x3)]) dX1_firstLaneNearer_16 (by decide) rfl ?_
      refine Ex_aload_n dX1_firstLaneNearer_18 rfl 2 rfl ?_
      refine Ex_get (v := .ref (a0 + (q1 + 2))) fgX1_44 hq1 (by decide) rfl dX1_firstLaneNearer_19 ?_
      refine Ex_iload_n dX1_firstLaneNearer_22 rfl 4 rfl ?_
      refine Ex_iald 8 (kn_7_2 hq1) (by decide) dX1_firstLaneNearer_23 ?_
      refine Ex_istore (L2 := [(5, .int (gI μ (q1 + 2) x3.toNatClampNeg)), (4, .int (gI μ (q1 + 1) x3.toNatClampNeg)), (0, .ref (a0 + q0)), (1, .ref (a0 + q1)), (2, .int x2), (3, .int x3)]) dX1_firstLaneNearer_24 (by decide) rfl ?_
      refine Ex_iload_n dX1_firstLaneNearer_26 rfl 4 rfl ?_
      refine Ex_iload dX1_firstLaneNearer_27 1 rfl ?_
      refine Ex_icmp_eq (tgt := 38) dX1_firstLaneNearer_29 (by decide) ?_ ?_
      · refine Ex_iconst (v := 1) dX1_firstLaneNearer_38 (by decide) ?_
        refine Ex_goto (tgt := 43) dX1_firstLaneNearer_39 (by decide) ?_
        refine Ex_istore (L2 := [(6, .int 1), (5, .int (gI μ (q1 + 2) x3.toNatClampNeg)), (4, .int (gI μ (q1 + 1) x3.toNatClampNeg)), (0, .ref (a0 + q0)), (1, .ref (a0 + q1)), (2, .int x2), (3, .int x3)]) dX1_firstLaneNearer_43 (by decide) rfl ?_
        refine Ex_iload_n dX1_firstLaneNearer_45 rfl 5 rfl ?_
        refine Ex_iload dX1_firstLaneNearer_46 2 rfl ?_
        refine Ex_icmp_ne (tgt := 56) dX1_firstLaneNearer_48 (by decide) ?_ ?_
        · refine Ex_iload dX1_firstLaneNearer_56 2 rfl ?_
          refine Ex_istore (L2 := [(7, .int (gI μ (q1 + 1) x3.toNatClampNeg)), (6, .int 1), (5, .int (gI μ (q1 + 2) x3.toNatClampNeg)), (4, .int (gI μ (q1 + 1) x3.toNatClampNeg)), (0, .ref (a0 + q0)), (1, .ref (a0 + q1)), (2, .int x2), (3, .int x3)]) dX1_firstLaneNearer_58 (by decide) rfl ?_
          refine Ex_iload dX1_firstLaneNearer_60 1 rfl ?_
          refine Ex_if_eqF (tgt := 95) dX1_firstLaneNearer_62 (by decide) (by decide) ?_
          refine Ex_aload_n dX1_firstLaneNearer_65 rfl 4 rfl ?_
          refine Ex_get (v := .ref (a0 + (q0 + 1))) fgX1_9 hq0 (by decide) rfl dX1_firstLaneNearer_66 ?_
          refine Ex_iload_n dX1_firstLaneNearer_69 rfl 7 rfl ?_
          refine Ex_iald 8 (kn_1_1 hq0) (by decide) dX1_firstLaneNearer_70 ?_
          refine Ex_iconst (v := 1) dX1_firstLaneNearer_71 (by decide) ?_
          refine Ex_icmp_ne (tgt := 95) dX1_firstLaneNearer_72 (by decide) ?_ ?_
          · refine Ex_iinc (v := x3 + 1) (L2 := [(3, .int (x3 + 1)), (7, .int (gI μ (q1 + 1) x3.toNatClampNeg)), (6, .int 1), (5, .int (gI μ (q1 + 2) x3.toNatClampNeg)), (4, .int (gI μ (q1 + 1) x3.toNatClampNeg)), (0, .ref (a0 + q0)), (1, .ref (a0 + q1)), (2, .int x2)]) dX1_firstLaneNearer_95 7 rfl rfl (by decide) rfl ?_
            refine Ex_goto (tgt := 2) dX1_firstLaneNearer_98 (by decide) ?_
            refine Ex_perm [5, 6, 7, 0] rfl ?_
            exact ih (x3 + 1)
          · refine Ex_aload_n dX1_firstLaneNearer_75 rfl 4 rfl ?_
            refine Ex_get (v := .ref (a0 + (q0 + 2))) fgX1_15 hq0 (by decide) rfl dX1_firstLaneNearer_76 ?_
            refine Ex_iload dX1_firstLaneNearer_79 0 rfl ?_
            refine Ex_iald 8 (kn_1_2 hq0) (by decide) dX1_firstLaneNearer_81 ?_
            refine Ex_aload_n dX1_firstLaneNearer_82 rfl 4 rfl ?_
            refine Ex_get (v := .ref (a0 + (q0 + 2))) fgX1_15 hq0 (by decide) rfl dX1_firstLaneNearer_83 ?_
            refine Ex_iload_n dX1_firstLaneNearer_86 rfl 6 rfl ?_
            refine Ex_iald 8 (kn_1_2 hq0) (by decide) dX1_firstLaneNearer_87 ?_
            refine Ex_iconst (v := 1) dX1_firstLaneNearer_88 (by decide) ?_
            refine Ex_isub dX1_firstLaneNearer_89 ?_
            refine Ex_icmp_ne (tgt := 95) dX1_firstLaneNearer_90 (by decide) ?_ ?_
            · refine Ex_iinc (v := x3 + 1) (L2 := [(3, .int (x3 + 1)), (7, .int (gI μ (q1 + 1) x3.toNatClampNeg)), (6, .int 1), (5, .int (gI μ (q1 + 2) x3.toNatClampNeg)), (4, .int (gI μ (q1 + 1) x3.toNatClampNeg)), (0, .ref (a0 + q0)), (1, .ref (a0 + q1)), (2, .int x2)]) dX1_firstLaneNearer_95 7 rfl rfl (by decide) rfl ?_
              refine Ex_goto (tgt := 2) dX1_firstLaneNearer_98 (by decide) ?_
              refine Ex_perm [5, 6, 7, 0] rfl ?_
              exact ih (x3 + 1)
            · refine Ex_iload_n dX1_firstLaneNearer_93 rfl 7 rfl ?_
              exact Ex_iret dX1_firstLaneNearer_94 rfl (fun ty h => by cases h; rfl)
        · refine Ex_iload dX1_firstLaneNearer_51 1 rfl ?_
          refine Ex_goto (tgt := 58) dX1_firstLaneNearer_53 (by decide) ?_
          refine Ex_istore (L2 := [(7, .int (gI μ (q1 + 2) x3.toNatClampNeg)), (6, .int 1), (5, .int (gI μ (q1 + 2) x3.toNatClampNeg)), (4, .int (gI μ (q1 + 1) x3.toNatClampNeg)), (0, .ref (a0 + q0)), (1, .ref (a0 + q1)), (2, .int x2), (3, .int x3)]) dX1_firstLaneNearer_58 (by decide) rfl ?_
          refine Ex_iload dX1_firstLaneNearer_60 1 rfl ?_
          refine Ex_if_eqF (tgt := 95) dX1_firstLaneNearer_62 (by decide) (by decide) ?_
          refine Ex_aload_n dX1_firstLaneNearer_65 rfl 4 rfl ?_
          refine Ex_get (v := .ref (a0 + (q0 + 1))) fgX1_9 hq0 (by decide) rfl dX1_firstLaneNearer_66 ?_
          refine Ex_iload_n dX1_firstLaneNearer_69 rfl 7 rfl ?_
          refine Ex_iald 8 (kn_1_1 hq0) (by decide) dX1_firstLaneNearer_70 ?_
          refine Ex_iconst (v := 1) dX1_firstLaneNearer_71 (by decide) ?_
          refine Ex_icmp_ne (tgt := 95) dX1_firstLaneNearer_72 (by decide) ?_ ?_
          · refine Ex_iinc (v := x3 + 1) (L2 := [(3, .int (x3 + 1)), (7, .int (gI μ (q1 + 2) x3.toNatClampNeg)), (6, .int 1), (5, .int (gI μ (q1 + 2) x3.toNatClampNeg)), (4, .int (gI μ (q1 + 1) x3.toNatClampNeg)), (0, .ref (a0 + q0)), (1, .ref (a0 + q1)), (2, .int x2)]) dX1_firstLaneNearer_95 7 rfl rfl (by decide) rfl ?_
            refine Ex_goto (tgt := 2) dX1_firstLaneNearer_98 (by decide) ?_
            refine Ex_perm [5, 6, 7, 0] rfl ?_
            exact ih (x3 + 1)
          · refine Ex_aload_n dX1_firstLaneNearer_75 rfl 4 rfl ?_
            refine Ex_get (v := .ref (a0 + (q0 + 2))) fgX1_15 hq0 (by decide) rfl dX1_firstLaneNearer_76 ?_
            refine Ex_iload dX1_firstLaneNearer_79 0 rfl ?_
            refine Ex_iald 8 (kn_1_2 hq0) (by decide) dX1_firstLaneNearer_81 ?_
            refine Ex_aload_n dX1_firstLaneNearer_82 rfl 4 rfl ?_
            refine Ex_get (v := .ref (a0 + (q0 + 2))) fgX1_15 hq0 (by decide) rfl dX1_firstLaneNearer_83 ?_
            refine Ex_iload_n dX1_firstLaneNearer_86 rfl 6 rfl ?_
            refine Ex_iald 8 (kn_1_2 hq0) (by decide) dX1_firstLaneNearer_87 ?_
            refine Ex_iconst (v := 1) dX1_firstLaneNearer_88 (by decide) ?_
            refine Ex_isub dX1_firstLaneNearer_89 ?_
            refine Ex_icmp_ne (tgt := 95) dX1_firstLaneNearer_90 (by decide) ?_ ?_
            · refine Ex_iinc (v := x3 + 1) (L2 := [(3, .int (x3 + 1)), (7, .int (gI μ (q1 + 2) x3.toNatClampNeg)), (6, .int 1), (5, .int (gI μ (q1 + 2) x3.toNatClampNeg)), (4, .int (gI μ (q1 + 1) x3.toNatClampNeg)), (0, .ref (a0 + q0)), (1, .ref (a0 + q1)), (2, .int x2)]) dX1_firstLaneNearer_95 7 rfl rfl (by decide) rfl ?_
              refine Ex_goto (tgt := 2) dX1_firstLaneNearer_98 (by decide) ?_
              refine Ex_perm [5, 6, 7, 0] rfl ?_
              exact ih (x3 + 1)
            · refine Ex_iload_n dX1_firstLaneNearer_93 rfl 7 rfl ?_
              exact Ex_iret dX1_firstLaneNearer_94 rfl (fun ty h => by cases h; rfl)
      · refine Ex_iload_n dX1_firstLaneNearer_32 rfl 4 rfl ?_
        refine Ex_iload dX1_firstLaneNearer_33 0 rfl ?_
        refine Ex_icmp_ne (tgt := 42) dX1_firstLaneNearer_35 (by decide) ?_ ?_
        · refine Ex_iconst (v := 0) dX1_firstLaneNearer_42 (by decide) ?_
          refine Ex_istore (L2 := [(6, .int 0), (5, .int (gI μ (q1 + 2) x3.toNatClampNeg)), (4, .int (gI μ (q1 + 1) x3.toNatClampNeg)), (0, .ref (a0 + q0)), (1, .ref (a0 + q1)), (2, .int x2), (3, .int x3)]) dX1_firstLaneNearer_43 (by decide) rfl ?_
          refine Ex_iload_n dX1_firstLaneNearer_45 rfl 5 rfl ?_
          refine Ex_iload dX1_firstLaneNearer_46 2 rfl ?_
          refine Ex_icmp_ne (tgt := 56) dX1_firstLaneNearer_48 (by decide) ?_ ?_
          · refine Ex_iload dX1_firstLaneNearer_56 2 rfl ?_
            refine Ex_istore (L2 := [(7, .int (gI μ (q1 + 1) x3.toNatClampNeg)), (6, .int 0), (5, .int (gI μ (q1 + 2) x3.toNatClampNeg)), (4, .int (gI μ (q1 + 1) x3.toNatClampNeg)), (0, .ref (a0 + q0)), (1, .ref (a0 + q1)), (2, .int x2), (3, .int x3)]) dX1_firstLaneNearer_58 (by decide) rfl ?_
            refine Ex_iload dX1_firstLaneNearer_60 1 rfl ?_
            refine Ex_if_eqT (tgt := 95) dX1_firstLaneNearer_62 (by decide) (by decide) ?_
            refine Ex_iinc (v := x3 + 1) (L2 := [(3, .int (x3 + 1)), (7, .int (gI μ (q1 + 1) x3.toNatClampNeg)), (6, .int 0), (5, .int (gI μ (q1 + 2) x3.toNatClampNeg)), (4, .int (gI μ (q1 + 1) x3.toNatClampNeg)), (0, .ref (a0 + q0)), (1, .ref (a0 + q1)), (2, .int x2)]) dX1_firstLaneNearer_95 7 rfl rfl (by decide) rfl ?_
            refine Ex_goto (tgt := 2) dX1_firstLaneNearer_98 (by decide) ?_
            refine Ex_perm [5, 6, 7, 0] rfl ?_
            exact ih (x3 + 1)
          · refine Ex_iload dX1_firstLaneNearer_51 1 rfl ?_
            refine Ex_goto (tgt := 58) dX1_firstLaneNearer_53 (by decide) ?_
            refine Ex_istore (L2 := [(7, .int (gI μ (q1 + 2) x3.toNatClampNeg)), (6, .int 0), (5, .int (gI μ (q1 + 2) x3.toNatClampNeg)), (4, .int (gI μ (q1 + 1) x3.toNatClampNeg)), (0, .ref (a0 + q0)), (1, .ref (a0 + q1)), (2, .int x2), (3, .int x3)]) dX1_firstLaneNearer_58 (by decide) rfl ?_
            refine Ex_iload dX1_firstLaneNearer_60 1 rfl ?_
            refine Ex_if_eqT (tgt := 95) dX1_firstLaneNearer_62 (by decide) (by decide) ?_
            refine Ex_iinc (v := x3 + 1) (L2 := [(3, .int (x3 + 1)), (7, .int (gI μ (q1 + 2) x3.toNatClampNeg)), (6, .int 0), (5, .int (gI μ (q1 + 2) x3.toNatClampNeg)), (4, .int (gI μ (q1 + 1) x3.toNatClampNeg)), (0, .ref (a0 + q0)), (1, .ref (a0 + q1)), (2, .int x2)]) dX1_firstLaneNearer_95 7 rfl rfl (by decide) rfl ?_
            refine Ex_goto (tgt := 2) dX1_firstLaneNearer_98 (by decide) ?_
            refine Ex_perm [5, 6, 7, 0] rfl ?_
            exact ih (x3 + 1)
        · refine Ex_iconst (v := 1) dX1_firstLaneNearer_38 (by decide) ?_
          refine Ex_goto (tgt := 43) dX1_firstLaneNearer_39 (by decide) ?_
          refine Ex_istore (L2 := [(6, .int 1), (5, .int (gI μ (q1 + 2) x3.toNatClampNeg)), (4, .int (gI μ (q1 + 1) x3.toNatClampNeg)), (0, .ref (a0 + q0)), (1, .ref (a0 + q1)), (2, .int x2), (3, .int x3)]) dX1_firstLaneNearer_43 (by decide) rfl ?_
          refine Ex_iload_n dX1_firstLaneNearer_45 rfl 5 rfl ?_
          refine Ex_iload dX1_firstLaneNearer_46 2 rfl ?_
          refine Ex_icmp_ne (tgt := 56) dX1_firstLaneNearer_48 (by decide) ?_ ?_
          · refine Ex_iload dX1_firstLaneNearer_56 2 rfl ?_
            refine Ex_istore (L2 := [(7, .int (gI μ (q1 + 1) x3.toNatClampNeg)), (6, .int 1), (5, .int (gI μ (q1 + 2) x3.toNatClampNeg)), (4, .int (gI μ (q1 + 1) x3.toNatClampNeg)), (0, .ref (a0 + q0)), (1, .ref (a0 + q1)), (2, .int x2), (3, .int x3)]) dX1_firstLaneNearer_58 (by decide) rfl ?_
            refine Ex_iload dX1_firstLaneNearer_60 1 rfl ?_
            refine Ex_if_eqF (tgt := 95) dX1_firstLaneNearer_62 (by decide) (by decide) ?_
            refine Ex_aload_n dX1_firstLaneNearer_65 rfl 4 rfl ?_
            refine Ex_get (v := .ref (a0 + (q0 + 1))) fgX1_9 hq0 (by decide) rfl dX1_firstLaneNearer_66 ?_
            refine Ex_iload_n dX1_firstLaneNearer_69 rfl 7 rfl ?_
            refine Ex_iald 8 (kn_1_1 hq0) (by decide) dX1_firstLaneNearer_70 ?_
            refine Ex_iconst (v := 1) dX1_firstLaneNearer_71 (by decide) ?_
            refine Ex_icmp_ne (tgt := 95) dX1_firstLaneNearer_72 (by decide) ?_ ?_
            · refine Ex_iinc (v := x3 + 1) (L2 := [(3, .int (x3 + 1)), (7, .int (gI μ (q1 + 1) x3.toNatClampNeg)), (6, .int 1), (5, .int (gI μ (q1 + 2) x3.toNatClampNeg)), (4, .int (gI μ (q1 + 1) x3.toNatClampNeg)), (0, .ref (a0 + q0)), (1, .ref (a0 + q1)), (2, .int x2)]) dX1_firstLaneNearer_95 7 rfl rfl (by decide) rfl ?_
              refine Ex_goto (tgt := 2) dX1_firstLaneNearer_98 (by decide) ?_
              refine Ex_perm [5, 6, 7, 0] rfl ?_
              exact ih (x3 + 1)
            · refine Ex_aload_n dX1_firstLaneNearer_75 rfl 4 rfl ?_
              refine Ex_get (v := .ref (a0 + (q0 + 2))) fgX1_15 hq0 (by decide) rfl dX1_firstLaneNearer_76 ?_
              refine Ex_iload dX1_firstLaneNearer_79 0 rfl ?_
              refine Ex_iald 8 (kn_1_2 hq0) (by decide) dX1_firstLaneNearer_81 ?_
              refine Ex_aload_n dX1_firstLaneNearer_82 rfl 4 rfl ?_
              refine Ex_get (v := .ref (a0 + (q0 + 2))) fgX1_15 hq0 (by decide) rfl dX1_firstLaneNearer_83 ?_
              refine Ex_iload_n dX1_firstLaneNearer_86 rfl 6 rfl ?_
              refine Ex_iald 8 (kn_1_2 hq0) (by decide) dX1_firstLaneNearer_87 ?_
              refine Ex_iconst (v := 1) dX1_firstLaneNearer_88 (by decide) ?_
              refine Ex_isub dX1_firstLaneNearer_89 ?_
              refine Ex_icmp_ne (tgt := 95) dX1_firstLaneNearer_90 (by decide) ?_ ?_
              · refine Ex_iinc (v := x3 + 1) (L2 := [(3, .int (x3 + 1)), (7, .int (gI μ (q1 + 1) x3.toNatClampNeg)), (6, .int 1), (5, .int (gI μ (q1 + 2) x3.toNatClampNeg)), (4, .int (gI μ (q1 + 1) x3.toNatClampNeg)), (0, .ref (a0 + q0)), (1, .ref (a0 + q1)), (2, .int x2)]) dX1_firstLaneNearer_95 7 rfl rfl (by decide) rfl ?_
                refine Ex_goto (tgt := 2) dX1_firstLaneNearer_98 (by decide) ?_
                refine Ex_perm [5, 6, 7, 0] rfl ?_
                exact ih (x3 + 1)
              · refine Ex_iload_n dX1_firstLaneNearer_93 rfl 7 rfl ?_
                exact Ex_iret dX1_firstLaneNearer_94 rfl (fun ty h => by cases h; rfl)
          · refine Ex_iload dX1_firstLaneNearer_51 1 rfl ?_
            refine Ex_goto (tgt := 58) dX1_firstLaneNearer_53 (by decide) ?_
            refine Ex_istore (L2 := [(7, .int (gI μ (q1 + 2) x3.toNatClampNeg)), (6, .int 1), (5, .int (gI μ (q1 + 2) x3.toNatClampNeg)), (4, .int (gI μ (q1 + 1) x3.toNatClampNeg)), (0, .ref (a0 + q0)), (1, .ref (a0 + q1)), (2, .int x2), (3, .int x3)]) dX1_firstLaneNearer_58 (by decide) rfl ?_
            refine Ex_iload dX1_firstLaneNearer_60 1 rfl ?_
            refine Ex_if_eqF (tgt := 95) dX1_firstLaneNearer_62 (by decide) (by decide) ?_
            refine Ex_aload_n dX1_firstLaneNearer_65 rfl 4 rfl ?_
            refine Ex_get (v := .ref (a0 + (q0 + 1))) fgX1_9 hq0 (by decide) rfl dX1_firstLaneNearer_66 ?_
            refine Ex_iload_n dX1_firstLaneNearer_69 rfl 7 rfl ?_
            refine Ex_iald 8 (kn_1_1 hq0) (by decide) dX1_firstLaneNearer_70 ?_
            refine Ex_iconst (v := 1) dX1_firstLaneNearer_71 (by decide) ?_
            refine Ex_icmp_ne (tgt := 95) dX1_firstLaneNearer_72 (by decide) ?_ ?_
            · refine Ex_iinc (v := x3 + 1) (L2 := [(3, .int (x3 + 1)), (7, .int (gI μ (q1 + 2) x3.toNatClampNeg)), (6, .int 1), (5, .int (gI μ (q1 + 2) x3.toNatClampNeg)), (4, .int (gI μ (q1 + 1) x3.toNatClampNeg)), (0, .ref (a0 + q0)), (1, .ref (a0 + q1)), (2, .int x2)]) dX1_firstLaneNearer_95 7 rfl rfl (by decide) rfl ?_
              refine Ex_goto (tgt := 2) dX1_firstLaneNearer_98 (by decide) ?_
              refine Ex_perm [5, 6, 7, 0] rfl ?_
              exact ih (x3 + 1)
            · refine Ex_aload_n dX1_firstLaneNearer_75 rfl 4 rfl ?_
              refine Ex_get (v := .ref (a0 + (q0 + 2))) fgX1_15 hq0 (by decide) rfl dX1_firstLaneNearer_76 ?_
              refine Ex_iload dX1_firstLaneNearer_79 0 rfl ?_
              refine Ex_iald 8 (kn_1_2 hq0) (by decide) dX1_firstLaneNearer_81 ?_
              refine Ex_aload_n dX1_firstLaneNearer_82 rfl 4 rfl ?_
              refine Ex_get (v := .ref (a0 + (q0 + 2))) fgX1_15 hq0 (by decide) rfl dX1_firstLaneNearer_83 ?_
              refine Ex_iload_n dX1_firstLaneNearer_86 rfl 6 rfl ?_
              refine Ex_iald 8 (kn_1_2 hq0) (by decide) dX1_firstLaneNearer_87 ?_
              refine Ex_iconst (v := 1) dX1_firstLaneNearer_88 (by decide) ?_
              refine Ex_isub dX1_firstLaneNearer_89 ?_
              refine Ex_icmp_ne (tgt := 95) dX1_firstLaneNearer_90 (by decide) ?_ ?_
              · refine Ex_iinc (v := x3 + 1) (L2 := [(3, .int (x3 + 1)), (7, .int (gI μ (q1 + 2) x3.toNatClampNeg)), (6, .int 1), (5, .int (gI μ (q1 + 2) x3.toNatClampNeg)), (4, .int (gI μ (q1 + 1) x3.toNatClampNeg)), (0, .ref (a0 + q0)), (1, .ref (a0 + q1)), (2, .int x2)]) dX1_firstLaneNearer_95 7 rfl rfl (by decide) rfl ?_
                refine Ex_goto (tgt := 2) dX1_firstLaneNearer_98 (by decide) ?_
                refine Ex_perm [5, 6, 7, 0] rfl ?_
                exact ih (x3 + 1)
              · refine Ex_iload_n dX1_firstLaneNearer_93 rfl 7 rfl ?_
                exact Ex_iret dX1_firstLaneNearer_94 rfl (fun ty h => by cases h; rfl)
def f_X1_firstLaneNearer (F : Nat) (μ : Mem) (t : Nat) (p1 : Nat) (p2 : Int32) : Option (Int32) := f_X1_firstLaneNearer_L2 F μ t p1 p2 (fun x3_1 => some (-9)) F 0
set_option maxRecDepth 100000 in
set_option maxHeartbeats 4000000 in
theorem c_X1_firstLaneNearer (a0 F : Nat) (μ : Mem) (t : Nat) (p1 : Nat) (p2 : Int32) (hk0 : kd t = 1) (hk1 : kd p1 = 7) {v : Int32} (hr : f_X1_firstLaneNearer F μ t p1 p2 = some v) : Ct a0 yX1_firstLaneNearer cX1_firstLaneNearer 8 (some .int) 0 [.ref (a0 + t), .ref (a0 + p1), .int p2] μ (some (.int v)) μ := by
  refine Ct_of (own := RX1) (ι := (fun v => (some (.int v), μ))) (o := f_X1_firstLaneNearer F μ t p1 p2) (by decide +kernel) rfl (Nat.le_of_ble_eq_true rfl) ?_ hr rfl ⟨_, rfl⟩
  show Ex a0 RX1 cX1_firstLaneNearer 8 (some .int) 0 none (fun v => (some (.int v), μ)) 0 [(0, .ref (a0 + t)), (1, .ref (a0 + p1)), (2, .int p2)] [] μ (f_X1_firstLaneNearer F μ t p1 p2)
  unfold f_X1_firstLaneNearer
  refine Ex_iconst (v := 0) dX1_firstLaneNearer_0 (by decide) ?_
  refine Ex_istore_n (L2 := [(3, .int 0), (0, .ref (a0 + t)), (1, .ref (a0 + p1)), (2, .int p2)]) dX1_firstLaneNearer_1 rfl (by decide) rfl ?_
  refine Ex_perm [1, 2, 3, 0] rfl ?_
  refine c_X1_firstLaneNearer_L2 a0 F μ t p1 p2 _ hk0 hk1 (fun x3_1 => ?_) F 0
  refine Ex_bipush (v := (-9)) dX1_firstLaneNearer_101 (by decide) ?_
  exact Ex_iret dX1_firstLaneNearer_103 rfl (fun ty h => by cases h; rfl)

def f_X1_from (F : Nat) (μ : Mem) (t : Nat) (p1 : Int32) : Option (Int32) := if ix p1 8 = true then (if (gI μ (t + 2) p1.toNatClampNeg) < 1000000 then if ix p1 8 = true then some (gI μ (t + 2) p1.toNatClampNeg) else none else some (-9)) else none
set_option maxRecDepth 100000 in
set_option maxHeartbeats 4000000 in
theorem c_X1_from (a0 F : Nat) (μ : Mem) (t : Nat) (p1 : Int32) (hk0 : kd t = 1) {v : Int32} (hr : f_X1_from F μ t p1 = some v) : Ct a0 yX1_from cX1_from 2 (some .int) 0 [.ref (a0 + t), .int p1] μ (some (.int v)) μ := by
  refine Ct_of (own := RX1) (ι := (fun v => (some (.int v), μ))) (o := f_X1_from F μ t p1) (by decide +kernel) rfl (Nat.le_of_ble_eq_true rfl) ?_ hr rfl ⟨_, rfl⟩
  show Ex a0 RX1 cX1_from 2 (some .int) 0 none (fun v => (some (.int v), μ)) 0 [(0, .ref (a0 + t)), (1, .int p1)] [] μ (f_X1_from F μ t p1)
  unfold f_X1_from
  refine Ex_aload_n dX1_from_0 rfl 0 rfl ?_
  refine Ex_get (v := .ref (a0 + (t + 2))) fgX1_15 hk0 (by decide) rfl dX1_from_1 ?_
  refine Ex_iload_n dX1_from_4 rfl 1 rfl ?_
  refine Ex_iald 8 (kn_1_2 hk0) (by decide) dX1_from_5 ?_
  refine Ex_ldc (v := 1000000) dX1_from_6 cnX1_24 ?_
  refine Ex_icmp_lt (tgt := 16) dX1_from_8 (by decide) ?_ ?_
  · refine Ex_aload_n dX1_from_16 rfl 0 rfl ?_
    refine Ex_get (v := .ref (a0 + (t + 2))) fgX1_15 hk0 (by decide) rfl dX1_from_17 ?_
    refine Ex_iload_n dX1_from_20 rfl 1 rfl ?_
    refine Ex_iald 8 (kn_1_2 hk0) (by decide) dX1_from_21 ?_
    exact Ex_iret dX1_from_22 rfl (fun ty h => by cases h; rfl)
  · refine Ex_bipush (v := (-9)) dX1_from_11 (by decide) ?_
    refine Ex_goto (tgt := 22) dX1_from_13 (by decide) ?_
    exact Ex_iret dX1_from_22 rfl (fun ty h => by cases h; rfl)

def f_X1_laneOfWay_L10 (F : Nat) (μ : Mem) (q0 : Nat) (q1 : Nat) (x3 : Int32) (k : Int32 → Int32 → Int32 → Option (Int32)) : Nat → Int32 → Int32 → Int32 → Option (Int32)
  | 0, _, _, _ => none
  | n + 1, x4, x5, x6 => (if x3 < x6 then k x4 x5 x6 else (if x6 < (gI μ q1 0) then (f_X1_firstLaneNearer F μ q0 q1 x4).bind (fun v_1 => (if v_1 = (-9) then some (-9) else if ix v_1 8 = true then (if x4 = (gI μ (q1 + 1) v_1.toNatClampNeg) then if ix v_1 8 = true then lt (gI μ (q1 + 2) v_1.toNatClampNeg) (fun x4_5 => f_X1_laneOfWay_L10 F μ q0 q1 x3 k n x4_5 v_1 (x6 + 1)) else none else if ix v_1 8 = true then lt (gI μ (q1 + 1) v_1.toNatClampNeg) (fun x4_4 => f_X1_laneOfWay_L10 F μ q0 q1 x3 k n x4_4 v_1 (x6 + 1)) else none) else none)) else k x4 x5 x6))
set_option maxRecDepth 100000 in
set_option maxHeartbeats 4000000 in
theorem c_X1_laneOfWay_L10 (a0 : Nat) (F : Nat) (μ : Mem) (q0 : Nat) (q1 : Nat) (x3 : Int32) (k : Int32 → Int32 → Int32 → Option (Int32)) (hq0 : kd q0 = 1) (hq1 : kd q1 = 7) (hk : ∀ (x4 : Int32) (x5 : Int32) (x6 : Int32), Ex a0 RX1 cX1_laneOfWay 7 (some .int) 1 none (fun v => (some (.int v), μ)) 81 [(5, .int x5)] [] μ (k x4 x5 x6)) : ∀ (n : Nat) (x4 : Int32) (x5 : Int32) (x6 : Int32), Ex a0 RX1 cX1_laneOfWay 7 (some .int) 1 none (fun v => (some (.int v), μ)) 10 [(0, .ref (a0 + q0)), (1, .ref (a0 + q1)), (3, .int x3), (4, .int x4), (5, .int x5), (6, .int x6)] [] μ (f_X1_laneOfWay_L10 F μ q0 q1 x3 k n x4 x5 x6) := by
  intro n
  induction n with
  | zero => intro x4 x5 x6; exact Ex_none
  | succ n ih =>
    intro x4 x5 x6
    rw [f_X1_laneOfWay_L10]
    refine Ex_iload dX1_laneOfWay_10 5 rfl ?_
    refine Ex_iload_n dX1_laneOfWay_12 rfl 2 rfl ?_
    refine Ex_icmp_gt (tgt := 81) dX1_laneOfWay_13 (by decide) ?_ ?_
    · refine Ex_perm [4] rfl ?_
      exact hk x4 x5 x6
    · refine Ex_iload dX1_laneOfWay_16 5 rfl ?_
      refine Ex_aload_n dX1_laneOfWay_18 rfl 1 rfl ?_
      refine Ex_get (v := .int (gI μ q1 0)) fgX1_38 hq1 (by decide) rfl dX1_laneOfWay_19 ?_
      refine Ex_icmp_ge (tgt := 81) dX1_laneOfWay_22 (by decide) ?_ ?_
      · refine Ex_perm [4] rfl ?_
        exact hk x4 x5 x6
      · refine Ex_aload_n dX1_laneOfWay_25 rfl 0 rfl ?_
        refine Ex_aload_n dX1_laneOfWay_26 rfl 1 rfl ?_
        refine Ex_iload dX1_laneOfWay_27 3 rfl ?_
        refine Ex_callVR (n := 2) (dp2 := 0) [.ref (a0 + q1), .int x4] cvX1_50 hq0 rfl rfl (by decide) (by decide) (Nat.le_of_ble_eq_true rfl) rfl (fun v hv => c_X1_firstLaneNearer a0 F μ q0 q1 x4 hq0 hq1 hv) dX1_laneOfWay_29 (fun v_1 hv_3 => ?_)
        refine Ex_istore (L2 := [(5, .int v_1), (0, .ref (a0 + q0)), (1, .ref (a0 + q1)), (3, .int x3), (4, .int x4), (6, .int x6)]) dX1_laneOfWay_32 (by decide) rfl ?_
        refine Ex_iload dX1_laneOfWay_34 0 rfl ?_
        refine Ex_bipush (v := (-9)) dX1_laneOfWay_36 (by decide) ?_
        refine Ex_icmp_ne (tgt := 44) dX1_laneOfWay_38 (by decide) ?_ ?_
        · refine Ex_iload dX1_laneOfWay_44 4 rfl ?_
          refine Ex_aload_n dX1_laneOfWay_46 rfl 2 rfl ?_
          refine Ex_get (v := .ref (a0 + (q1 + 1))) fgX1_41 hq1 (by decide) rfl dX1_laneOfWay_47 ?_
          refine Ex_iload dX1_laneOfWay_50 0 rfl ?_
          refine Ex_iald 8 (kn_7_1 hq1) (by decide) dX1_laneOfWay_52 ?_
          refine Ex_icmp_ne (tgt := 66) dX1_laneOfWay_53 (by decide) ?_ ?_
          · refine Ex_aload_n dX1_laneOfWay_66 rfl 2 rfl ?_
            refine Ex_get (v := .ref (a0 + (q1 + 1))) fgX1_41 hq1 (by decide) rfl dX1_laneOfWay_67 ?_
            refine Ex_iload dX1_laneOfWay_70 0 rfl ?_
            refine Ex_iald 8 (kn_7_1 hq1) (by decide) dX1_laneOfWay_72 ?_
            refine Ex_top (fun x4_4 => ?_)
            refine Ex_istore (L2 := [(4, .int x4_4), (5, .int v_1), (0, .ref (a0 + q0)), (1, .ref (a0 + q1)), (3, .int x3), (6, .int x6)]) dX1_laneOfWay_73 (by decide) rfl ?_
            refine Ex_iinc (v := x6 + 1) (L2 := [(6, .int (x6 + 1)), (4, .int x4_4), (5, .int v_1), (0, .ref (a0 + q0)), (1, .ref (a0 + q1)), (3, .int x3)]) dX1_laneOfWay_75 5 rfl rfl (by decide) rfl ?_
            refine Ex_goto (tgt := 10) dX1_laneOfWay_78 (by decide) ?_
            refine Ex_perm [3, 4, 5, 1, 2, 0] rfl ?_
            exact ih x4_4 v_1 (x6 + 1)
          · refine Ex_aload_n dX1_laneOfWay_56 rfl 2 rfl ?_
            refine Ex_get (v := .ref (a0 + (q1 + 2))) fgX1_44 hq1 (by decide) rfl dX1_laneOfWay_57 ?_
            refine Ex_iload dX1_laneOfWay_60 0 rfl ?_
            refine Ex_iald 8 (kn_7_2 hq1) (by decide) dX1_laneOfWay_62 ?_
            refine Ex_goto (tgt := 73) dX1_laneOfWay_63 (by decide) ?_
            refine Ex_top (fun x4_5 => ?_)
            refine Ex_istore (L2 := [(4, .int x4_5), (5, .int v_1), (0, .ref (a0 + q0)), (1, .ref (a0 + q1)), (3, .int x3), (6, .int x6)]) dX1_laneOfWay_73 (by decide) rfl ?_
            refine Ex_iinc (v := x6 + 1) (L2 := [(6, .int (x6 + 1)), (4, .int x4_5), (5, .int v_1), (0, .ref (a0 + q0)), (1, .ref (a0 + q1)), (3, .int x3)]) dX1_laneOfWay_75 5 rfl rfl (by decide) rfl ?_
            refine Ex_goto (tgt := 10) dX1_laneOfWay_78 (by decide) ?_
            refine Ex_perm [3, 4, 5, 1, 2, 0] rfl ?_
            exact ih x4_5 v_1 (x6 + 1)
        · refine Ex_bipush (v := (-9)) dX1_laneOfWay_41 (by decide) ?_
          exact Ex_iret dX1_laneOfWay_43 rfl (fun ty h => by cases h; rfl)
def f_X1_laneOfWay (F : Nat) (μ : Mem) (t : Nat) (p1 : Nat) (p2 : Int32) (p3 : Int32) : Option (Int32) := f_X1_laneOfWay_L10 F μ t p1 p3 (fun x4_6 x5_7 x6_8 => some x5_7) F p2 (-9) 0
set_option maxRecDepth 100000 in
set_option maxHeartbeats 4000000 in
theorem c_X1_laneOfWay (a0 F : Nat) (μ : Mem) (t : Nat) (p1 : Nat) (p2 : Int32) (p3 : Int32) (hk0 : kd t = 1) (hk1 : kd p1 = 7) {v : Int32} (hr : f_X1_laneOfWay F μ t p1 p2 p3 = some v) : Ct a0 yX1_laneOfWay cX1_laneOfWay 7 (some .int) 1 [.ref (a0 + t), .ref (a0 + p1), .int p2, .int p3] μ (some (.int v)) μ := by
  refine Ct_of (own := RX1) (ι := (fun v => (some (.int v), μ))) (o := f_X1_laneOfWay F μ t p1 p2 p3) (by decide +kernel) rfl (Nat.le_of_ble_eq_true rfl) ?_ hr rfl ⟨_, rfl⟩
  show Ex a0 RX1 cX1_laneOfWay 7 (some .int) 1 none (fun v => (some (.int v), μ)) 0 [(0, .ref (a0 + t)), (1, .ref (a0 + p1)), (2, .int p2), (3, .int p3)] [] μ (f_X1_laneOfWay F μ t p1 p2 p3)
  unfold f_X1_laneOfWay
  refine Ex_iload_n dX1_laneOfWay_0 rfl 2 rfl ?_
  refine Ex_istore (L2 := [(4, .int p2), (0, .ref (a0 + t)), (1, .ref (a0 + p1)), (2, .int p2), (3, .int p3)]) dX1_laneOfWay_1 (by decide) rfl ?_
  refine Ex_bipush (v := (-9)) dX1_laneOfWay_3 (by decide) ?_
  refine Ex_istore (L2 := [(5, .int (-9)), (4, .int p2), (0, .ref (a0 + t)), (1, .ref (a0 + p1)), (2, .int p2), (3, .int p3)]) dX1_laneOfWay_5 (by decide) rfl ?_
  refine Ex_iconst (v := 0) dX1_laneOfWay_7 (by decide) ?_
  refine Ex_istore (L2 := [(6, .int 0), (5, .int (-9)), (4, .int p2), (0, .ref (a0 + t)), (1, .ref (a0 + p1)), (2, .int p2), (3, .int p3)]) dX1_laneOfWay_8 (by decide) rfl ?_
  refine Ex_perm [3, 4, 6, 2, 1, 0] rfl ?_
  refine c_X1_laneOfWay_L10 a0 F μ t p1 p3 _ hk0 hk1 (fun x4_6 x5_7 x6_8 => ?_) F p2 (-9) 0
  refine Ex_iload dX1_laneOfWay_81 0 rfl ?_
  exact Ex_iret dX1_laneOfWay_83 rfl (fun ty h => by cases h; rfl)

def f_X2_add (F : Nat) (μ : Mem) (t : Nat) (p1 : Int32) (p2 : Int32) : Option (Int32 × Mem) := (if (gI μ t 2) < 6 then if ix (gI μ t 2) 6 = true then lt (sI μ (t + 1) ((gI μ t 2).toNatClampNeg) p1) (fun μ_1 => if ix (gI μ_1 t 2) 6 = true then lt (sI μ_1 (t + 2) ((gI μ_1 t 2).toNatClampNeg) p2) (fun μ_2 => lt (sI μ_2 t 2 ((gI μ_2 t 2) + 1)) (fun μ_3 => some (1, μ_3))) else none) else none else some (0, μ))
set_option maxRecDepth 100000 in
set_option maxHeartbeats 4000000 in
theorem c_X2_add (a0 F : Nat) (μ : Mem) (t : Nat) (p1 : Int32) (p2 : Int32) (hk0 : kd t = 2) {v : Int32} {μ2 : Mem} (hr : f_X2_add F μ t p1 p2 = some (v, μ2)) : Ct a0 yX2_add cX2_add 3 (some .boolean) 0 [.ref (a0 + t), .int p1, .int p2] μ (some (.int v)) μ2 := by
  refine Ct_of (own := RX2) (ι := (fun x => (some (.int x.1), x.2))) (o := f_X2_add F μ t p1 p2) (by decide +kernel) rfl (Nat.le_of_ble_eq_true rfl) ?_ hr rfl ⟨_, rfl⟩
  show Ex a0 RX2 cX2_add 3 (some .boolean) 0 none (fun x => (some (.int x.1), x.2)) 0 [(0, .ref (a0 + t)), (1, .int p1), (2, .int p2)] [] μ (f_X2_add F μ t p1 p2)
  unfold f_X2_add
  refine Ex_aload_n dX2_add_0 rfl 0 rfl ?_
  refine Ex_get (v := .int (gI μ t 2)) fgX2_18 hk0 (by decide) rfl dX2_add_1 ?_
  refine Ex_bipush (v := 6) dX2_add_4 (by decide) ?_
  refine Ex_icmp_lt (tgt := 11) dX2_add_6 (by decide) ?_ ?_
  · refine Ex_aload_n dX2_add_11 rfl 0 rfl ?_
    refine Ex_get (v := .ref (a0 + (t + 1))) fgX2_9 hk0 (by decide) rfl dX2_add_12 ?_
    refine Ex_aload_n dX2_add_15 rfl 0 rfl ?_
    refine Ex_get (v := .int (gI μ t 2)) fgX2_18 hk0 (by decide) rfl dX2_add_16 ?_
    refine Ex_iload_n dX2_add_19 rfl 1 rfl ?_
    refine Ex_iast 6 (kn_2_1 hk0) (by decide) dX2_add_20 (fun μ_1 => ?_)
    refine Ex_aload_n dX2_add_21 rfl 0 rfl ?_
    refine Ex_get (v := .ref (a0 + (t + 2))) fgX2_15 hk0 (by decide) rfl dX2_add_22 ?_
    refine Ex_aload_n dX2_add_25 rfl 0 rfl ?_
    refine Ex_get (v := .int (gI μ_1 t 2)) fgX2_18 hk0 (by decide) rfl dX2_add_26 ?_
    refine Ex_iload_n dX2_add_29 rfl 2 rfl ?_
    refine Ex_iast 6 (kn_2_2 hk0) (by decide) dX2_add_30 (fun μ_2 => ?_)
    refine Ex_aload_n dX2_add_31 rfl 0 rfl ?_
    refine Ex_dup dX2_add_32 rfl ?_
    refine Ex_get (v := .int (gI μ_2 t 2)) fgX2_18 hk0 (by decide) rfl dX2_add_33 ?_
    refine Ex_iconst (v := 1) dX2_add_36 (by decide) ?_
    refine Ex_iadd dX2_add_37 ?_
    refine Ex_putI fgX2_18 fp2_2 hk0 (by decide) rfl rfl (Nat.le_of_ble_eq_true rfl) (fs2_2 a0 μ_2 t ((gI μ_2 t 2) + 1)) dX2_add_38 (fun μ_3 => ?_)
    refine Ex_iconst (v := 1) dX2_add_41 (by decide) ?_
    exact Ex_iret dX2_add_42 rfl (fun ty h => by cases h; rfl)
  · refine Ex_iconst (v := 0) dX2_add_9 (by decide) ?_
    exact Ex_iret dX2_add_10 rfl (fun ty h => by cases h; rfl)

def f_X2_allow_L3 (F : Nat) (μ : Mem) (q0 : Nat) (x1 : Int32) (x2 : Int32) (x3 : Int32) (k : Int32 → Option (Int32)) : Nat → Int32 → Option (Int32)
  | 0, _ => none
  | n + 1, x4 => (if x4 < (gI μ q0 2) then if ix x4 6 = true then (if (gI μ (q0 + 1) x4.toNatClampNeg) = x1 then if ix x4 6 = true then (if x3 < (iabs ((gI μ (q0 + 2) x4.toNatClampNeg) - x2)) then some 0 else f_X2_allow_L3 F μ q0 x1 x2 x3 k n (x4 + 1)) else none else f_X2_allow_L3 F μ q0 x1 x2 x3 k n (x4 + 1)) else none else k x4)
set_option maxRecDepth 100000 in
set_option maxHeartbeats 4000000 in
theorem c_X2_allow_L3 (a0 : Nat) (F : Nat) (μ : Mem) (q0 : Nat) (x1 : Int32) (x2 : Int32) (x3 : Int32) (k : Int32 → Option (Int32)) (hq0 : kd q0 = 2) (hk : ∀ (x4 : Int32), Ex a0 RX2 cX2_allow 5 (some .boolean) 1 none (fun v => (some (.int v), μ)) 47 [] [] μ (k x4)) : ∀ (n : Nat) (x4 : Int32), Ex a0 RX2 cX2_allow 5 (some .boolean) 1 none (fun v => (some (.int v), μ)) 3 [(0, .ref (a0 + q0)), (1, .int x1), (2, .int x2), (3, .int x3), (4, .int x4)] [] μ (f_X2_allow_L3 F μ q0 x1 x2 x3 k n x4) := by
  intro n
  induction n with
  | zero => intro x4; exact Ex_none
  | succ n ih =>
    intro x4
    rw [f_X2_allow_L3]
    refine Ex_iload dX2_allow_3 4 rfl ?_
    refine Ex_aload_n dX2_allow_5 rfl 0 rfl ?_
    refine Ex_get (v := .int (gI μ q0 2)) fgX2_18 hq0 (by decide) rfl dX2_allow_6 ?_
    refine Ex_icmp_ge (tgt := 47) dX2_allow_9 (by decide) ?_ ?_
    · refine Ex_perm [] rfl ?_
      exact hk x4
    · refine Ex_aload_n dX2_allow_12 rfl 0 rfl ?_
      refine Ex_get (v := .ref (a0 + (q0 + 1))) fgX2_9 hq0 (by decide) rfl dX2_allow_13 ?_
      refine Ex_iload dX2_allow_16 4 rfl ?_
      refine Ex_iald 6 (kn_2_1 hq0) (by decide) dX2_allow_18 ?_
      refine Ex_iload_n dX2_allow_19 rfl 1 rfl ?_
      refine Ex_icmp_ne (tgt := 41) dX2_allow_20 (by decide) ?_ ?_
      · refine Ex_iinc (v := x4 + 1) (L2 := [(4, .int (x4 + 1)), (0, .ref (a0 + q0)), (1, .int x1), (2, .int x2), (3, .int x3)]) dX2_allow_41 4 rfl rfl (by decide) rfl ?_
        refine Ex_goto (tgt := 3) dX2_allow_44 (by decide) ?_
        refine Ex_perm [1, 2, 3, 4, 0] rfl ?_
        exact ih (x4 + 1)
      · refine Ex_aload_n dX2_allow_23 rfl 0 rfl ?_
        refine Ex_get (v := .ref (a0 + (q0 + 2))) fgX2_15 hq0 (by decide) rfl dX2_allow_24 ?_
        refine Ex_iload dX2_allow_27 4 rfl ?_
        refine Ex_iald 6 (kn_2_2 hq0) (by decide) dX2_allow_29 ?_
        refine Ex_iload_n dX2_allow_30 rfl 2 rfl ?_
        refine Ex_isub dX2_allow_31 ?_
        refine Ex_mabs cvX2_22 (by decide) (Nat.le_of_ble_eq_true rfl) dX2_allow_32 ?_
        refine Ex_iload_n dX2_allow_35 rfl 3 rfl ?_
        refine Ex_icmp_le (tgt := 41) dX2_allow_36 (by decide) ?_ ?_
        · refine Ex_iinc (v := x4 + 1) (L2 := [(4, .int (x4 + 1)), (0, .ref (a0 + q0)), (1, .int x1), (2, .int x2), (3, .int x3)]) dX2_allow_41 4 rfl rfl (by decide) rfl ?_
          refine Ex_goto (tgt := 3) dX2_allow_44 (by decide) ?_
          refine Ex_perm [1, 2, 3, 4, 0] rfl ?_
          exact ih (x4 + 1)
        · refine Ex_iconst (v := 0) dX2_allow_39 (by decide) ?_
          exact Ex_iret dX2_allow_40 rfl (fun ty h => by cases h; rfl)
def f_X2_allow (F : Nat) (μ : Mem) (t : Nat) (p1 : Int32) (p2 : Int32) (p3 : Int32) : Option (Int32) := f_X2_allow_L3 F μ t p1 p2 p3 (fun x4_1 => some 1) F 0
set_option maxRecDepth 100000 in
set_option maxHeartbeats 4000000 in
theorem c_X2_allow (a0 F : Nat) (μ : Mem) (t : Nat) (p1 : Int32) (p2 : Int32) (p3 : Int32) (hk0 : kd t = 2) {v : Int32} (hr : f_X2_allow F μ t p1 p2 p3 = some v) : Ct a0 yX2_allow cX2_allow 5 (some .boolean) 1 [.ref (a0 + t), .int p1, .int p2, .int p3] μ (some (.int v)) μ := by
  refine Ct_of (own := RX2) (ι := (fun v => (some (.int v), μ))) (o := f_X2_allow F μ t p1 p2 p3) (by decide +kernel) rfl (Nat.le_of_ble_eq_true rfl) ?_ hr rfl ⟨_, rfl⟩
  show Ex a0 RX2 cX2_allow 5 (some .boolean) 1 none (fun v => (some (.int v), μ)) 0 [(0, .ref (a0 + t)), (1, .int p1), (2, .int p2), (3, .int p3)] [] μ (f_X2_allow F μ t p1 p2 p3)
  unfold f_X2_allow
  refine Ex_iconst (v := 0) dX2_allow_0 (by decide) ?_
  refine Ex_istore (L2 := [(4, .int 0), (0, .ref (a0 + t)), (1, .int p1), (2, .int p2), (3, .int p3)]) dX2_allow_1 (by decide) rfl ?_
  refine Ex_perm [1, 2, 3, 4, 0] rfl ?_
  refine c_X2_allow_L3 a0 F μ t p1 p2 p3 _ hk0 (fun x4_1 => ?_) F 0
  refine Ex_iconst (v := 1) dX2_allow_47 (by decide) ?_
  exact Ex_iret dX2_allow_48 rfl (fun ty h => by cases h; rfl)

def f_X3_close (F : Nat) (μ : Mem) (t : Nat) (p1 : Int32) : Option (Mem) := lt (sI μ t 3 ((gI μ t 3) ||| (1 <<< (p1 &&& 31)))) (fun μ_1 => some μ_1)
set_option maxRecDepth 100000 in
set_option maxHeartbeats 4000000 in
theorem c_X3_close (a0 F : Nat) (μ : Mem) (t : Nat) (p1 : Int32) (hk0 : kd t = 3) {μ2 : Mem} (hr : f_X3_close F μ t p1 = some μ2) : Ct a0 yX3_close cX3_close 2 none 0 [.ref (a0 + t), .int p1] μ none μ2 := by
  refine Ct_of (own := RX3) (ι := (fun m => (none, m))) (o := f_X3_close F μ t p1) (by decide +kernel) rfl (Nat.le_of_ble_eq_true rfl) ?_ hr rfl rfl
  show Ex a0 RX3 cX3_close 2 none 0 none (fun m => (none, m)) 0 [(0, .ref (a0 + t)), (1, .int p1)] [] μ (f_X3_close F μ t p1)
  unfold f_X3_close
  refine Ex_aload_n dX3_close_0 rfl 0 rfl ?_
  refine Ex_dup dX3_close_1 rfl ?_
  refine Ex_get (v := .int (gI μ t 3)) fgX3_21 hk0 (by decide) rfl dX3_close_2 ?_
  refine Ex_iconst (v := 1) dX3_close_5 (by decide) ?_
  refine Ex_iload_n dX3_close_6 rfl 1 rfl ?_
  refine Ex_ishl dX3_close_7 ?_
  refine Ex_ior dX3_close_8 ?_
  refine Ex_putI fgX3_21 fp3_3 hk0 (by decide) rfl rfl (Nat.le_of_ble_eq_true rfl) (fs3_3 a0 μ t ((gI μ t 3) ||| (1 <<< (p1 &&& 31)))) dX3_close_9 (fun μ_1 => ?_)
  exact Ex_vret dX3_close_12 rfl

def f_X3_open (F : Nat) (μ : Mem) (t : Nat) (p1 : Int32) : Option (Mem) := lt (sI μ t 3 ((gI μ t 3) &&& ((1 <<< (p1 &&& 31)) ^^^ (-1)))) (fun μ_1 => some μ_1)
set_option maxRecDepth 100000 in
set_option maxHeartbeats 4000000 in
theorem c_X3_open (a0 F : Nat) (μ : Mem) (t : Nat) (p1 : Int32) (hk0 : kd t = 3) {μ2 : Mem} (hr : f_X3_open F μ t p1 = some μ2) : Ct a0 yX3_open cX3_open 2 none 0 [.ref (a0 + t), .int p1] μ none μ2 := by
  refine Ct_of (own := RX3) (ι := (fun m => (none, m))) (o := f_X3_open F μ t p1) (by decide +kernel) rfl (Nat.le_of_ble_eq_true rfl) ?_ hr rfl rfl
  show Ex a0 RX3 cX3_open 2 none 0 none (fun m => (none, m)) 0 [(0, .ref (a0 + t)), (1, .int p1)] [] μ (f_X3_open F μ t p1)
  unfold f_X3_open
  refine Ex_aload_n dX3_open_0 rfl 0 rfl ?_
  refine Ex_dup dX3_open_1 rfl ?_
  refine Ex_get (v := .int (gI μ t 3)) fgX3_21 hk0 (by decide) rfl dX3_open_2 ?_
  refine Ex_iconst (v := 1) dX3_open_5 (by decide) ?_
  refine Ex_iload_n dX3_open_6 rfl 1 rfl ?_
  refine Ex_ishl dX3_open_7 ?_
  refine Ex_iconst (v := (-1)) dX3_open_8 (by decide) ?_
  refine Ex_ixor dX3_open_9 ?_
  refine Ex_iand dX3_open_10 ?_
  refine Ex_putI fgX3_21 fp3_3 hk0 (by decide) rfl rfl (Nat.le_of_ble_eq_true rfl) (fs3_3 a0 μ t ((gI μ t 3) &&& ((1 <<< (p1 &&& 31)) ^^^ (-1)))) dX3_open_11 (fun μ_1 => ?_)
  exact Ex_vret dX3_open_14 rfl

def f_X4_endOfRun_L3 (F : Nat) (μ : Mem) (q0 : Nat) (x2 : Int32) (x3 : Int32) (k : Int32 → Option (Int32)) : Nat → Int32 → Option (Int32)
  | 0, _ => none
  | n + 1, x4 => (if x4 < (gI μ (q0 + 1) 1) then if ix x4 150 = true then (if (gI μ ((q0 + 1) + 1) x4.toNatClampNeg) < x2 then k x4 else if ix x4 150 = true then (if x3 < (gI μ ((q0 + 1) + 1) x4.toNatClampNeg) then k x4 else f_X4_endOfRun_L3 F μ q0 x2 x3 k n (x4 + 1)) else none) else none else k x4)
set_option maxRecDepth 100000 in
set_option maxHeartbeats 4000000 in
theorem c_X4_endOfRun_L3 (a0 : Nat) (F : Nat) (μ : Mem) (q0 : Nat) (x2 : Int32) (x3 : Int32) (k : Int32 → Option (Int32)) (hq0 : kd q0 = 4) (hk : ∀ (x4 : Int32), Ex a0 RX4 cX4_endOfRun 5 (some .int) 0 none (fun v => (some (.int v), μ)) 49 [(4, .int x4)] [] μ (k x4)) : ∀ (n : Nat) (x4 : Int32), Ex a0 RX4 cX4_endOfRun 5 (some .int) 0 none (fun v => (some (.int v), μ)) 3 [(0, .ref (a0 + q0)), (2, .int x2), (3, .int x3), (4, .int x4)] [] μ (f_X4_endOfRun_L3 F μ q0 x2 x3 k n x4) := by
  intro n
  induction n with
  | zero => intro x4; exact Ex_none
  | succ n ih =>
    intro x4
    rw [f_X4_endOfRun_L3]
    refine Ex_iload dX4_endOfRun_3 3 rfl ?_
    refine Ex_aload_n dX4_endOfRun_5 rfl 0 rfl ?_
    refine Ex_get (v := .ref (a0 + (q0 + 1))) fgX4_12 hq0 (by decide) rfl dX4_endOfRun_6 ?_
    refine Ex_get (v := .int (gI μ (q0 + 1) 1)) fgX4_96 (kn_4_1 hq0) (by decide) rfl dX4_endOfRun_9 ?_
    refine Ex_icmp_ge (tgt := 49) dX4_endOfRun_12 (by decide) ?_ ?_
    · refine Ex_perm [3] rfl ?_
      exact hk x4
    · refine Ex_aload_n dX4_endOfRun_15 rfl 0 rfl ?_
      refine Ex_get (v := .ref (a0 + (q0 + 1))) fgX4_12 hq0 (by decide) rfl dX4_endOfRun_16 ?_
      refine Ex_get (v := .ref (a0 + ((q0 + 1) + 1))) fgX4_99 (kn_4_1 hq0) (by decide) rfl dX4_endOfRun_19 ?_
      refine Ex_iload dX4_endOfRun_22 3 rfl ?_
      refine Ex_iald 150 (kn_5_1 (kn_4_1 hq0)) (by decide) dX4_endOfRun_24 ?_
      refine Ex_iload_n dX4_endOfRun_25 rfl 1 rfl ?_
      refine Ex_icmp_lt (tgt := 49) dX4_endOfRun_26 (by decide) ?_ ?_
      · refine Ex_perm [3] rfl ?_
        exact hk x4
      · refine Ex_aload_n dX4_endOfRun_29 rfl 0 rfl ?_
        refine Ex_get (v := .ref (a0 + (q0 + 1))) fgX4_12 hq0 (by decide) rfl dX4_endOfRun_30 ?_
        refine Ex_get (v := .ref (a0 + ((q0 + 1) + 1))) fgX4_99 (kn_4_1 hq0) (by decide) rfl dX4_endOfRun_33 ?_
        refine Ex_iload dX4_endOfRun_36 3 rfl ?_
        refine Ex_iald 150 (kn_5_1 (kn_4_1 hq0)) (by decide) dX4_endOfRun_38 ?_
        refine Ex_iload_n dX4_endOfRun_39 rfl 2 rfl ?_
        refine Ex_icmp_gt (tgt := 49) dX4_endOfRun_40 (by decide) ?_ ?_
        · refine Ex_perm [3] rfl ?_
          exact hk x4
        · refine Ex_iinc (v := x4 + 1) (L2 := [(4, .int (x4 + 1)), (0, .ref (a0 + q0)), (2, .int x2), (3, .int x3)]) dX4_endOfRun_43 3 rfl rfl (by decide) rfl ?_
          refine Ex_goto (tgt := 3) dX4_endOfRun_46 (by decide) ?_
          refine Ex_perm [1, 2, 3, 0] rfl ?_
          exact ih (x4 + 1)
def f_X4_endOfRun (F : Nat) (μ : Mem) (t : Nat) (p1 : Int32) (p2 : Int32) (p3 : Int32) : Option (Int32) := f_X4_endOfRun_L3 F μ t p2 p3 (fun x4_1 => some x4_1) F p1
set_option maxRecDepth 100000 in
set_option maxHeartbeats 4000000 in
theorem c_X4_endOfRun (a0 F : Nat) (μ : Mem) (t : Nat) (p1 : Int32) (p2 : Int32) (p3 : Int32) (hk0 : kd t = 4) {v : Int32} (hr : f_X4_endOfRun F μ t p1 p2 p3 = some v) : Ct a0 yX4_endOfRun cX4_endOfRun 5 (some .int) 0 [.ref (a0 + t), .int p1, .int p2, .int p3] μ (some (.int v)) μ := by
  refine Ct_of (own := RX4) (ι := (fun v => (some (.int v), μ))) (o := f_X4_endOfRun F μ t p1 p2 p3) (by decide +kernel) rfl (Nat.le_of_ble_eq_true rfl) ?_ hr rfl ⟨_, rfl⟩
  show Ex a0 RX4 cX4_endOfRun 5 (some .int) 0 none (fun v => (some (.int v), μ)) 0 [(0, .ref (a0 + t)), (1, .int p1), (2, .int p2), (3, .int p3)] [] μ (f_X4_endOfRun F μ t p1 p2 p3)
  unfold f_X4_endOfRun
  refine Ex_iload_n dX4_endOfRun_0 rfl 1 rfl ?_
  refine Ex_istore (L2 := [(4, .int p1), (0, .ref (a0 + t)), (1, .int p1), (2, .int p2), (3, .int p3)]) dX4_endOfRun_1 (by decide) rfl ?_
  refine Ex_perm [1, 3, 4, 0] rfl ?_
  refine c_X4_endOfRun_L3 a0 F μ t p2 p3 _ hk0 (fun x4_1 => ?_) F p1
  refine Ex_iload dX4_endOfRun_49 0 rfl ?_
  exact Ex_iret dX4_endOfRun_51 rfl (fun ty h => by cases h; rfl)

def f_X4_takeNumber_L53 (F : Nat) (q0 : Nat) (x1 : Int32) (k : Int32 → Mem → Option (Mem)) : Nat → Int32 → Mem → Option (Mem)
  | 0, _, _ => none
  | n + 1, x3, μ => (if x3 < x1 then if ix (gI μ q0 1) 150 = true then lt (sI μ q0 4 ((((gI μ q0 4) * 10) + (gI μ ((q0 + 1) + 1) ((gI μ q0 1).toNatClampNeg))) - 48)) (fun μ_3 => lt (sI μ_3 q0 1 ((gI μ_3 q0 1) + 1)) (fun μ_4 => f_X4_takeNumber_L53 F q0 x1 k n (x3 + 1) μ_4)) else none else k x3 μ)
set_option maxRecDepth 100000 in
set_option maxHeartbeats 4000000 in
theorem c_X4_takeNumber_L53 (a0 : Nat) (F : Nat) (q0 : Nat) (x1 : Int32) (k : Int32 → Mem → Option (Mem)) (hq0 : kd q0 = 4) (hk : ∀ (x3 : Int32) (μ : Mem), Ex a0 RX4 cX4_takeNumber 4 none 0 none (fun m => (none, m)) 101 [] [] μ (k x3 μ)) : ∀ (n : Nat) (x3 : Int32) (μ : Mem), Ex a0 RX4 cX4_takeNumber 4 none 0 none (fun m => (none, m)) 53 [(0, .ref (a0 + q0)), (1, .int x1), (3, .int x3)] [] μ (f_X4_takeNumber_L53 F q0 x1 k n x3 μ) := by
  intro n
  induction n with
  | zero => intro x3 μ; exact Ex_none
  | succ n ih =>
    intro x3 μ
    rw [f_X4_takeNumber_L53]
    refine Ex_iload_n dX4_takeNumber_53 rfl 2 rfl ?_
    refine Ex_iload_n dX4_takeNumber_54 rfl 1 rfl ?_
    refine Ex_icmp_ge (tgt := 101) dX4_takeNumber_55 (by decide) ?_ ?_
    · refine Ex_perm [] rfl ?_
      exact hk x3 μ
    · refine Ex_aload_n dX4_takeNumber_58 rfl 0 rfl ?_
      refine Ex_aload_n dX4_takeNumber_59 rfl 0 rfl ?_
      refine Ex_get (v := .int (gI μ q0 4)) fgX4_28 hq0 (by decide) rfl dX4_takeNumber_60 ?_
      refine Ex_bipush (v := 10) dX4_takeNumber_63 (by decide) ?_
      refine Ex_imul dX4_takeNumber_65 ?_
      refine Ex_aload_n dX4_takeNumber_66 rfl 0 rfl ?_
      refine Ex_get (v := .ref (a0 + (q0 + 1))) fgX4_12 hq0 (by decide) rfl dX4_takeNumber_67 ?_
      refine Ex_get (v := .ref (a0 + ((q0 + 1) + 1))) fgX4_99 (kn_4_1 hq0) (by decide) rfl dX4_takeNumber_70 ?_
      refine Ex_aload_n dX4_takeNumber_73 rfl 0 rfl ?_
      refine Ex_get (v := .int (gI μ q0 1)) fgX4_18 hq0 (by decide) rfl dX4_takeNumber_74 ?_
      refine Ex_iald 150 (kn_5_1 (kn_4_1 hq0)) (by decide) dX4_takeNumber_77 ?_
      refine Ex_iadd dX4_takeNumber_78 ?_
      refine Ex_bipush (v := 48) dX4_takeNumber_79 (by decide) ?_
      refine Ex_isub dX4_takeNumber_81 ?_
      refine Ex_putI fgX4_28 fp4_4 hq0 (by decide) rfl rfl (Nat.le_of_ble_eq_true rfl) (fs4_4 a0 μ q0 ((((gI μ q0 4) * 10) + (gI μ ((q0 + 1) + 1) ((gI μ q0 1).toNatClampNeg))) - 48)) dX4_takeNumber_82 (fun μ_3 => ?_)
      refine Ex_aload_n dX4_takeNumber_85 rfl 0 rfl ?_
      refine Ex_dup dX4_takeNumber_86 rfl ?_
      refine Ex_get (v := .int (gI μ_3 q0 1)) fgX4_18 hq0 (by decide) rfl dX4_takeNumber_87 ?_
      refine Ex_iconst (v := 1) dX4_takeNumber_90 (by decide) ?_
      refine Ex_iadd dX4_takeNumber_91 ?_
      refine Ex_putI fgX4_18 fp4_1 hq0 (by decide) rfl rfl (Nat.le_of_ble_eq_true rfl) (fs4_1 a0 μ_3 q0 ((gI μ_3 q0 1) + 1)) dX4_takeNumber_92 (fun μ_4 => ?_)
      refine Ex_iinc (v := x3 + 1) (L2 := [(3, .int (x3 + 1)), (0, .ref (a0 + q0)), (1, .int x1)]) dX4_takeNumber_95 2 rfl rfl (by decide) rfl ?_
      refine Ex_goto (tgt := 53) dX4_takeNumber_98 (by decide) ?_
      refine Ex_perm [1, 2, 0] rfl ?_
      exact ih (x3 + 1) μ_4
def f_X4_takeNumber (F : Nat) (μ : Mem) (t : Nat) (p1 : Int32) : Option (Mem) := (if 2 < p1 then lt (sI μ t 3 4) (fun μ_1 => lt (sI μ_1 t 4 0) (fun μ_2 => f_X4_takeNumber_L53 F t p1 (fun x3_5 μ_6 => some μ_6) F 0 μ_2)) else (if p1 = 2 then if ix (gI μ t 2) 150 = true then (if (gI μ ((t + 1) + 1) ((gI μ t 2).toNatClampNeg)) = 48 then lt (sI μ t 3 4) (fun μ_15 => lt (sI μ_15 t 4 0) (fun μ_16 => f_X4_takeNumber_L53 F t p1 (fun x3_17 μ_18 => some μ_18) F 0 μ_16)) else lt (sI μ t 3 2) (fun μ_11 => lt (sI μ_11 t 4 0) (fun μ_12 => f_X4_takeNumber_L53 F t p1 (fun x3_13 μ_14 => some μ_14) F 0 μ_12))) else none else lt (sI μ t 3 2) (fun μ_7 => lt (sI μ_7 t 4 0) (fun μ_8 => f_X4_takeNumber_L53 F t p1 (fun x3_9 μ_10 => some μ_10) F 0 μ_8))))
set_option maxRecDepth 100000 in
set_option maxHeartbeats 4000000 in
theorem c_X4_takeNumber (a0 F : Nat) (μ : Mem) (t : Nat) (p1 : Int32) (hk0 : kd t = 4) {μ2 : Mem} (hr : f_X4_takeNumber F μ t p1 = some μ2) : Ct a0 yX4_takeNumber cX4_takeNumber 4 none 0 [.ref (a0 + t), .int p1] μ none μ2 := by
  refine Ct_of (own := RX4) (ι := (fun m => (none, m))) (o := f_X4_takeNumber F μ t p1) (by decide +kernel) rfl (Nat.le_of_ble_eq_true rfl) ?_ hr rfl rfl
  show Ex a0 RX4 cX4_takeNumber 4 none 0 none (fun m => (none, m)) 0 [(0, .ref (a0 + t)), (1, .int p1)] [] μ (f_X4_takeNumber F μ t p1)
  unfold f_X4_takeNumber
  refine Ex_iload_n dX4_takeNumber_0 rfl 1 rfl ?_
  refine Ex_iconst (v := 2) dX4_takeNumber_1 (by decide) ?_
  refine Ex_icmp_gt (tgt := 27) dX4_takeNumber_2 (by decide) ?_ ?_
  · refine Ex_iconst (v := 1) dX4_takeNumber_27 (by decide) ?_
    refine Ex_goto (tgt := 32) dX4_takeNumber_28 (by decide) ?_
    refine Ex_istore_n (L2 := [(2, .int 1), (0, .ref (a0 + t)), (1, .int p1)]) dX4_takeNumber_32 rfl (by decide) rfl ?_
    refine Ex_aload_n dX4_takeNumber_33 rfl 1 rfl ?_
    refine Ex_iload_n dX4_takeNumber_34 rfl 0 rfl ?_
    refine Ex_if_eqF (tgt := 42) dX4_takeNumber_35 (by decide) (by decide) ?_
    refine Ex_iconst (v := 4) dX4_takeNumber_38 (by decide) ?_
    refine Ex_goto (tgt := 43) dX4_takeNumber_39 (by decide) ?_
    refine Ex_putI fgX4_25 fp4_3 hk0 (by decide) rfl rfl (Nat.le_of_ble_eq_true rfl) (fs4_3 a0 μ t 4) dX4_takeNumber_43 (fun μ_1 => ?_)
    refine Ex_aload_n dX4_takeNumber_46 rfl 1 rfl ?_
    refine Ex_iconst (v := 0) dX4_takeNumber_47 (by decide) ?_
    refine Ex_putI fgX4_28 fp4_4 hk0 (by decide) rfl rfl (Nat.le_of_ble_eq_true rfl) (fs4_4 a0 μ_1 t 0) dX4_takeNumber_48 (fun μ_2 => ?_)
    refine Ex_iconst (v := 0) dX4_takeNumber_51 (by decide) ?_
    refine Ex_istore_n (L2 := [(3, .int 0), (2, .int 1), (0, .ref (a0 + t)), (1, .int p1)]) dX4_takeNumber_52 rfl (by decide) rfl ?_
    refine Ex_perm [2, 3, 0] rfl ?_
    refine c_X4_takeNumber_L53 a0 F t p1 _ hk0 (fun x3_5 μ_6 => ?_) F 0 μ_2
    exact Ex_vret dX4_takeNumber_101 rfl
  · refine Ex_iload_n dX4_takeNumber_5 rfl 1 rfl ?_
    refine Ex_iconst (v := 2) dX4_takeNumber_6 (by decide) ?_
    refine Ex_icmp_ne (tgt := 31) dX4_takeNumber_7 (by decide) ?_ ?_
    · refine Ex_iconst (v := 0) dX4_takeNumber_31 (by decide) ?_
      refine Ex_istore_n (L2 := [(2, .int 0), (0, .ref (a0 + t)), (1, .int p1)]) dX4_takeNumber_32 rfl (by decide) rfl ?_
      refine Ex_aload_n dX4_takeNumber_33 rfl 1 rfl ?_
      refine Ex_iload_n dX4_takeNumber_34 rfl 0 rfl ?_
      refine Ex_if_eqT (tgt := 42) dX4_takeNumber_35 (by decide) (by decide) ?_
      refine Ex_iconst (v := 2) dX4_takeNumber_42 (by decide) ?_
      refine Ex_putI fgX4_25 fp4_3 hk0 (by decide) rfl rfl (Nat.le_of_ble_eq_true rfl) (fs4_3 a0 μ t 2) dX4_takeNumber_43 (fun μ_7 => ?_)
      refine Ex_aload_n dX4_takeNumber_46 rfl 1 rfl ?_
      refine Ex_iconst (v := 0) dX4_takeNumber_47 (by decide) ?_
      refine Ex_putI fgX4_28 fp4_4 hk0 (by decide) rfl rfl (Nat.le_of_ble_eq_true rfl) (fs4_4 a0 μ_7 t 0) dX4_takeNumber_48 (fun μ_8 => ?_)
      refine Ex_iconst (v := 0) dX4_takeNumber_51 (by decide) ?_
      refine Ex_istore_n (L2 := [(3, .int 0), (2, .int 0), (0, .ref (a0 + t)), (1, .int p1)]) dX4_takeNumber_52 rfl (by decide) rfl ?_
      refine Ex_perm [2, 3, 0] rfl ?_
      refine c_X4_takeNumber_L53 a0 F t p1 _ hk0 (fun x3_9 μ_10 => ?_) F 0 μ_8
      exact Ex_vret dX4_takeNumber_101 rfl
    · refine Ex_aload_n dX4_takeNumber_10 rfl 0 rfl ?_
      refine Ex_get (v := .ref (a0 + (t + 1))) fgX4_12 hk0 (by decide) rfl dX4_takeNumber_11 ?_
      refine Ex_get (v := .ref (a0 + ((t + 1) + 1))) fgX4_99 (kn_4_1 hk0) (by decide) rfl dX4_takeNumber_14 ?_
      refine Ex_aload_n dX4_takeNumber_17 rfl 0 rfl ?_
      refine Ex_get (v := .int (gI μ t 2)) fgX4_22 hk0 (by decide) rfl dX4_takeNumber_18 ?_
      refine Ex_iald 150 (kn_5_1 (kn_4_1 hk0)) (by decide) dX4_takeNumber_21 ?_
      refine Ex_bipush (v := 48) dX4_takeNumber_22 (by decide) ?_
      refine Ex_icmp_ne (tgt := 31) dX4_takeNumber_24 (by decide) ?_ ?_
      · refine Ex_iconst (v := 0) dX4_takeNumber_31 (by decide) ?_
        refine Ex_istore_n (L2 := [(2, .int 0), (0, .ref (a0 + t)), (1, .int p1)]) dX4_takeNumber_32 rfl (by decide) rfl ?_
        refine Ex_aload_n dX4_takeNumber_33 rfl 1 rfl ?_
        refine Ex_iload_n dX4_takeNumber_34 rfl 0 rfl ?_
        refine Ex_if_eqT (tgt := 42) dX4_takeNumber_35 (by decide) (by decide) ?_
        refine Ex_iconst (v := 2) dX4_takeNumber_42 (by decide) ?_
        refine Ex_putI fgX4_25 fp4_3 hk0 (by decide) rfl rfl (Nat.le_of_ble_eq_true rfl) (fs4_3 a0 μ t 2) dX4_takeNumber_43 (fun μ_11 => ?_)
        refine Ex_aload_n dX4_takeNumber_46 rfl 1 rfl ?_
        refine Ex_iconst (v := 0) dX4_takeNumber_47 (by decide) ?_
        refine Ex_putI fgX4_28 fp4_4 hk0 (by decide) rfl rfl (Nat.le_of_ble_eq_true rfl) (fs4_4 a0 μ_11 t 0) dX4_takeNumber_48 (fun μ_12 => ?_)
        refine Ex_iconst (v := 0) dX4_takeNumber_51 (by decide) ?_
        refine Ex_istore_n (L2 := [(3, .int 0), (2, .int 0), (0, .ref (a0 + t)), (1, .int p1)]) dX4_takeNumber_52 rfl (by decide) rfl ?_
        refine Ex_perm [2, 3, 0] rfl ?_
        refine c_X4_takeNumber_L53 a0 F t p1 _ hk0 (fun x3_13 μ_14 => ?_) F 0 μ_12
        exact Ex_vret dX4_takeNumber_101 rfl
      · refine Ex_iconst (v := 1) dX4_takeNumber_27 (by decide) ?_
        refine Ex_goto (tgt := 32) dX4_takeNumber_28 (by decide) ?_
        refine Ex_istore_n (L2 := [(2, .int 1), (0, .ref (a0 + t)), (1, .int p1)]) dX4_takeNumber_32 rfl (by decide) rfl ?_
        refine Ex_aload_n dX4_takeNumber_33 rfl 1 rfl ?_
        refine Ex_iload_n dX4_takeNumber_34 rfl 0 rfl ?_
        refine Ex_if_eqF (tgt := 42) dX4_takeNumber_35 (by decide) (by decide) ?_
        refine Ex_iconst (v := 4) dX4_takeNumber_38 (by decide) ?_
        refine Ex_goto (tgt := 43) dX4_takeNumber_39 (by decide) ?_
        refine Ex_putI fgX4_25 fp4_3 hk0 (by decide) rfl rfl (Nat.le_of_ble_eq_true rfl) (fs4_3 a0 μ t 4) dX4_takeNumber_43 (fun μ_15 => ?_)
        refine Ex_aload_n dX4_takeNumber_46 rfl 1 rfl ?_
        refine Ex_iconst (v := 0) dX4_takeNumber_47 (by decide) ?_
        refine Ex_putI fgX4_28 fp4_4 hk0 (by decide) rfl rfl (Nat.le_of_ble_eq_true rfl) (fs4_4 a0 μ_15 t 0) dX4_takeNumber_48 (fun μ_16 => ?_)
        refine Ex_iconst (v := 0) dX4_takeNumber_51 (by decide) ?_
        refine Ex_istore_n (L2 := [(3, .int 0), (2, .int 1), (0, .ref (a0 + t)), (1, .int p1)]) dX4_takeNumber_52 rfl (by decide) rfl ?_
        refine Ex_perm [2, 3, 0] rfl ?_
        refine c_X4_takeNumber_L53 a0 F t p1 _ hk0 (fun x3_17 μ_18 => ?_) F 0 μ_16
        exact Ex_vret dX4_takeNumber_101 rfl

def f_X4_takeToken (F : Nat) (μ : Mem) (t : Nat) : Option (Mem) := (f_X4_endOfRun F μ t (gI μ t 1) 32 32).bind (fun v_1 => lt (sI μ t 1 v_1) (fun μ_4 => lt (sI μ_4 t 2 (gI μ_4 t 1)) (fun μ_5 => (f_X4_endOfRun F μ_5 t (gI μ_5 t 2) 97 122).bind (fun v_6 => (f_X4_endOfRun F μ_5 t (gI μ_5 t 2) 48 57).bind (fun v_9 => (if (gI μ_5 t 2) < (gI μ_5 (t + 1) 1) then (if 0 < (v_6 - (gI μ_5 t 2)) then (if (v_6 - (gI μ_5 t 2)) = 1 then lt (sI μ_5 t 3 1) (fun μ_22 => if ix (gI μ_22 t 2) 150 = true then lt (sI μ_22 t 4 (gI μ_22 ((t + 1) + 1) ((gI μ_22 t 2).toNatClampNeg))) (fun μ_23 => lt (sI μ_23 t 1 ((gI μ_23 t 1) + (v_6 - (gI μ_5 t 2)))) (fun μ_24 => some μ_24)) else none) else lt (sI μ_5 t 3 4) (fun μ_19 => if ix (gI μ_19 t 2) 150 = true then lt (sI μ_19 t 4 (gI μ_19 ((t + 1) + 1) ((gI μ_19 t 2).toNatClampNeg))) (fun μ_20 => lt (sI μ_20 t 1 ((gI μ_20 t 1) + (v_6 - (gI μ_5 t 2)))) (fun μ_21 => some μ_21)) else none)) else (if 0 < (v_9 - (gI μ_5 t 2)) then (f_X4_takeNumber F μ_5 t (v_9 - (gI μ_5 t 2))).bind (fun μ_17 => some μ_17) else if ix (gI μ_5 t 2) 150 = true then (if (gI μ_5 ((t + 1) + 1) ((gI μ_5 t 2).toNatClampNeg)) = 59 then lt (sI μ_5 t 3 3) (fun μ_14 => lt (sI μ_14 t 1 ((gI μ_14 t 1) + 1)) (fun μ_15 => some μ_15)) else lt (sI μ_5 t 3 4) (fun μ_12 => lt (sI μ_12 t 1 ((gI μ_12 t 1) + 1)) (fun μ_13 => some μ_13))) else none)) else lt (sI μ_5 t 3 0) (fun μ_25 => some μ_25)))))))
set_option maxRecDepth 100000 in
set_option maxHeartbeats 4000000 in
theorem c_X4_takeToken (a0 F : Nat) (μ : Mem) (t : Nat) (hk0 : kd t = 4) {μ2 : Mem} (hr : f_X4_takeToken F μ t = some μ2) : Ct a0 yX4_takeToken cX4_takeToken 3 none 1 [.ref (a0 + t)] μ none μ2 := by
  refine Ct_of (own := RX4) (ι := (fun m => (none, m))) (o := f_X4_takeToken F μ t) (by decide +kernel) rfl (Nat.le_of_ble_eq_true rfl) ?_ hr rfl rfl
  show Ex a0 RX4 cX4_takeToken 3 none 1 none (fun m => (none, m)) 0 [(0, .ref (a0 + t))] [] μ (f_X4_takeToken F μ t)
  unfold f_X4_takeToken
  refine Ex_aload_n dX4_takeToken_0 rfl 0 rfl ?_
  refine Ex_aload_n dX4_takeToken_1 rfl 0 rfl ?_
  refine Ex_aload_n dX4_takeToken_2 rfl 0 rfl ?_
  refine Ex_get (v := .int (gI μ t 1)) fgX4_18 hk0 (by decide) rfl dX4_takeToken_3 ?_
  refine Ex_bipush (v := 32) dX4_takeToken_6 (by decide) ?_
  refine Ex_bipush (v := 32) dX4_takeToken_8 (by decide) ?_
  refine Ex_callVR (n := 3) (dp2 := 0) [.int (gI μ t 1), .int 32, .int 32] cvX4_92 hk0 rfl rfl (by decide) (by decide) (Nat.le_of_ble_eq_true rfl) rfl (fun v hv => c_X4_endOfRun a0 F μ t (gI μ t 1) 32 32 hk0 hv) dX4_takeToken_10 (fun v_1 hv_3 => ?_)
  refine Ex_putI fgX4_18 fp4_1 hk0 (by decide) rfl rfl (Nat.le_of_ble_eq_true rfl) (fs4_1 a0 μ t v_1) dX4_takeToken_13 (fun μ_4 => ?_)
  refine Ex_aload_n dX4_takeToken_16 rfl 0 rfl ?_
  refine Ex_aload_n dX4_takeToken_17 rfl 0 rfl ?_
  refine Ex_get (v := .int (gI μ_4 t 1)) fgX4_18 hk0 (by decide) rfl dX4_takeToken_18 ?_
  refine Ex_putI fgX4_22 fp4_2 hk0 (by decide) rfl rfl (Nat.le_of_ble_eq_true rfl) (fs4_2 a0 μ_4 t (gI μ_4 t 1)) dX4_takeToken_21 (fun μ_5 => ?_)
  refine Ex_aload_n dX4_takeToken_24 rfl 0 rfl ?_
  refine Ex_aload_n dX4_takeToken_25 rfl 0 rfl ?_
  refine Ex_get (v := .int (gI μ_5 t 2)) fgX4_22 hk0 (by decide) rfl dX4_takeToken_26 ?_
  refine Ex_bipush (v := 97) dX4_takeToken_29 (by decide) ?_
  refine Ex_bipush (v := 122) dX4_takeToken_31 (by decide) ?_
  refine Ex_callVR (n := 3) (dp2 := 0) [.int (gI μ_5 t 2), .int 97, .int 122] cvX4_92 hk0 rfl rfl (by decide) (by decide) (Nat.le_of_ble_eq_true rfl) rfl (fun v hv => c_X4_endOfRun a0 F μ_5 t (gI μ_5 t 2) 97 122 hk0 hv) dX4_takeToken_33 (fun v_6 hv_8 => ?_)
  refine Ex_aload_n dX4_takeToken_36 rfl 0 rfl ?_
  refine Ex_get (v := .int (gI μ_5 t 2)) fgX4_22 hk0 (by decide) rfl dX4_takeToken_37 ?_
  refine Ex_isub dX4_takeToken_40 ?_
  refine Ex_istore_n (L2 := [(1, .int (v_6 - (gI μ_5 t 2))), (0, .ref (a0 + t))]) dX4_takeToken_41 rfl (by decide) rfl ?_
  refine Ex_aload_n dX4_takeToken_42 rfl 1 rfl ?_
  refine Ex_aload_n dX4_takeToken_43 rfl 1 rfl ?_
  refine Ex_get (v := .int (gI μ_5 t 2)) fgX4_22 hk0 (by decide) rfl dX4_takeToken_44 ?_
  refine Ex_bipush (v := 48) dX4_takeToken_47 (by decide) ?_
  refine Ex_bipush (v := 57) dX4_takeToken_49 (by decide) ?_
  refine Ex_callVR (n := 3) (dp2 := 0) [.int (gI μ_5 t 2), .int 48, .int 57] cvX4_92 hk0 rfl rfl (by decide) (by decide) (Nat.le_of_ble_eq_true rfl) rfl (fun v hv => c_X4_endOfRun a0 F μ_5 t (gI μ_5 t 2) 48 57 hk0 hv) dX4_takeToken_51 (fun v_9 hv_11 => ?_)
  refine Ex_aload_n dX4_takeToken_54 rfl 1 rfl ?_
  refine Ex_get (v := .int (gI μ_5 t 2)) fgX4_22 hk0 (by decide) rfl dX4_takeToken_55 ?_
  refine Ex_isub dX4_takeToken_58 ?_
  refine Ex_istore_n (L2 := [(2, .int (v_9 - (gI μ_5 t 2))), (1, .int (v_6 - (gI μ_5 t 2))), (0, .ref (a0 + t))]) dX4_takeToken_59 rfl (by decide) rfl ?_
  refine Ex_aload_n dX4_takeToken_60 rfl 2 rfl ?_
  refine Ex_get (v := .int (gI μ_5 t 2)) fgX4_22 hk0 (by decide) rfl dX4_takeToken_61 ?_
  refine Ex_aload_n dX4_takeToken_64 rfl 2 rfl ?_
  refine Ex_get (v := .ref (a0 + (t + 1))) fgX4_12 hk0 (by decide) rfl dX4_takeToken_65 ?_
  refine Ex_get (v := .int (gI μ_5 (t + 1) 1)) fgX4_96 (kn_4_1 hk0) (by decide) rfl dX4_takeToken_68 ?_
  refine Ex_icmp_lt (tgt := 82) dX4_takeToken_71 (by decide) ?_ ?_
  · refine Ex_iload_n dX4_takeToken_82 rfl 1 rfl ?_
    refine Ex_if_le (tgt := 129) dX4_takeToken_83 (by decide) ?_ ?_
    · refine Ex_iload_n dX4_takeToken_129 rfl 0 rfl ?_
      refine Ex_if_le (tgt := 141) dX4_takeToken_130 (by decide) ?_ ?_
      · refine Ex_aload_n dX4_takeToken_141 rfl 2 rfl ?_
        refine Ex_aload_n dX4_takeToken_142 rfl 2 rfl ?_
        refine Ex_get (v := .ref (a0 + (t + 1))) fgX4_12 hk0 (by decide) rfl dX4_takeToken_143 ?_
        refine Ex_get (v := .ref (a0 + ((t + 1) + 1))) fgX4_99 (kn_4_1 hk0) (by decide) rfl dX4_takeToken_146 ?_
        refine Ex_aload_n dX4_takeToken_149 rfl 2 rfl ?_
        refine Ex_get (v := .int (gI μ_5 t 2)) fgX4_22 hk0 (by decide) rfl dX4_takeToken_150 ?_
        refine Ex_iald 150 (kn_5_1 (kn_4_1 hk0)) (by decide) dX4_takeToken_153 ?_
        refine Ex_bipush (v := 59) dX4_takeToken_154 (by decide) ?_
        refine Ex_icmp_ne (tgt := 163) dX4_takeToken_156 (by decide) ?_ ?_
        · refine Ex_iconst (v := 4) dX4_takeToken_163 (by decide) ?_
          refine Ex_putI fgX4_25 fp4_3 hk0 (by decide) rfl rfl (Nat.le_of_ble_eq_true rfl) (fs4_3 a0 μ_5 t 4) dX4_takeToken_164 (fun μ_12 => ?_)
          refine Ex_aload_n dX4_takeToken_167 rfl 2 rfl ?_
          refine Ex_dup dX4_takeToken_168 rfl ?_
          refine Ex_get (v := .int (gI μ_12 t 1)) fgX4_18 hk0 (by decide) rfl dX4_takeToken_169 ?_
          refine Ex_iconst (v := 1) dX4_takeToken_172 (by decide) ?_
          refine Ex_iadd dX4_takeToken_173 ?_
          refine Ex_putI fgX4_18 fp4_1 hk0 (by decide) rfl rfl (Nat.le_of_ble_eq_true rfl) (fs4_1 a0 μ_12 t ((gI μ_12 t 1) + 1)) dX4_takeToken_174 (fun μ_13 => ?_)
          exact Ex_vret dX4_takeToken_177 rfl
        · refine Ex_iconst (v := 3) dX4_takeToken_159 (by decide) ?_
          refine Ex_goto (tgt := 164) dX4_takeToken_160 (by decide) ?_
          refine Ex_putI fgX4_25 fp4_3 hk0 (by decide) rfl rfl (Nat.le_of_ble_eq_true rfl) (fs4_3 a0 μ_5 t 3) dX4_takeToken_164 (fun μ_14 => ?_)
          refine Ex_aload_n dX4_takeToken_167 rfl 2 rfl ?_
          refine Ex_dup dX4_takeToken_168 rfl ?_
          refine Ex_get (v := .int (gI μ_14 t 1)) fgX4_18 hk0 (by decide) rfl dX4_takeToken_169 ?_
          refine Ex_iconst (v := 1) dX4_takeToken_172 (by decide) ?_
          refine Ex_iadd dX4_takeToken_173 ?_
          refine Ex_putI fgX4_18 fp4_1 hk0 (by decide) rfl rfl (Nat.le_of_ble_eq_true rfl) (fs4_1 a0 μ_14 t ((gI μ_14 t 1) + 1)) dX4_takeToken_174 (fun μ_15 => ?_)
          exact Ex_vret dX4_takeToken_177 rfl
      · refine Ex_aload_n dX4_takeToken_133 rfl 2 rfl ?_
        refine Ex_iload_n dX4_takeToken_134 rfl 0 rfl ?_
        refine Ex_callVV (n := 1) (dp2 := 0) [.int (v_9 - (gI μ_5 t 2))] cvX4_103 hk0 rfl rfl (by decide) (by decide) (Nat.le_of_ble_eq_true rfl) rfl (fun μ2 hv => c_X4_takeNumber a0 F μ_5 t (v_9 - (gI μ_5 t 2)) hk0 hv) dX4_takeToken_135 (fun μ_17 hv_18 => ?_)
        refine Ex_goto (tgt := 177) dX4_takeToken_138 (by decide) ?_
        exact Ex_vret dX4_takeToken_177 rfl
    · refine Ex_aload_n dX4_takeToken_86 rfl 2 rfl ?_
      refine Ex_iload_n dX4_takeToken_87 rfl 1 rfl ?_
      refine Ex_iconst (v := 1) dX4_takeToken_88 (by decide) ?_
      refine Ex_icmp_ne (tgt := 96) dX4_takeToken_89 (by decide) ?_ ?_
      · refine Ex_iconst (v := 4) dX4_takeToken_96 (by decide) ?_
        refine Ex_putI fgX4_25 fp4_3 hk0 (by decide) rfl rfl (Nat.le_of_ble_eq_true rfl) (fs4_3 a0 μ_5 t 4) dX4_takeToken_97 (fun μ_19 => ?_)
        refine Ex_aload_n dX4_takeToken_100 rfl 2 rfl ?_
        refine Ex_aload_n dX4_takeToken_101 rfl 2 rfl ?_
        refine Ex_get (v := .ref (a0 + (t + 1))) fgX4_12 hk0 (by decide) rfl dX4_takeToken_102 ?_
        refine Ex_get (v := .ref (a0 + ((t + 1) + 1))) fgX4_99 (kn_4_1 hk0) (by decide) rfl dX4_takeToken_105 ?_
        refine Ex_aload_n dX4_takeToken_108 rfl 2 rfl ?_
        refine Ex_get (v := .int (gI μ_19 t 2)) fgX4_22 hk0 (by decide) rfl dX4_takeToken_109 ?_
        refine Ex_iald 150 (kn_5_1 (kn_4_1 hk0)) (by decide) dX4_takeToken_112 ?_
        refine Ex_putI fgX4_28 fp4_4 hk0 (by decide) rfl rfl (Nat.le_of_ble_eq_true rfl) (fs4_4 a0 μ_19 t (gI μ_19 ((t + 1) + 1) ((gI μ_19 t 2).toNatClampNeg))) dX4_takeToken_113 (fun μ_20 => ?_)
        refine Ex_aload_n dX4_takeToken_116 rfl 2 rfl ?_
        refine Ex_dup dX4_takeToken_117 rfl ?_
        refine Ex_get (v := .int (gI μ_20 t 1)) fgX4_18 hk0 (by decide) rfl dX4_takeToken_118 ?_
        refine Ex_iload_n dX4_takeToken_121 rfl 1 rfl ?_
        refine Ex_iadd dX4_takeToken_122 ?_
        refine Ex_putI fgX4_18 fp4_1 hk0 (by decide) rfl rfl (Nat.le_of_ble_eq_true rfl) (fs4_1 a0 μ_20 t ((gI μ_20 t 1) + (v_6 - (gI μ_5 t 2)))) dX4_takeToken_123 (fun μ_21 => ?_)
        refine Ex_goto (tgt := 177) dX4_takeToken_126 (by decide) ?_
        exact Ex_vret dX4_takeToken_177 rfl
      · refine Ex_iconst (v := 1) dX4_takeToken_92 (by decide) ?_
        refine Ex_goto (tgt := 97) dX4_takeToken_93 (by decide) ?_
        refine Ex_putI fgX4_25 fp4_3 hk0 (by decide) rfl rfl (Nat.le_of_ble_eq_true rfl) (fs4_3 a0 μ_5 t 1) dX4_takeToken_97 (fun μ_22 => ?_)
        refine Ex_aload_n dX4_takeToken_100 rfl 2 rfl ?_
        refine Ex_aload_n dX4_takeToken_101 rfl 2 rfl ?_
        refine Ex_get (v := .ref (a0 + (t + 1))) fgX4_12 hk0 (by decide) rfl dX4_takeToken_102 ?_
        refine Ex_get (v := .ref (a0 + ((t + 1) + 1))) fgX4_99 (kn_4_1 hk0) (by decide) rfl dX4_takeToken_105 ?_
        refine Ex_aload_n dX4_takeToken_108 rfl 2 rfl ?_
        refine Ex_get (v := .int (gI μ_22 t 2)) fgX4_22 hk0 (by decide) rfl dX4_takeToken_109 ?_
        refine Ex_iald 150 (kn_5_1 (kn_4_1 hk0)) (by decide) dX4_takeToken_112 ?_
        refine Ex_putI fgX4_28 fp4_4 hk0 (by decide) rfl rfl (Nat.le_of_ble_eq_true rfl) (fs4_4 a0 μ_22 t (gI μ_22 ((t + 1) + 1) ((gI μ_22 t 2).toNatClampNeg))) dX4_takeToken_113 (fun μ_23 => ?_)
        refine Ex_aload_n dX4_takeToken_116 rfl 2 rfl ?_
        refine Ex_dup dX4_takeToken_117 rfl ?_
        refine Ex_get (v := .int (gI μ_23 t 1)) fgX4_18 hk0 (by decide) rfl dX4_takeToken_118 ?_
        refine Ex_iload_n dX4_takeToken_121 rfl 1 rfl ?_
        refine Ex_iadd dX4_takeToken_122 ?_
        refine Ex_putI fgX4_18 fp4_1 hk0 (by decide) rfl rfl (Nat.le_of_ble_eq_true rfl) (fs4_1 a0 μ_23 t ((gI μ_23 t 1) + (v_6 - (gI μ_5 t 2)))) dX4_takeToken_123 (fun μ_24 => ?_)
        refine Ex_goto (tgt := 177) dX4_takeToken_126 (by decide) ?_
        exact Ex_vret dX4_takeToken_177 rfl
  · refine Ex_aload_n dX4_takeToken_74 rfl 2 rfl ?_
    refine Ex_iconst (v := 0) dX4_takeToken_75 (by decide) ?_
    refine Ex_putI fgX4_25 fp4_3 hk0 (by decide) rfl rfl (Nat.le_of_ble_eq_true rfl) (fs4_3 a0 μ_5 t 0) dX4_takeToken_76 (fun μ_25 => ?_)
    refine Ex_goto (tgt := 177) dX4_takeToken_79 (by decide) ?_
    exact Ex_vret dX4_takeToken_177 rfl

def f_X4_isNumber (F : Nat) (μ : Mem) (t : Nat) (p1 : Int32) (p2 : Int32) : Option (Int32 × Mem) := (f_X4_takeToken F μ t).bind (fun μ_2 => (if (gI μ_2 t 3) = 2 then (if (gI μ_2 t 4) < p1 then some (0, μ_2) else (if p2 < (gI μ_2 t 4) then some (0, μ_2) else some (1, μ_2))) else some (0, μ_2)))
set_option maxRecDepth 100000 in
set_option maxHeartbeats 4000000 in
theorem c_X4_isNumber (a0 F : Nat) (μ : Mem) (t : Nat) (p1 : Int32) (p2 : Int32) (hk0 : kd t = 4) {v : Int32} {μ2 : Mem} (hr : f_X4_isNumber F μ t p1 p2 = some (v, μ2)) : Ct a0 yX4_isNumber cX4_isNumber 3 (some .boolean) 2 [.ref (a0 + t), .int p1, .int p2] μ (some (.int v)) μ2 := by
  refine Ct_of (own := RX4) (ι := (fun x => (some (.int x.1), x.2))) (o := f_X4_isNumber F μ t p1 p2) (by decide +kernel) rfl (Nat.le_of_ble_eq_true rfl) ?_ hr rfl ⟨_, rfl⟩
  show Ex a0 RX4 cX4_isNumber 3 (some .boolean) 2 none (fun x => (some (.int x.1), x.2)) 0 [(0, .ref (a0 + t)), (1, .int p1), (2, .int p2)] [] μ (f_X4_isNumber F μ t p1 p2)
  unfold f_X4_isNumber
  refine Ex_aload_n dX4_isNumber_0 rfl 0 rfl ?_
  refine Ex_callVV (n := 0) (dp2 := 1) [] cvX4_43 hk0 rfl rfl (by decide) (by decide) (Nat.le_of_ble_eq_true rfl) rfl (fun μ2 hv => c_X4_takeToken a0 F μ t hk0 hv) dX4_isNumber_1 (fun μ_2 hv_3 => ?_)
  refine Ex_aload_n dX4_isNumber_4 rfl 0 rfl ?_
  refine Ex_get (v := .int (gI μ_2 t 3)) fgX4_25 hk0 (by decide) rfl dX4_isNumber_5 ?_
  refine Ex_iconst (v := 2) dX4_isNumber_8 (by decide) ?_
  refine Ex_icmp_ne (tgt := 32) dX4_isNumber_9 (by decide) ?_ ?_
  · refine Ex_iconst (v := 0) dX4_isNumber_32 (by decide) ?_
    exact Ex_iret dX4_isNumber_33 rfl (fun ty h => by cases h; rfl)
  · refine Ex_aload_n dX4_isNumber_12 rfl 0 rfl ?_
    refine Ex_get (v := .int (gI μ_2 t 4)) fgX4_28 hk0 (by decide) rfl dX4_isNumber_13 ?_
    refine Ex_iload_n dX4_isNumber_16 rfl 1 rfl ?_
    refine Ex_icmp_lt (tgt := 32) dX4_isNumber_17 (by decide) ?_ ?_
    · refine Ex_iconst (v := 0) dX4_isNumber_32 (by decide) ?_
      exact Ex_iret dX4_isNumber_33 rfl (fun ty h => by cases h; rfl)
    · refine Ex_aload_n dX4_isNumber_20 rfl 0 rfl ?_
      refine Ex_get (v := .int (gI μ_2 t 4)) fgX4_28 hk0 (by decide) rfl dX4_isNumber_21 ?_
      refine Ex_iload_n dX4_isNumber_24 rfl 2 rfl ?_
      refine Ex_icmp_gt (tgt := 32) dX4_isNumber_25 (by decide) ?_ ?_
      · refine Ex_iconst (v := 0) dX4_isNumber_32 (by decide) ?_
        exact Ex_iret dX4_isNumber_33 rfl (fun ty h => by cases h; rfl)
      · refine Ex_iconst (v := 1) dX4_isNumber_28 (by decide) ?_
        refine Ex_goto (tgt := 33) dX4_isNumber_29 (by decide) ?_
        exact Ex_iret dX4_isNumber_33 rfl (fun ty h => by cases h; rfl)

def f_X7_begin (F : Nat) (μ : Mem) (t : Nat) : Option (Mem) := lt (sI μ t 0 2) (fun μ_1 => lt (sI μ_1 t 1 0) (fun μ_2 => lt (sI μ_2 t 5 0) (fun μ_3 => lt (sI μ_3 t 8 4) (fun μ_4 => lt (sI μ_4 t 9 1) (fun μ_5 => some μ_5)))))
set_option maxRecDepth 100000 in
set_option maxHeartbeats 4000000 in
theorem c_X7_begin (a0 F : Nat) (μ : Mem) (t : Nat) (hk0 : kd t = 7) {μ2 : Mem} (hr : f_X7_begin F μ t = some μ2) : Ct a0 yX7_begin cX7_begin 1 none 0 [.ref (a0 + t)] μ none μ2 := by
  refine Ct_of (own := RX7) (ι := (fun m => (none, m))) (o := f_X7_begin F μ t) (by decide +kernel) rfl (Nat.le_of_ble_eq_true rfl) ?_ hr rfl rfl
  show Ex a0 RX7 cX7_begin 1 none 0 none (fun m => (none, m)) 0 [(0, .ref (a0 + t))] [] μ (f_X7_begin F μ t)
  unfold f_X7_begin
  refine Ex_aload_n dX7_begin_0 rfl 0 rfl ?_
  refine Ex_iconst (v := 2) dX7_begin_1 (by decide) ?_
  refine Ex_putI fgX7_9 fp7_0 hk0 (by decide) rfl rfl (Nat.le_of_ble_eq_true rfl) (fs7_0 a0 μ t 2) dX7_begin_2 (fun μ_1 => ?_)
  refine Ex_aload_n dX7_begin_5 rfl 0 rfl ?_
  refine Ex_iconst (v := 0) dX7_begin_6 (by decide) ?_
  refine Ex_putI fgX7_15 fp7_1 hk0 (by decide) rfl rfl (Nat.le_of_ble_eq_true rfl) (fs7_1 a0 μ_1 t 0) dX7_begin_7 (fun μ_2 => ?_)
  refine Ex_aload_n dX7_begin_10 rfl 0 rfl ?_
  refine Ex_iconst (v := 0) dX7_begin_11 (by decide) ?_
  refine Ex_putI fgX7_28 fp7_5 hk0 (by decide) rfl rfl (Nat.le_of_ble_eq_true rfl) (fs7_5 a0 μ_2 t 0) dX7_begin_12 (fun μ_3 => ?_)
  refine Ex_aload_n dX7_begin_15 rfl 0 rfl ?_
  refine Ex_iconst (v := 4) dX7_begin_16 (by decide) ?_
  refine Ex_putI fgX7_37 fp7_8 hk0 (by decide) rfl rfl (Nat.le_of_ble_eq_true rfl) (fs7_8 a0 μ_3 t 4) dX7_begin_17 (fun μ_4 => ?_)
  refine Ex_aload_n dX7_begin_20 rfl 0 rfl ?_
  refine Ex_iconst (v := 1) dX7_begin_21 (by decide) ?_
  refine Ex_putI fgX7_40 fp7_9 hk0 (by decide) rfl rfl (Nat.le_of_ble_eq_true rfl) (fs7_9 a0 μ_4 t 1) dX7_begin_22 (fun μ_5 => ?_)
  exact Ex_vret dX7_begin_25 rfl

def f_X4_readPlaces (F : Nat) (μ : Mem) (t : Nat) (p1 : Nat) : Option (Int32 × Mem) := bW (f_X4_isNumber F μ t 2 8) (fun v_1 μ_2 => (if v_1 = 0 then some (0, μ_2) else lt (sI μ_2 p1 0 (gI μ_2 t 4)) (fun μ_4 => some (1, μ_4))))
set_option maxRecDepth 100000 in
set_option maxHeartbeats 4000000 in
theorem c_X4_readPlaces (a0 F : Nat) (μ : Mem) (t : Nat) (p1 : Nat) (hk0 : kd t = 4) (hk1 : kd p1 = 7) {v : Int32} {μ2 : Mem} (hr : f_X4_readPlaces F μ t p1 = some (v, μ2)) : Ct a0 yX4_readPlaces cX4_readPlaces 2 (some .boolean) 3 [.ref (a0 + t), .ref (a0 + p1)] μ (some (.int v)) μ2 := by
  refine Ct_of (own := RX4) (ι := (fun x => (some (.int x.1), x.2))) (o := f_X4_readPlaces F μ t p1) (by decide +kernel) rfl (Nat.le_of_ble_eq_true rfl) ?_ hr rfl ⟨_, rfl⟩
  show Ex a0 RX4 cX4_readPlaces 2 (some .boolean) 3 none (fun x => (some (.int x.1), x.2)) 0 [(0, .ref (a0 + t)), (1, .ref (a0 + p1))] [] μ (f_X4_readPlaces F μ t p1)
  unfold f_X4_readPlaces
  refine Ex_aload_n dX4_readPlaces_0 rfl 0 rfl ?_
  refine Ex_iconst (v := 2) dX4_readPlaces_1 (by decide) ?_
  refine Ex_bipush (v := 8) dX4_readPlaces_2 (by decide) ?_
  refine Ex_callVW (n := 2) (dp2 := 2) [.int 2, .int 8] cvX4_72 hk0 rfl rfl (by decide) (by decide) (Nat.le_of_ble_eq_true rfl) rfl (fun v μ2 hv => c_X4_isNumber a0 F μ t 2 8 hk0 hv) dX4_readPlaces_4 (fun v_1 μ_2 hv_3 => ?_)
  refine Ex_if_ne (tgt := 12) dX4_readPlaces_7 (by decide) ?_ ?_
  · refine Ex_aload_n dX4_readPlaces_12 rfl 1 rfl ?_
    refine Ex_aload_n dX4_readPlaces_13 rfl 0 rfl ?_
    refine Ex_get (v := .int (gI μ_2 t 4)) fgX4_28 hk0 (by decide) rfl dX4_readPlaces_14 ?_
    refine Ex_putI fgX4_76 fp7_0 hk1 (by decide) rfl rfl (Nat.le_of_ble_eq_true rfl) (fs7_0 a0 μ_2 p1 (gI μ_2 t 4)) dX4_readPlaces_17 (fun μ_4 => ?_)
    refine Ex_iconst (v := 1) dX4_readPlaces_20 (by decide) ?_
    exact Ex_iret dX4_readPlaces_21 rfl (fun ty h => by cases h; rfl)
  · refine Ex_iconst (v := 0) dX4_readPlaces_10 (by decide) ?_
    exact Ex_iret dX4_readPlaces_11 rfl (fun ty h => by cases h; rfl)

def f_X7_addLane (F : Nat) (μ : Mem) (t : Nat) (p1 : Int32) (p2 : Int32) (p3 : Int32) : Option (Int32 × Mem) := (if (gI μ t 1) < 8 then if ix (gI μ t 1) 8 = true then lt (sI μ (t + 1) ((gI μ t 1).toNatClampNeg) p1) (fun μ_1 => if ix (gI μ_1 t 1) 8 = true then lt (sI μ_1 (t + 2) ((gI μ_1 t 1).toNatClampNeg) p2) (fun μ_2 => if ix (gI μ_2 t 1) 8 = true then lt (sI μ_2 (t + 3) ((gI μ_2 t 1).toNatClampNeg) p3) (fun μ_3 => lt (sI μ_3 t 1 ((gI μ_3 t 1) + 1)) (fun μ_4 => some (1, μ_4))) else none) else none) else none else some (0, μ))
set_option maxRecDepth 100000 in
set_option maxHeartbeats 4000000 in
theorem c_X7_addLane (a0 F : Nat) (μ : Mem) (t : Nat) (p1 : Int32) (p2 : Int32) (p3 : Int32) (hk0 : kd t = 7) {v : Int32} {μ2 : Mem} (hr : f_X7_addLane F μ t p1 p2 p3 = some (v, μ2)) : Ct a0 yX7_addLane cX7_addLane 4 (some .boolean) 0 [.ref (a0 + t), .int p1, .int p2, .int p3] μ (some (.int v)) μ2 := by
  refine Ct_of (own := RX7) (ι := (fun x => (some (.int x.1), x.2))) (o := f_X7_addLane F μ t p1 p2 p3) (by decide +kernel) rfl (Nat.le_of_ble_eq_true rfl) ?_ hr rfl ⟨_, rfl⟩
  show Ex a0 RX7 cX7_addLane 4 (some .boolean) 0 none (fun x => (some (.int x.1), x.2)) 0 [(0, .ref (a0 + t)), (1, .int p1), (2, .int p2), (3, .int p3)] [] μ (f_X7_addLane F μ t p1 p2 p3)
  unfold f_X7_addLane
  refine Ex_aload_n dX7_addLane_0 rfl 0 rfl ?_
  refine Ex_get (v := .int (gI μ t 1)) fgX7_15 hk0 (by decide) rfl dX7_addLane_1 ?_
  refine Ex_bipush (v := 8) dX7_addLane_4 (by decide) ?_
  refine Ex_icmp_lt (tgt := 11) dX7_addLane_6 (by decide) ?_ ?_
  · refine Ex_aload_n dX7_addLane_11 rfl 0 rfl ?_
    refine Ex_get (v := .ref (a0 + (t + 1))) fgX7_18 hk0 (by decide) rfl dX7_addLane_12 ?_
    refine Ex_aload_n dX7_addLane_15 rfl 0 rfl ?_
    refine Ex_get (v := .int (gI μ t 1)) fgX7_15 hk0 (by decide) rfl dX7_addLane_16 ?_
    refine Ex_iload_n dX7_addLane_19 rfl 1 rfl ?_
    refine Ex_iast 8 (kn_7_1 hk0) (by decide) dX7_addLane_20 (fun μ_1 => ?_)
    refine Ex_aload_n dX7_addLane_21 rfl 0 rfl ?_
    refine Ex_get (v := .ref (a0 + (t + 2))) fgX7_22 hk0 (by decide) rfl dX7_addLane_22 ?_
    refine Ex_aload_n dX7_addLane_25 rfl 0 rfl ?_
    refine Ex_get (v := .int (gI μ_1 t 1)) fgX7_15 hk0 (by decide) rfl dX7_addLane_26 ?_
    refine Ex_iload_n dX7_addLane_29 rfl 2 rfl ?_
    refine Ex_iast 8 (kn_7_2 hk0) (by decide) dX7_addLane_30 (fun μ_2 => ?_)
    refine Ex_aload_n dX7_addLane_31 rfl 0 rfl ?_
    refine Ex_get (v := .ref (a0 + (t + 3))) fgX7_25 hk0 (by decide) rfl dX7_addLane_32 ?_
    refine Ex_aload_n dX7_addLane_35 rfl 0 rfl ?_
    refine Ex_get (v := .int (gI μ_2 t 1)) fgX7_15 hk0 (by decide) rfl dX7_addLane_36 ?_
    refine Ex_iload_n dX7_addLane_39 rfl 3 rfl ?_
    refine Ex_iast 8 (kn_7_3 hk0) (by decide) dX7_addLane_40 (fun μ_3 => ?_)
    refine Ex_aload_n dX7_addLane_41 rfl 0 rfl ?_
    refine Ex_dup dX7_addLane_42 rfl ?_
    refine Ex_get (v := .int (gI μ_3 t 1)) fgX7_15 hk0 (by decide) rfl dX7_addLane_43 ?_
    refine Ex_iconst (v := 1) dX7_addLane_46 (by decide) ?_
    refine Ex_iadd dX7_addLane_47 ?_
    refine Ex_putI fgX7_15 fp7_1 hk0 (by decide) rfl rfl (Nat.le_of_ble_eq_true rfl) (fs7_1 a0 μ_3 t ((gI μ_3 t 1) + 1)) dX7_addLane_48 (fun μ_4 => ?_)
    refine Ex_iconst (v := 1) dX7_addLane_51 (by decide) ?_
    exact Ex_iret dX7_addLane_52 rfl (fun ty h => by cases h; rfl)
  · refine Ex_iconst (v := 0) dX7_addLane_9 (by decide) ?_
    exact Ex_iret dX7_addLane_10 rfl (fun ty h => by cases h; rfl)

def f_X4_readLane (F : Nat) (μ : Mem) (t : Nat) (p1 : Nat) : Option (Int32 × Mem) := bW (f_X4_isNumber F μ t 0 ((gI μ p1 0) - 1)) (fun v_1 μ_2 => (if v_1 = 0 then some (0, μ_2) else bW (f_X4_isNumber F μ_2 t 0 ((gI μ_2 p1 0) - 1)) (fun v_4 μ_5 => (if v_4 = 0 then some (0, μ_5) else (if (gI μ_5 t 4) = (gI μ_2 t 4) then some (0, μ_5) else bW (f_X4_isNumber F μ_5 t 1 40) (fun v_7 μ_8 => (if v_7 = 0 then some (0, μ_8) else bW (f_X7_addLane F μ_8 p1 (gI μ_2 t 4) (gI μ_5 t 4) (gI μ_8 t 4)) (fun v_10 μ_11 => (if v_10 = 0 then some (0, μ_11) else some (1, μ_11))))))))))
set_option maxRecDepth 100000 in
set_option maxHeartbeats 4000000 in
theorem c_X4_readLane (a0 F : Nat) (μ : Mem) (t : Nat) (p1 : Nat) (hk0 : kd t = 4) (hk1 : kd p1 = 7) {v : Int32} {μ2 : Mem} (hr : f_X4_readLane F μ t p1 = some (v, μ2)) : Ct a0 yX4_readLane cX4_readLane 4 (some .boolean) 3 [.ref (a0 + t), .ref (a0 + p1)] μ (some (.int v)) μ2 := by
  refine Ct_of (own := RX4) (ι := (fun x => (some (.int x.1), x.2))) (o := f_X4_readLane F μ t p1) (by decide +kernel) rfl (Nat.le_of_ble_eq_true rfl) ?_ hr rfl ⟨_, rfl⟩
  show Ex a0 RX4 cX4_readLane 4 (some .boolean) 3 none (fun x => (some (.int x.1), x.2)) 0 [(0, .ref (a0 + t)), (1, .ref (a0 + p1))] [] μ (f_X4_readLane F μ t p1)
  unfold f_X4_readLane
  refine Ex_aload_n dX4_readLane_0 rfl 0 rfl ?_
  refine Ex_iconst (v := 0) dX4_readLane_1 (by decide) ?_
  refine Ex_aload_n dX4_readLane_2 rfl 1 rfl ?_
  refine Ex_get (v := .int (gI μ p1 0)) fgX4_76 hk1 (by decide) rfl dX4_readLane_3 ?_
  refine Ex_iconst (v := 1) dX4_readLane_6 (by decide) ?_
  refine Ex_isub dX4_readLane_7 ?_
  refine Ex_callVW (n := 2) (dp2 := 2) [.int 0, .int ((gI μ p1 0) - 1)] cvX4_72 hk0 rfl rfl (by decide) (by decide) (Nat.le_of_ble_eq_true rfl) rfl (fun v μ2 hv => c_X4_isNumber a0 F μ t 0 ((gI μ p1 0) - 1) hk0 hv) dX4_readLane_8 (fun v_1 μ_2 hv_3 => ?_)
  refine Ex_if_ne (tgt := 16) dX4_readLane_11 (by decide) ?_ ?_
  · refine Ex_aload_n dX4_readLane_16 rfl 0 rfl ?_
    refine Ex_get (v := .int (gI μ_2 t 4)) fgX4_28 hk0 (by decide) rfl dX4_readLane_17 ?_
    refine Ex_istore_n (L2 := [(2, .int (gI μ_2 t 4)), (0, .ref (a0 + t)), (1, .ref (a0 + p1))]) dX4_readLane_20 rfl (by decide) rfl ?_
    refine Ex_aload_n dX4_readLane_21 rfl 1 rfl ?_
    refine Ex_iconst (v := 0) dX4_readLane_22 (by decide) ?_
    refine Ex_aload_n dX4_readLane_23 rfl 2 rfl ?_
    refine Ex_get (v := .int (gI μ_2 p1 0)) fgX4_76 hk1 (by decide) rfl dX4_readLane_24 ?_
    refine Ex_iconst (v := 1) dX4_readLane_27 (by decide) ?_
    refine Ex_isub dX4_readLane_28 ?_
    refine Ex_callVW (n := 2) (dp2 := 2) [.int 0, .int ((gI μ_2 p1 0) - 1)] cvX4_72 hk0 rfl rfl (by decide) (by decide) (Nat.le_of_ble_eq_true rfl) rfl (fun v μ2 hv => c_X4_isNumber a0 F μ_2 t 0 ((gI μ_2 p1 0) - 1) hk0 hv) dX4_readLane_29 (fun v_4 μ_5 hv_6 => ?_)
    refine Ex_if_eq (tgt := 43) dX4_readLane_32 (by decide) ?_ ?_
    · refine Ex_iconst (v := 0) dX4_readLane_43 (by decide) ?_
      exact Ex_iret dX4_readLane_44 rfl (fun ty h => by cases h; rfl)
    · refine Ex_aload_n dX4_readLane_35 rfl 1 rfl ?_
      refine Ex_get (v := .int (gI μ_5 t 4)) fgX4_28 hk0 (by decide) rfl dX4_readLane_36 ?_
      refine Ex_iload_n dX4_readLane_39 rfl 0 rfl ?_
      refine Ex_icmp_ne (tgt := 45) dX4_readLane_40 (by decide) ?_ ?_
      · refine Ex_aload_n dX4_readLane_45 rfl 1 rfl ?_
        refine Ex_get (v := .int (gI μ_5 t 4)) fgX4_28 hk0 (by decide) rfl dX4_readLane_46 ?_
        refine Ex_istore_n (L2 := [(3, .int (gI μ_5 t 4)), (2, .int (gI μ_2 t 4)), (0, .ref (a0 + t)), (1, .ref (a0 + p1))]) dX4_readLane_49 rfl (by decide) rfl ?_
        refine Ex_aload_n dX4_readLane_50 rfl 2 rfl ?_
        refine Ex_iconst (v := 1) dX4_readLane_51 (by decide) ?_
        refine Ex_bipush (v := 40) dX4_readLane_52 (by decide) ?_
        refine Ex_callVW (n := 2) (dp2 := 2) [.int 1, .int 40] cvX4_72 hk0 rfl rfl (by decide) (by decide) (Nat.le_of_ble_eq_true rfl) rfl (fun v μ2 hv => c_X4_isNumber a0 F μ_5 t 1 40 hk0 hv) dX4_readLane_54 (fun v_7 μ_8 hv_9 => ?_)
        refine Ex_if_eq (tgt := 77) dX4_readLane_57 (by decide) ?_ ?_
        · refine Ex_iconst (v := 0) dX4_readLane_77 (by decide) ?_
          exact Ex_iret dX4_readLane_78 rfl (fun ty h => by cases h; rfl)
        · refine Ex_aload_n dX4_readLane_60 rfl 3 rfl ?_
          refine Ex_iload_n dX4_readLane_61 rfl 1 rfl ?_
          refine Ex_iload_n dX4_readLane_62 rfl 0 rfl ?_
          refine Ex_aload_n dX4_readLane_63 rfl 2 rfl ?_
          refine Ex_get (v := .int (gI μ_8 t 4)) fgX4_28 hk0 (by decide) rfl dX4_readLane_64 ?_
          refine Ex_callVW (n := 3) (dp2 := 0) [.int (gI μ_2 t 4), .int (gI μ_5 t 4), .int (gI μ_8 t 4)] cvX4_79 hk1 rfl rfl (by decide) (by decide) (Nat.le_of_ble_eq_true rfl) rfl (fun v μ2 hv => c_X7_addLane a0 F μ_8 p1 (gI μ_2 t 4) (gI μ_5 t 4) (gI μ_8 t 4) hk1 hv) dX4_readLane_67 (fun v_10 μ_11 hv_12 => ?_)
          refine Ex_if_eq (tgt := 77) dX4_readLane_70 (by decide) ?_ ?_
          · refine Ex_iconst (v := 0) dX4_readLane_77 (by decide) ?_
            exact Ex_iret dX4_readLane_78 rfl (fun ty h => by cases h; rfl)
          · refine Ex_iconst (v := 1) dX4_readLane_73 (by decide) ?_
            refine Ex_goto (tgt := 78) dX4_readLane_74 (by decide) ?_
            exact Ex_iret dX4_readLane_78 rfl (fun ty h => by cases h; rfl)
      · refine Ex_iconst (v := 0) dX4_readLane_43 (by decide) ?_
        exact Ex_iret dX4_readLane_44 rfl (fun ty h => by cases h; rfl)
  · refine Ex_iconst (v := 0) dX4_readLane_14 (by decide) ?_
    exact Ex_iret dX4_readLane_15 rfl (fun ty h => by cases h; rfl)

def f_X7_addPerson (F : Nat) (μ : Mem) (t : Nat) (p1 : Int32) (p2 : Int32) : Option (Int32 × Mem) := (if (gI μ t 5) < 5 then if ix (gI μ t 5) 5 = true then lt (sI μ (t + 4) ((gI μ t 5).toNatClampNeg) p1) (fun μ_1 => if ix (gI μ_1 t 5) 5 = true then lt (sI μ_1 (t + 5) ((gI μ_1 t 5).toNatClampNeg) p2) (fun μ_2 => lt (sI μ_2 t 5 ((gI μ_2 t 5) + 1)) (fun μ_3 => some (1, μ_3))) else none) else none else some (0, μ))
set_option maxRecDepth 100000 in
set_option maxHeartbeats 4000000 in
theorem c_X7_addPerson (a0 F : Nat) (μ : Mem) (t : Nat) (p1 : Int32) (p2 : Int32) (hk0 : kd t = 7) {v : Int32} {μ2 : Mem} (hr : f_X7_addPerson F μ t p1 p2 = some (v, μ2)) : Ct a0 yX7_addPerson cX7_addPerson 3 (some .boolean) 0 [.ref (a0 + t), .int p1, .int p2] μ (some (.int v)) μ2 := by
  refine Ct_of (own := RX7) (ι := (fun x => (some (.int x.1), x.2))) (o := f_X7_addPerson F μ t p1 p2) (by decide +kernel) rfl (Nat.le_of_ble_eq_true rfl) ?_ hr rfl ⟨_, rfl⟩
  show Ex a0 RX7 cX7_addPerson 3 (some .boolean) 0 none (fun x => (some (.int x.1), x.2)) 0 [(0, .ref (a0 + t)), (1, .int p1), (2, .int p2)] [] μ (f_X7_addPerson F μ t p1 p2)
  unfold f_X7_addPerson
  refine Ex_aload_n dX7_addPerson_0 rfl 0 rfl ?_
  refine Ex_get (v := .int (gI μ t 5)) fgX7_28 hk0 (by decide) rfl dX7_addPerson_1 ?_
  refine Ex_iconst (v := 5) dX7_addPerson_4 (by decide) ?_
  refine Ex_icmp_lt (tgt := 10) dX7_addPerson_5 (by decide) ?_ ?_
  · refine Ex_aload_n dX7_addPerson_10 rfl 0 rfl ?_
    refine Ex_get (v := .ref (a0 + (t + 4))) fgX7_31 hk0 (by decide) rfl dX7_addPerson_11 ?_
    refine Ex_aload_n dX7_addPerson_14 rfl 0 rfl ?_
    refine Ex_get (v := .int (gI μ t 5)) fgX7_28 hk0 (by decide) rfl dX7_addPerson_15 ?_
    refine Ex_iload_n dX7_addPerson_18 rfl 1 rfl ?_
    refine Ex_iast 5 (kn_7_4 hk0) (by decide) dX7_addPerson_19 (fun μ_1 => ?_)
    refine Ex_aload_n dX7_addPerson_20 rfl 0 rfl ?_
    refine Ex_get (v := .ref (a0 + (t + 5))) fgX7_34 hk0 (by decide) rfl dX7_addPerson_21 ?_
    refine Ex_aload_n dX7_addPerson_24 rfl 0 rfl ?_
    refine Ex_get (v := .int (gI μ_1 t 5)) fgX7_28 hk0 (by decide) rfl dX7_addPerson_25 ?_
    refine Ex_iload_n dX7_addPerson_28 rfl 2 rfl ?_
    refine Ex_iast 5 (kn_7_5 hk0) (by decide) dX7_addPerson_29 (fun μ_2 => ?_)
    refine Ex_aload_n dX7_addPerson_30 rfl 0 rfl ?_
    refine Ex_dup dX7_addPerson_31 rfl ?_
    refine Ex_get (v := .int (gI μ_2 t 5)) fgX7_28 hk0 (by decide) rfl dX7_addPerson_32 ?_
    refine Ex_iconst (v := 1) dX7_addPerson_35 (by decide) ?_
    refine Ex_iadd dX7_addPerson_36 ?_
    refine Ex_putI fgX7_28 fp7_5 hk0 (by decide) rfl rfl (Nat.le_of_ble_eq_true rfl) (fs7_5 a0 μ_2 t ((gI μ_2 t 5) + 1)) dX7_addPerson_37 (fun μ_3 => ?_)
    refine Ex_iconst (v := 1) dX7_addPerson_40 (by decide) ?_
    exact Ex_iret dX7_addPerson_41 rfl (fun ty h => by cases h; rfl)
  · refine Ex_iconst (v := 0) dX7_addPerson_8 (by decide) ?_
    exact Ex_iret dX7_addPerson_9 rfl (fun ty h => by cases h; rfl)

def f_X4_readPerson (F : Nat) (μ : Mem) (t : Nat) (p1 : Nat) : Option (Int32 × Mem) := bW (f_X4_isNumber F μ t 0 9) (fun v_1 μ_2 => (if v_1 = 0 then some (0, μ_2) else bW (f_X4_isNumber F μ_2 t 0 ((gI μ_2 p1 0) - 1)) (fun v_4 μ_5 => (if v_4 = 0 then some (0, μ_5) else bW (f_X7_addPerson F μ_5 p1 (gI μ_2 t 4) (gI μ_5 t 4)) (fun v_7 μ_8 => (if v_7 = 0 then some (0, μ_8) else some (1, μ_8)))))))
set_option maxRecDepth 100000 in
set_option maxHeartbeats 4000000 in
theorem c_X4_readPerson (a0 F : Nat) (μ : Mem) (t : Nat) (p1 : Nat) (hk0 : kd t = 4) (hk1 : kd p1 = 7) {v : Int32} {μ2 : Mem} (hr : f_X4_readPerson F μ t p1 = some (v, μ2)) : Ct a0 yX4_readPerson cX4_readPerson 3 (some .boolean) 3 [.ref (a0 + t), .ref (a0 + p1)] μ (some (.int v)) μ2 := by
  refine Ct_of (own := RX4) (ι := (fun x => (some (.int x.1), x.2))) (o := f_X4_readPerson F μ t p1) (by decide +kernel) rfl (Nat.le_of_ble_eq_true rfl) ?_ hr rfl ⟨_, rfl⟩
  show Ex a0 RX4 cX4_readPerson 3 (some .boolean) 3 none (fun x => (some (.int x.1), x.2)) 0 [(0, .ref (a0 + t)), (1, .ref (a0 + p1))] [] μ (f_X4_readPerson F μ t p1)
  unfold f_X4_readPerson
  refine Ex_aload_n dX4_readPerson_0 rfl 0 rfl ?_
  refine Ex_iconst (v := 0) dX4_readPerson_1 (by decide) ?_
  refine Ex_bipush (v := 9) dX4_readPerson_2 (by decide) ?_
  refine Ex_callVW (n := 2) (dp2 := 2) [.int 0, .int 9] cvX4_72 hk0 rfl rfl (by decide) (by decide) (Nat.le_of_ble_eq_true rfl) rfl (fun v μ2 hv => c_X4_isNumber a0 F μ t 0 9 hk0 hv) dX4_readPerson_4 (fun v_1 μ_2 hv_3 => ?_)
  refine Ex_if_ne (tgt := 12) dX4_readPerson_7 (by decide) ?_ ?_
  · refine Ex_aload_n dX4_readPerson_12 rfl 0 rfl ?_
    refine Ex_get (v := .int (gI μ_2 t 4)) fgX4_28 hk0 (by decide) rfl dX4_readPerson_13 ?_
    refine Ex_istore_n (L2 := [(2, .int (gI μ_2 t 4)), (0, .ref (a0 + t)), (1, .ref (a0 + p1))]) dX4_readPerson_16 rfl (by decide) rfl ?_
    refine Ex_aload_n dX4_readPerson_17 rfl 1 rfl ?_
    refine Ex_iconst (v := 0) dX4_readPerson_18 (by decide) ?_
    refine Ex_aload_n dX4_readPerson_19 rfl 2 rfl ?_
    refine Ex_get (v := .int (gI μ_2 p1 0)) fgX4_76 hk1 (by decide) rfl dX4_readPerson_20 ?_
    refine Ex_iconst (v := 1) dX4_readPerson_23 (by decide) ?_
    refine Ex_isub dX4_readPerson_24 ?_
    refine Ex_callVW (n := 2) (dp2 := 2) [.int 0, .int ((gI μ_2 p1 0) - 1)] cvX4_72 hk0 rfl rfl (by decide) (by decide) (Nat.le_of_ble_eq_true rfl) rfl (fun v μ2 hv => c_X4_isNumber a0 F μ_2 t 0 ((gI μ_2 p1 0) - 1) hk0 hv) dX4_readPerson_25 (fun v_4 μ_5 hv_6 => ?_)
    refine Ex_if_eq (tgt := 47) dX4_readPerson_28 (by decide) ?_ ?_
    · refine Ex_iconst (v := 0) dX4_readPerson_47 (by decide) ?_
      exact Ex_iret dX4_readPerson_48 rfl (fun ty h => by cases h; rfl)
    · refine Ex_aload_n dX4_readPerson_31 rfl 2 rfl ?_
      refine Ex_iload_n dX4_readPerson_32 rfl 0 rfl ?_
      refine Ex_aload_n dX4_readPerson_33 rfl 1 rfl ?_
      refine Ex_get (v := .int (gI μ_5 t 4)) fgX4_28 hk0 (by decide) rfl dX4_readPerson_34 ?_
      refine Ex_callVW (n := 2) (dp2 := 0) [.int (gI μ_2 t 4), .int (gI μ_5 t 4)] cvX4_83 hk1 rfl rfl (by decide) (by decide) (Nat.le_of_ble_eq_true rfl) rfl (fun v μ2 hv => c_X7_addPerson a0 F μ_5 p1 (gI μ_2 t 4) (gI μ_5 t 4) hk1 hv) dX4_readPerson_37 (fun v_7 μ_8 hv_9 => ?_)
      refine Ex_if_eq (tgt := 47) dX4_readPerson_40 (by decide) ?_ ?_
      · refine Ex_iconst (v := 0) dX4_readPerson_47 (by decide) ?_
        exact Ex_iret dX4_readPerson_48 rfl (fun ty h => by cases h; rfl)
      · refine Ex_iconst (v := 1) dX4_readPerson_43 (by decide) ?_
        refine Ex_goto (tgt := 48) dX4_readPerson_44 (by decide) ?_
        exact Ex_iret dX4_readPerson_48 rfl (fun ty h => by cases h; rfl)
  · refine Ex_iconst (v := 0) dX4_readPerson_10 (by decide) ?_
    exact Ex_iret dX4_readPerson_11 rfl (fun ty h => by cases h; rfl)

def f_X4_readBody (F : Nat) (μ : Mem) (t : Nat) (p1 : Nat) : Option (Int32 × Mem) := bW (f_X4_isNumber F μ t 1 9) (fun v_1 μ_2 => (if v_1 = 0 then some (0, μ_2) else lt (sI μ_2 p1 8 (gI μ_2 t 4)) (fun μ_4 => lt (sI μ_4 t 5 1) (fun μ_5 => some (1, μ_5)))))
set_option maxRecDepth 100000 in
set_option maxHeartbeats 4000000 in
theorem c_X4_readBody (a0 F : Nat) (μ : Mem) (t : Nat) (p1 : Nat) (hk0 : kd t = 4) (hk1 : kd p1 = 7) {v : Int32} {μ2 : Mem} (hr : f_X4_readBody F μ t p1 = some (v, μ2)) : Ct a0 yX4_readBody cX4_readBody 2 (some .boolean) 3 [.ref (a0 + t), .ref (a0 + p1)] μ (some (.int v)) μ2 := by
  refine Ct_of (own := RX4) (ι := (fun x => (some (.int x.1), x.2))) (o := f_X4_readBody F μ t p1) (by decide +kernel) rfl (Nat.le_of_ble_eq_true rfl) ?_ hr rfl ⟨_, rfl⟩
  show Ex a0 RX4 cX4_readBody 2 (some .boolean) 3 none (fun x => (some (.int x.1), x.2)) 0 [(0, .ref (a0 + t)), (1, .ref (a0 + p1))] [] μ (f_X4_readBody F μ t p1)
  unfold f_X4_readBody
  refine Ex_aload_n dX4_readBody_0 rfl 0 rfl ?_
  refine Ex_iconst (v := 1) dX4_readBody_1 (by decide) ?_
  refine Ex_bipush (v := 9) dX4_readBody_2 (by decide) ?_
  refine Ex_callVW (n := 2) (dp2 := 2) [.int 1, .int 9] cvX4_72 hk0 rfl rfl (by decide) (by decide) (Nat.le_of_ble_eq_true rfl) rfl (fun v μ2 hv => c_X4_isNumber a0 F μ t 1 9 hk0 hv) dX4_readBody_4 (fun v_1 μ_2 hv_3 => ?_)
  refine Ex_if_ne (tgt := 12) dX4_readBody_7 (by decide) ?_ ?_
  · refine Ex_aload_n dX4_readBody_12 rfl 1 rfl ?_
    refine Ex_aload_n dX4_readBody_13 rfl 0 rfl ?_
    refine Ex_get (v := .int (gI μ_2 t 4)) fgX4_28 hk0 (by decide) rfl dX4_readBody_14 ?_
    refine Ex_putI fgX4_86 fp7_8 hk1 (by decide) rfl rfl (Nat.le_of_ble_eq_true rfl) (fs7_8 a0 μ_2 p1 (gI μ_2 t 4)) dX4_readBody_17 (fun μ_4 => ?_)
    refine Ex_aload_n dX4_readBody_20 rfl 0 rfl ?_
    refine Ex_iconst (v := 1) dX4_readBody_21 (by decide) ?_
    refine Ex_putI fgX4_31 fp4_5 hk0 (by decide) rfl rfl (Nat.le_of_ble_eq_true rfl) (fs4_5 a0 μ_4 t 1) dX4_readBody_22 (fun μ_5 => ?_)
    refine Ex_iconst (v := 1) dX4_readBody_25 (by decide) ?_
    exact Ex_iret dX4_readBody_26 rfl (fun ty h => by cases h; rfl)
  · refine Ex_iconst (v := 0) dX4_readBody_10 (by decide) ?_
    exact Ex_iret dX4_readBody_11 rfl (fun ty h => by cases h; rfl)

def f_X4_readError (F : Nat) (μ : Mem) (t : Nat) (p1 : Nat) : Option (Int32 × Mem) := bW (f_X4_isNumber F μ t 0 3) (fun v_1 μ_2 => (if v_1 = 0 then some (0, μ_2) else lt (sI μ_2 p1 9 (gI μ_2 t 4)) (fun μ_4 => lt (sI μ_4 t 6 1) (fun μ_5 => some (1, μ_5)))))
set_option maxRecDepth 100000 in
set_option maxHeartbeats 4000000 in
theorem c_X4_readError (a0 F : Nat) (μ : Mem) (t : Nat) (p1 : Nat) (hk0 : kd t = 4) (hk1 : kd p1 = 7) {v : Int32} {μ2 : Mem} (hr : f_X4_readError F μ t p1 = some (v, μ2)) : Ct a0 yX4_readError cX4_readError 2 (some .boolean) 3 [.ref (a0 + t), .ref (a0 + p1)] μ (some (.int v)) μ2 := by
  refine Ct_of (own := RX4) (ι := (fun x => (some (.int x.1), x.2))) (o := f_X4_readError F μ t p1) (by decide +kernel) rfl (Nat.le_of_ble_eq_true rfl) ?_ hr rfl ⟨_, rfl⟩
  show Ex a0 RX4 cX4_readError 2 (some .boolean) 3 none (fun x => (some (.int x.1), x.2)) 0 [(0, .ref (a0 + t)), (1, .ref (a0 + p1))] [] μ (f_X4_readError F μ t p1)
  unfold f_X4_readError
  refine Ex_aload_n dX4_readError_0 rfl 0 rfl ?_
  refine Ex_iconst (v := 0) dX4_readError_1 (by decide) ?_
  refine Ex_iconst (v := 3) dX4_readError_2 (by decide) ?_
  refine Ex_callVW (n := 2) (dp2 := 2) [.int 0, .int 3] cvX4_72 hk0 rfl rfl (by decide) (by decide) (Nat.le_of_ble_eq_true rfl) rfl (fun v μ2 hv => c_X4_isNumber a0 F μ t 0 3 hk0 hv) dX4_readError_3 (fun v_1 μ_2 hv_3 => ?_)
  refine Ex_if_ne (tgt := 11) dX4_readError_6 (by decide) ?_ ?_
  · refine Ex_aload_n dX4_readError_11 rfl 1 rfl ?_
    refine Ex_aload_n dX4_readError_12 rfl 0 rfl ?_
    refine Ex_get (v := .int (gI μ_2 t 4)) fgX4_28 hk0 (by decide) rfl dX4_readError_13 ?_
    refine Ex_putI fgX4_89 fp7_9 hk1 (by decide) rfl rfl (Nat.le_of_ble_eq_true rfl) (fs7_9 a0 μ_2 p1 (gI μ_2 t 4)) dX4_readError_16 (fun μ_4 => ?_)
    refine Ex_aload_n dX4_readError_19 rfl 0 rfl ?_
    refine Ex_iconst (v := 1) dX4_readError_20 (by decide) ?_
    refine Ex_putI fgX4_35 fp4_6 hk0 (by decide) rfl rfl (Nat.le_of_ble_eq_true rfl) (fs4_6 a0 μ_4 t 1) dX4_readError_21 (fun μ_5 => ?_)
    refine Ex_iconst (v := 1) dX4_readError_24 (by decide) ?_
    exact Ex_iret dX4_readError_25 rfl (fun ty h => by cases h; rfl)
  · refine Ex_iconst (v := 0) dX4_readError_9 (by decide) ?_
    exact Ex_iret dX4_readError_10 rfl (fun ty h => by cases h; rfl)

def f_X4_readItem (F : Nat) (μ : Mem) (t : Nat) (p1 : Nat) (p2 : Int32) : Option (Int32 × Mem) := (if (gI μ t 3) = 1 then (if (gI μ t 4) = 98 then (if (gI μ t 5) = 0 then bW (f_X4_readBody F μ t p1) (fun v_2 μ_3 => (if v_2 = 0 then some (0, μ_3) else some (1, μ_3))) else some (0, μ)) else (if (gI μ t 4) = 99 then some (0, μ) else (if (gI μ t 4) = 100 then some (0, μ) else (if (gI μ t 4) = 101 then (if (gI μ t 6) = 0 then bW (f_X4_readError F μ t p1) (fun v_8 μ_9 => (if v_8 = 0 then some (0, μ_9) else some (1, μ_9))) else some (0, μ)) else (if (gI μ t 4) = 102 then some (0, μ) else (if (gI μ t 4) = 103 then some (0, μ) else (if (gI μ t 4) = 104 then some (0, μ) else (if (gI μ t 4) = 105 then some (0, μ) else (if (gI μ t 4) = 106 then some (0, μ) else (if (gI μ t 4) = 107 then some (0, μ) else (if (gI μ t 4) = 108 then (if (gI μ p1 1) < 8 then bW (f_X4_readLane F μ t p1) (fun v_18 μ_19 => (if v_18 = 0 then some (0, μ_19) else some (1, μ_19))) else some (0, μ)) else (if (gI μ t 4) = 109 then some (0, μ) else (if (gI μ t 4) = 110 then (if p2 = 0 then some (0, μ) else bW (f_X4_readPlaces F μ t p1) (fun v_23 μ_24 => (if v_23 = 0 then some (0, μ_24) else some (1, μ_24)))) else (if (gI μ t 4) = 111 then some (0, μ) else (if (gI μ t 4) = 112 then (if (gI μ p1 5) < 5 then bW (f_X4_readPerson F μ t p1) (fun v_28 μ_29 => (if v_28 = 0 then some (0, μ_29) else some (1, μ_29))) else some (0, μ)) else some (0, μ)))))))))))))))) else some (0, μ))
set_option maxRecDepth 100000 in
set_option maxHeartbeats 4000000 in
theorem c_X4_readItem (a0 F : Nat) (μ : Mem) (t : Nat) (p1 : Nat) (p2 : Int32) (hk0 : kd t = 4) (hk1 : kd p1 = 7) {v : Int32} {μ2 : Mem} (hr : f_X4_readItem F μ t p1 p2 = some (v, μ2)) : Ct a0 yX4_readItem cX4_readItem 3 (some .boolean) 4 [.ref (a0 + t), .ref (a0 + p1), .int p2] μ (some (.int v)) μ2 := by
  refine Ct_of (own := RX4) (ι := (fun x => (some (.int x.1), x.2))) (o := f_X4_readItem F μ t p1 p2) (by decide +kernel) rfl (Nat.le_of_ble_eq_true rfl) ?_ hr rfl ⟨_, rfl⟩
  show Ex a0 RX4 cX4_readItem 3 (some .boolean) 4 none (fun x => (some (.int x.1), x.2)) 0 [(0, .ref (a0 + t)), (1, .ref (a0 + p1)), (2, .int p2)] [] μ (f_X4_readItem F μ t p1 p2)
  unfold f_X4_readItem
  refine Ex_aload_n dX4_readItem_0 rfl 0 rfl ?_
  refine Ex_get (v := .int (gI μ t 3)) fgX4_25 hk0 (by decide) rfl dX4_readItem_1 ?_
  refine Ex_iconst (v := 1) dX4_readItem_4 (by decide) ?_
  refine Ex_icmp_eq (tgt := 10) dX4_readItem_5 (by decide) ?_ ?_
  · refine Ex_aload_n dX4_readItem_10 rfl 0 rfl ?_
    refine Ex_get (v := .int (gI μ t 4)) fgX4_28 hk0 (by decide) rfl dX4_readItem_11 ?_
    refine Ex_if ((gI μ t 4) = 98) (fun hc_1 => ?_) (fun hc_1 => ?_)
    · refine Ex_tblC (tgt := 151) dX4_readItem_14 (i := 98) (by rw [hc_1]; rfl) (by decide) (by decide) (off := 137) rfl (by decide) ?_
      refine Ex_aload_n dX4_readItem_151 rfl 0 rfl ?_
      refine Ex_get (v := .int (gI μ t 5)) fgX4_31 hk0 (by decide) rfl dX4_readItem_152 ?_
      refine Ex_if_ne (tgt := 170) dX4_readItem_155 (by decide) ?_ ?_
      · refine Ex_iconst (v := 0) dX4_readItem_170 (by decide) ?_
        exact Ex_iret dX4_readItem_171 rfl (fun ty h => by cases h; rfl)
      · refine Ex_aload_n dX4_readItem_158 rfl 0 rfl ?_
        refine Ex_aload_n dX4_readItem_159 rfl 1 rfl ?_
        refine Ex_callVW (n := 1) (dp2 := 3) [.ref (a0 + p1)] cvX4_66 hk0 rfl rfl (by decide) (by decide) (Nat.le_of_ble_eq_true rfl) rfl (fun v μ2 hv => c_X4_readBody a0 F μ t p1 hk0 hk1 hv) dX4_readItem_160 (fun v_2 μ_3 hv_4 => ?_)
        refine Ex_if_eq (tgt := 170) dX4_readItem_163 (by decide) ?_ ?_
        · refine Ex_iconst (v := 0) dX4_readItem_170 (by decide) ?_
          exact Ex_iret dX4_readItem_171 rfl (fun ty h => by cases h; rfl)
        · refine Ex_iconst (v := 1) dX4_readItem_166 (by decide) ?_
          refine Ex_goto (tgt := 171) dX4_readItem_167 (by decide) ?_
          exact Ex_iret dX4_readItem_171 rfl (fun ty h => by cases h; rfl)
    · refine Ex_if ((gI μ t 4) = 99) (fun hc_5 => ?_) (fun hc_5 => ?_)
      · refine Ex_tblC (tgt := 193) dX4_readItem_14 (i := 99) (by rw [hc_5]; rfl) (by decide) (by decide) (off := 179) rfl (by decide) ?_
        refine Ex_iconst (v := 0) dX4_readItem_193 (by decide) ?_
        exact Ex_iret dX4_readItem_194 rfl (fun ty h => by cases h; rfl)
      · refine Ex_if ((gI μ t 4) = 100) (fun hc_6 => ?_) (fun hc_6 => ?_)
        · refine Ex_tblC (tgt := 193) dX4_readItem_14 (i := 100) (by rw [hc_6]; rfl) (by decide) (by decide) (off := 179) rfl (by decide) ?_
          refine Ex_iconst (v := 0) dX4_readItem_193 (by decide) ?_
          exact Ex_iret dX4_readItem_194 rfl (fun ty h => by cases h; rfl)
        · refine Ex_if ((gI μ t 4) = 101) (fun hc_7 => ?_) (fun hc_7 => ?_)
          · refine Ex_tblC (tgt := 172) dX4_readItem_14 (i := 101) (by rw [hc_7]; rfl) (by decide) (by decide) (off := 158) rfl (by decide) ?_
            refine Ex_aload_n dX4_readItem_172 rfl 0 rfl ?_
            refine Ex_get (v := .int (gI μ t 6)) fgX4_35 hk0 (by decide) rfl dX4_readItem_173 ?_
            refine Ex_if_ne (tgt := 191) dX4_readItem_176 (by decide) ?_ ?_
            · refine Ex_iconst (v := 0) dX4_readItem_191 (by decide) ?_
              exact Ex_iret dX4_readItem_192 rfl (fun ty h => by cases h; rfl)
            · refine Ex_aload_n dX4_readItem_179 rfl 0 rfl ?_
              refine Ex_aload_n dX4_readItem_180 rfl 1 rfl ?_
              refine Ex_callVW (n := 1) (dp2 := 3) [.ref (a0 + p1)] cvX4_69 hk0 rfl rfl (by decide) (by decide) (Nat.le_of_ble_eq_true rfl) rfl (fun v μ2 hv => c_X4_readError a0 F μ t p1 hk0 hk1 hv) dX4_readItem_181 (fun v_8 μ_9 hv_10 => ?_)
              refine Ex_if_eq (tgt := 191) dX4_readItem_184 (by decide) ?_ ?_
              · refine Ex_iconst (v := 0) dX4_readItem_191 (by decide) ?_
                exact Ex_iret dX4_readItem_192 rfl (fun ty h => by cases h; rfl)
              · refine Ex_iconst (v := 1) dX4_readItem_187 (by decide) ?_
                refine Ex_goto (tgt := 192) dX4_readItem_188 (by decide) ?_
                exact Ex_iret dX4_readItem_192 rfl (fun ty h => by cases h; rfl)
          · refine Ex_if ((gI μ t 4) = 102) (fun hc_11 => ?_) (fun hc_11 => ?_)
            · refine Ex_tblC (tgt := 193) dX4_readItem_14 (i := 102) (by rw [hc_11]; rfl) (by decide) (by decide) (off := 179) rfl (by decide) ?_
              refine Ex_iconst (v := 0) dX4_readItem_193 (by decide) ?_
              exact Ex_iret dX4_readItem_194 rfl (fun ty h => by cases h; rfl)
            · refine Ex_if ((gI μ t 4) = 103) (fun hc_12 => ?_) (fun hc_12 => ?_)
              · refine Ex_tblC (tgt := 193) dX4_readItem_14 (i := 103) (by rw [hc_12]; rfl) (by decide) (by decide) (off := 179) rfl (by decide) ?_
                refine Ex_iconst (v := 0) dX4_readItem_193 (by decide) ?_
                exact Ex_iret dX4_readItem_194 rfl (fun ty h => by cases h; rfl)
              · refine Ex_if ((gI μ t 4) = 104) (fun hc_13 => ?_) (fun hc_13 => ?_)
                · refine Ex_tblC (tgt := 193) dX4_readItem_14 (i := 104) (by rw [hc_13]; rfl) (by decide) (by decide) (off := 179) rfl (by decide) ?_
                  refine Ex_iconst (v := 0) dX4_readItem_193 (by decide) ?_
                  exact Ex_iret dX4_readItem_194 rfl (fun ty h => by cases h; rfl)
                · refine Ex_if ((gI μ t 4) = 105) (fun hc_14 => ?_) (fun hc_14 => ?_)
                  · refine Ex_tblC (tgt := 193) dX4_readItem_14 (i := 105) (by rw [hc_14]; rfl) (by decide) (by decide) (off := 179) rfl (by decide) ?_
                    refine Ex_iconst (v := 0) dX4_readItem_193 (by decide) ?_
                    exact Ex_iret dX4_readItem_194 rfl (fun ty h => by cases h; rfl)
                  · refine Ex_if ((gI μ t 4) = 106) (fun hc_15 => ?_) (fun hc_15 => ?_)
                    · refine Ex_tblC (tgt := 193) dX4_readItem_14 (i := 106) (by rw [hc_15]; rfl) (by decide) (by decide) (off := 179) rfl (by decide) ?_
                      refine Ex_iconst (v := 0) dX4_readItem_193 (by decide) ?_
                      exact Ex_iret dX4_readItem_194 rfl (fun ty h => by cases h; rfl)
                    · refine Ex_if ((gI μ t 4) = 107) (fun hc_16 => ?_) (fun hc_16 => ?_)
                      · refine Ex_tblC (tgt := 193) dX4_readItem_14 (i := 107) (by rw [hc_16]; rfl) (by decide) (by decide) (off := 179) rfl (by decide) ?_
                        refine Ex_iconst (v := 0) dX4_readItem_193 (by decide) ?_
                        exact Ex_iret dX4_readItem_194 rfl (fun ty h => by cases h; rfl)
                      · refine Ex_if ((gI μ t 4) = 108) (fun hc_17 => ?_) (fun hc_17 => ?_)
                        · refine Ex_tblC (tgt := 106) dX4_readItem_14 (i := 108) (by rw [hc_17]; rfl) (by decide) (by decide) (off := 92) rfl (by decide) ?_
                          refine Ex_aload_n dX4_readItem_106 rfl 1 rfl ?_
                          refine Ex_get (v := .int (gI μ p1 1)) fgX4_54 hk1 (by decide) rfl dX4_readItem_107 ?_
                          refine Ex_bipush (v := 8) dX4_readItem_110 (by decide) ?_
                          refine Ex_icmp_ge (tgt := 127) dX4_readItem_112 (by decide) ?_ ?_
                          · refine Ex_iconst (v := 0) dX4_readItem_127 (by decide) ?_
                            exact Ex_iret dX4_readItem_128 rfl (fun ty h => by cases h; rfl)
                          · refine Ex_aload_n dX4_readItem_115 rfl 0 rfl ?_
                            refine Ex_aload_n dX4_readItem_116 rfl 1 rfl ?_
                            refine Ex_callVW (n := 1) (dp2 := 3) [.ref (a0 + p1)] cvX4_57 hk0 rfl rfl (by decide) (by decide) (Nat.le_of_ble_eq_true rfl) rfl (fun v μ2 hv => c_X4_readLane a0 F μ t p1 hk0 hk1 hv) dX4_readItem_117 (fun v_18 μ_19 hv_20 => ?_)
                            refine Ex_if_eq (tgt := 127) dX4_readItem_120 (by decide) ?_ ?_
                            · refine Ex_iconst (v := 0) dX4_readItem_127 (by decide) ?_
                              exact Ex_iret dX4_readItem_128 rfl (fun ty h => by cases h; rfl)
                            · refine Ex_iconst (v := 1) dX4_readItem_123 (by decide) ?_
                              refine Ex_goto (tgt := 128) dX4_readItem_124 (by decide) ?_
                              exact Ex_iret dX4_readItem_128 rfl (fun ty h => by cases h; rfl)
                        · refine Ex_if ((gI μ t 4) = 109) (fun hc_21 => ?_) (fun hc_21 => ?_)
                          · refine Ex_tblC (tgt := 193) dX4_readItem_14 (i := 109) (by rw [hc_21]; rfl) (by decide) (by decide) (off := 179) rfl (by decide) ?_
                            refine Ex_iconst (v := 0) dX4_readItem_193 (by decide) ?_
                            exact Ex_iret dX4_readItem_194 rfl (fun ty h => by cases h; rfl)
                          · refine Ex_if ((gI μ t 4) = 110) (fun hc_22 => ?_) (fun hc_22 => ?_)
                            · refine Ex_tblC (tgt := 88) dX4_readItem_14 (i := 110) (by rw [hc_22]; rfl) (by decide) (by decide) (off := 74) rfl (by decide) ?_
                              refine Ex_iload_n dX4_readItem_88 rfl 2 rfl ?_
                              refine Ex_if_eq (tgt := 104) dX4_readItem_89 (by decide) ?_ ?_
                              · refine Ex_iconst (v := 0) dX4_readItem_104 (by decide) ?_
                                exact Ex_iret dX4_readItem_105 rfl (fun ty h => by cases h; rfl)
                              · refine Ex_aload_n dX4_readItem_92 rfl 0 rfl ?_
                                refine Ex_aload_n dX4_readItem_93 rfl 1 rfl ?_
                                refine Ex_callVW (n := 1) (dp2 := 3) [.ref (a0 + p1)] cvX4_50 hk0 rfl rfl (by decide) (by decide) (Nat.le_of_ble_eq_true rfl) rfl (fun v μ2 hv => c_X4_readPlaces a0 F μ t p1 hk0 hk1 hv) dX4_readItem_94 (fun v_23 μ_24 hv_25 => ?_)
                                refine Ex_if_eq (tgt := 104) dX4_readItem_97 (by decide) ?_ ?_
                                · refine Ex_iconst (v := 0) dX4_readItem_104 (by decide) ?_
                                  exact Ex_iret dX4_readItem_105 rfl (fun ty h => by cases h; rfl)
                                · refine Ex_iconst (v := 1) dX4_readItem_100 (by decide) ?_
                                  refine Ex_goto (tgt := 105) dX4_readItem_101 (by decide) ?_
                                  exact Ex_iret dX4_readItem_105 rfl (fun ty h => by cases h; rfl)
                            · refine Ex_if ((gI μ t 4) = 111) (fun hc_26 => ?_) (fun hc_26 => ?_)
                              · refine Ex_tblC (tgt := 193) dX4_readItem_14 (i := 111) (by rw [hc_26]; rfl) (by decide) (by decide) (off := 179) rfl (by decide) ?_
                                refine Ex_iconst (v := 0) dX4_readItem_193 (by decide) ?_
                                exact Ex_iret dX4_readItem_194 rfl (fun ty h => by cases h; rfl)
                              · refine Ex_if ((gI μ t 4) = 112) (fun hc_27 => ?_) (fun hc_27 => ?_)
                                · refine Ex_tblC (tgt := 129) dX4_readItem_14 (i := 112) (by rw [hc_27]; rfl) (by decide) (by decide) (off := 115) rfl (by decide) ?_
                                  refine Ex_aload_n dX4_readItem_129 rfl 1 rfl ?_
                                  refine Ex_get (v := .int (gI μ p1 5)) fgX4_60 hk1 (by decide) rfl dX4_readItem_130 ?_
                                  refine Ex_iconst (v := 5) dX4_readItem_133 (by decide) ?_
                                  refine Ex_icmp_ge (tgt := 149) dX4_readItem_134 (by decide) ?_ ?_
                                  · refine Ex_iconst (v := 0) dX4_readItem_149 (by decide) ?_
                                    exact Ex_iret dX4_readItem_150 rfl (fun ty h => by cases h; rfl)
                                  · refine Ex_aload_n dX4_readItem_137 rfl 0 rfl ?_
                                    refine Ex_aload_n dX4_readItem_138 rfl 1 rfl ?_
                                    refine Ex_callVW (n := 1) (dp2 := 3) [.ref (a0 + p1)] cvX4_63 hk0 rfl rfl (by decide) (by decide) (Nat.le_of_ble_eq_true rfl) rfl (fun v μ2 hv => c_X4_readPerson a0 F μ t p1 hk0 hk1 hv) dX4_readItem_139 (fun v_28 μ_29 hv_30 => ?_)
                                    refine Ex_if_eq (tgt := 149) dX4_readItem_142 (by decide) ?_ ?_
                                    · refine Ex_iconst (v := 0) dX4_readItem_149 (by decide) ?_
                                      exact Ex_iret dX4_readItem_150 rfl (fun ty h => by cases h; rfl)
                                    · refine Ex_iconst (v := 1) dX4_readItem_145 (by decide) ?_
                                      refine Ex_goto (tgt := 150) dX4_readItem_146 (by decide) ?_
                                      exact Ex_iret dX4_readItem_150 rfl (fun ty h => by cases h; rfl)
                                · refine Ex_tblD (tgt := 193) dX4_readItem_14 (by have q98 := lv_neT hc_1 (show (98 : Int32).toInt = 98 from rfl); have q99 := lv_neT hc_5 (show (99 : Int32).toInt = 99 from rfl); have q100 := lv_neT hc_6 (show (100 : Int32).toInt = 100 from rfl); have q101 := lv_neT hc_7 (show (101 : Int32).toInt = 101 from rfl); have q102 := lv_neT hc_11 (show (102 : Int32).toInt = 102 from rfl); have q103 := lv_neT hc_12 (show (103 : Int32).toInt = 103 from rfl); have q104 := lv_neT hc_13 (show (104 : Int32).toInt = 104 from rfl); have q105 := lv_neT hc_14 (show (105 : Int32).toInt = 105 from rfl); have q106 := lv_neT hc_15 (show (106 : Int32).toInt = 106 from rfl); have q107 := lv_neT hc_16 (show (107 : Int32).toInt = 107 from rfl); have q108 := lv_neT hc_17 (show (108 : Int32).toInt = 108 from rfl); have q109 := lv_neT hc_21 (show (109 : Int32).toInt = 109 from rfl); have q110 := lv_neT hc_22 (show (110 : Int32).toInt = 110 from rfl); have q111 := lv_neT hc_26 (show (111 : Int32).toInt = 111 from rfl); have q112 := lv_neT hc_27 (show (112 : Int32).toInt = 112 from rfl); omega) (by decide) ?_
                                  refine Ex_iconst (v := 0) dX4_readItem_193 (by decide) ?_
                                  exact Ex_iret dX4_readItem_194 rfl (fun ty h => by cases h; rfl)
  · refine Ex_iconst (v := 0) dX4_readItem_8 (by decide) ?_
    exact Ex_iret dX4_readItem_9 rfl (fun ty h => by cases h; rfl)

def f_X4_read_L25 (F : Nat) (q0 : Nat) (q1 : Nat) (k : Int32 → Mem → Option (Int32 × Mem)) : Nat → Int32 → Mem → Option (Int32 × Mem)
  | 0, _, _ => none
  | n + 1, x2, μ => (if x2 < 150 then (if (gI μ q0 3) = 0 then k x2 μ else (if x2 = 0 then bW (f_X4_readItem F μ q0 q1 1) (fun v_19 μ_20 => (if v_19 = 0 then some ((-1), μ_20) else (f_X4_takeToken F μ_20 q0).bind (fun μ_23 => (if (gI μ_23 q0 3) = 3 then (f_X4_takeToken F μ_23 q0).bind (fun μ_26 => f_X4_read_L25 F q0 q1 k n (x2 + 1) μ_26) else some ((-1), μ_23))))) else bW (f_X4_readItem F μ q0 q1 0) (fun v_10 μ_11 => (if v_10 = 0 then some ((-1), μ_11) else (f_X4_takeToken F μ_11 q0).bind (fun μ_14 => (if (gI μ_14 q0 3) = 3 then (f_X4_takeToken F μ_14 q0).bind (fun μ_17 => f_X4_read_L25 F q0 q1 k n (x2 + 1) μ_17) else some ((-1), μ_14))))))) else k x2 μ)
set_option maxRecDepth 100000 in
set_option maxHeartbeats 4000000 in
theorem c_X4_read_L25 (a0 : Nat) (F : Nat) (q0 : Nat) (q1 : Nat) (k : Int32 → Mem → Option (Int32 × Mem)) (hq0 : kd q0 = 4) (hq1 : kd q1 = 7) (hk : ∀ (x2 : Int32) (μ : Mem), Ex a0 RX4 cX4_read 3 (some .int) 5 none (fun x => (some (.int x.1), x.2)) 82 [(2, .int x2)] [] μ (k x2 μ)) : ∀ (n : Nat) (x2 : Int32) (μ : Mem), Ex a0 RX4 cX4_read 3 (some .int) 5 none (fun x => (some (.int x.1), x.2)) 25 [(0, .ref (a0 + q0)), (1, .ref (a0 + q1)), (2, .int x2)] [] μ (f_X4_read_L25 F q0 q1 k n x2 μ) := by
  intro n
  induction n with
  | zero => intro x2 μ; exact Ex_none
  | succ n ih =>
    intro x2 μ
    rw [f_X4_read_L25]
    refine Ex_iload_n dX4_read_25 rfl 2 rfl ?_
    refine Ex_sipush (v := 150) dX4_read_26 (by decide) ?_
    refine Ex_icmp_ge (tgt := 82) dX4_read_29 (by decide) ?_ ?_
    · refine Ex_perm [2] rfl ?_
      exact hk x2 μ
    · refine Ex_aload_n dX4_read_32 rfl 0 rfl ?_
      refine Ex_get (v := .int (gI μ q0 3)) fgX4_25 hq0 (by decide) rfl dX4_read_33 ?_
      refine Ex_if_eq (tgt := 82) dX4_read_36 (by decide) ?_ ?_
      · refine Ex_perm [2] rfl ?_
        exact hk x2 μ
      · refine Ex_aload_n dX4_read_39 rfl 0 rfl ?_
        refine Ex_aload_n dX4_read_40 rfl 1 rfl ?_
        refine Ex_iload_n dX4_read_41 rfl 2 rfl ?_
        refine Ex_if_ne (tgt := 49) dX4_read_42 (by decide) ?_ ?_
        · refine Ex_iconst (v := 0) dX4_read_49 (by decide) ?_
          refine Ex_callVW (n := 2) (dp2 := 4) [.ref (a0 + q1), .int 0] cvX4_46 hq0 rfl rfl (by decide) (by decide) (Nat.le_of_ble_eq_true rfl) rfl (fun v μ2 hv => c_X4_readItem a0 F μ q0 q1 0 hq0 hq1 hv) dX4_read_50 (fun v_10 μ_11 hv_12 => ?_)
          refine Ex_if_ne (tgt := 58) dX4_read_53 (by decide) ?_ ?_
          · refine Ex_aload_n dX4_read_58 rfl 0 rfl ?_
            refine Ex_callVV (n := 0) (dp2 := 1) [] cvX4_43 hq0 rfl rfl (by decide) (by decide) (Nat.le_of_ble_eq_true rfl) rfl (fun μ2 hv => c_X4_takeToken a0 F μ_11 q0 hq0 hv) dX4_read_59 (fun μ_14 hv_15 => ?_)
            refine Ex_aload_n dX4_read_62 rfl 0 rfl ?_
            refine Ex_get (v := .int (gI μ_14 q0 3)) fgX4_25 hq0 (by decide) rfl dX4_read_63 ?_
            refine Ex_iconst (v := 3) dX4_read_66 (by decide) ?_
            refine Ex_icmp_eq (tgt := 72) dX4_read_67 (by decide) ?_ ?_
            · refine Ex_iinc (v := x2 + 1) (L2 := [(2, .int (x2 + 1)), (0, .ref (a0 + q0)), (1, .ref (a0 + q1))]) dX4_read_72 2 rfl rfl (by decide) rfl ?_
              refine Ex_aload_n dX4_read_75 rfl 1 rfl ?_
              refine Ex_callVV (n := 0) (dp2 := 1) [] cvX4_43 hq0 rfl rfl (by decide) (by decide) (Nat.le_of_ble_eq_true rfl) rfl (fun μ2 hv => c_X4_takeToken a0 F μ_14 q0 hq0 hv) dX4_read_76 (fun μ_17 hv_18 => ?_)
              refine Ex_goto (tgt := 25) dX4_read_79 (by decide) ?_
              refine Ex_perm [1, 2, 0] rfl ?_
              exact ih (x2 + 1) μ_17
            · refine Ex_iconst (v := (-1)) dX4_read_70 (by decide) ?_
              exact Ex_iret dX4_read_71 rfl (fun ty h => by cases h; rfl)
          · refine Ex_iconst (v := (-1)) dX4_read_56 (by decide) ?_
            exact Ex_iret dX4_read_57 rfl (fun ty h => by cases h; rfl)
        · refine Ex_iconst (v := 1) dX4_read_45 (by decide) ?_
          refine Ex_goto (tgt := 50) dX4_read_46 (by decide) ?_
          refine Ex_callVW (n := 2) (dp2 := 4) [.ref (a0 + q1), .int 1] cvX4_46 hq0 rfl rfl (by decide) (by decide) (Nat.le_of_ble_eq_true rfl) rfl (fun v μ2 hv => c_X4_readItem a0 F μ q0 q1 1 hq0 hq1 hv) dX4_read_50 (fun v_19 μ_20 hv_21 => ?_)
          refine Ex_if_ne (tgt := 58) dX4_read_53 (by decide) ?_ ?_
          · refine Ex_aload_n dX4_read_58 rfl 0 rfl ?_
            refine Ex_callVV (n := 0) (dp2 := 1) [] cvX4_43 hq0 rfl rfl (by decide) (by decide) (Nat.le_of_ble_eq_true rfl) rfl (fun μ2 hv => c_X4_takeToken a0 F μ_20 q0 hq0 hv) dX4_read_59 (fun μ_23 hv_24 => ?_)
            refine Ex_aload_n dX4_read_62 rfl 0 rfl ?_
            refine Ex_get (v := .int (gI μ_23 q0 3)) fgX4_25 hq0 (by decide) rfl dX4_read_63 ?_
            refine Ex_iconst (v := 3) dX4_read_66 (by decide) ?_
            refine Ex_icmp_eq (tgt := 72) dX4_read_67 (by decide) ?_ ?_
            · refine Ex_iinc (v := x2 + 1) (L2 := [(2, .int (x2 + 1)), (0, .ref (a0 + q0)), (1, .ref (a0 + q1))]) dX4_read_72 2 rfl rfl (by decide) rfl ?_
              refine Ex_aload_n dX4_read_75 rfl 1 rfl ?_
              refine Ex_callVV (n := 0) (dp2 := 1) [] cvX4_43 hq0 rfl rfl (by decide) (by decide) (Nat.le_of_ble_eq_true rfl) rfl (fun μ2 hv => c_X4_takeToken a0 F μ_23 q0 hq0 hv) dX4_read_76 (fun μ_26 hv_27 => ?_)
              refine Ex_goto (tgt := 25) dX4_read_79 (by decide) ?_
              refine Ex_perm [1, 2, 0] rfl ?_
              exact ih (x2 + 1) μ_26
            · refine Ex_iconst (v := (-1)) dX4_read_70 (by decide) ?_
              exact Ex_iret dX4_read_71 rfl (fun ty h => by cases h; rfl)
          · refine Ex_iconst (v := (-1)) dX4_read_56 (by decide) ?_
            exact Ex_iret dX4_read_57 rfl (fun ty h => by cases h; rfl)
def f_X4_read (F : Nat) (μ : Mem) (t : Nat) (p1 : Nat) : Option (Int32 × Mem) := (f_X7_begin F μ p1).bind (fun μ_2 => lt (sI μ_2 t 1 0) (fun μ_4 => lt (sI μ_4 t 5 0) (fun μ_5 => lt (sI μ_5 t 6 0) (fun μ_6 => (f_X4_takeToken F μ_6 t).bind (fun μ_8 => f_X4_read_L25 F t p1 (fun x2_28 μ_29 => some (x2_28, μ_29)) F 0 μ_8)))))
set_option maxRecDepth 100000 in
set_option maxHeartbeats 4000000 in
theorem c_X4_read (a0 F : Nat) (μ : Mem) (t : Nat) (p1 : Nat) (hk0 : kd t = 4) (hk1 : kd p1 = 7) {v : Int32} {μ2 : Mem} (hr : f_X4_read F μ t p1 = some (v, μ2)) : Ct a0 yX4_read cX4_read 3 (some .int) 5 [.ref (a0 + t), .ref (a0 + p1)] μ (some (.int v)) μ2 := by
  refine Ct_of (own := RX4) (ι := (fun x => (some (.int x.1), x.2))) (o := f_X4_read F μ t p1) (by decide +kernel) rfl (Nat.le_of_ble_eq_true rfl) ?_ hr rfl ⟨_, rfl⟩
  show Ex a0 RX4 cX4_read 3 (some .int) 5 none (fun x => (some (.int x.1), x.2)) 0 [(0, .ref (a0 + t)), (1, .ref (a0 + p1))] [] μ (f_X4_read F μ t p1)
  unfold f_X4_read
  refine Ex_aload_n dX4_read_0 rfl 1 rfl ?_
  refine Ex_callVV (n := 0) (dp2 := 0) [] cvX4_38 hk1 rfl rfl (by decide) (by decide) (Nat.le_of_ble_eq_true rfl) rfl (fun μ2 hv => c_X7_begin a0 F μ p1 hk1 hv) dX4_read_1 (fun μ_2 hv_3 => ?_)
  refine Ex_aload_n dX4_read_4 rfl 0 rfl ?_
  refine Ex_iconst (v := 0) dX4_read_5 (by decide) ?_
  refine Ex_putI fgX4_18 fp4_1 hk0 (by decide) rfl rfl (Nat.le_of_ble_eq_true rfl) (fs4_1 a0 μ_2 t 0) dX4_read_6 (fun μ_4 => ?_)
  refine Ex_aload_n dX4_read_9 rfl 0 rfl ?_
  refine Ex_iconst (v := 0) dX4_read_10 (by decide) ?_
  refine Ex_putI fgX4_31 fp4_5 hk0 (by decide) rfl rfl (Nat.le_of_ble_eq_true rfl) (fs4_5 a0 μ_4 t 0) dX4_read_11 (fun μ_5 => ?_)
  refine Ex_aload_n dX4_read_14 rfl 0 rfl ?_
  refine Ex_iconst (v := 0) dX4_read_15 (by decide) ?_
  refine Ex_putI fgX4_35 fp4_6 hk0 (by decide) rfl rfl (Nat.le_of_ble_eq_true rfl) (fs4_6 a0 μ_5 t 0) dX4_read_16 (fun μ_6 => ?_)
  refine Ex_iconst (v := 0) dX4_read_19 (by decide) ?_
  refine Ex_istore_n (L2 := [(2, .int 0), (0, .ref (a0 + t)), (1, .ref (a0 + p1))]) dX4_read_20 rfl (by decide) rfl ?_
  refine Ex_aload_n dX4_read_21 rfl 1 rfl ?_
  refine Ex_callVV (n := 0) (dp2 := 1) [] cvX4_43 hk0 rfl rfl (by decide) (by decide) (Nat.le_of_ble_eq_true rfl) rfl (fun μ2 hv => c_X4_takeToken a0 F μ_6 t hk0 hv) dX4_read_22 (fun μ_8 hv_9 => ?_)
  refine Ex_perm [1, 2, 0] rfl ?_
  refine c_X4_read_L25 a0 F t p1 _ hk0 hk1 (fun x2_28 μ_29 => ?_) F 0 μ_8
  refine Ex_iload_n dX4_read_82 rfl 0 rfl ?_
  exact Ex_iret dX4_read_83 rfl (fun ty h => by cases h; rfl)

def f_X5_add (F : Nat) (μ : Mem) (t : Nat) (p1 : Int32) : Option (Int32 × Mem) := (if (gI μ t 1) < 150 then if ix (gI μ t 1) 150 = true then lt (sI μ (t + 1) ((gI μ t 1).toNatClampNeg) p1) (fun μ_1 => lt (sI μ_1 t 1 ((gI μ_1 t 1) + 1)) (fun μ_2 => some (1, μ_2))) else none else some (0, μ))
set_option maxRecDepth 100000 in
set_option maxHeartbeats 4000000 in
theorem c_X5_add (a0 F : Nat) (μ : Mem) (t : Nat) (p1 : Int32) (hk0 : kd t = 5) {v : Int32} {μ2 : Mem} (hr : f_X5_add F μ t p1 = some (v, μ2)) : Ct a0 yX5_add cX5_add 2 (some .boolean) 0 [.ref (a0 + t), .int p1] μ (some (.int v)) μ2 := by
  refine Ct_of (own := RX5) (ι := (fun x => (some (.int x.1), x.2))) (o := f_X5_add F μ t p1) (by decide +kernel) rfl (Nat.le_of_ble_eq_true rfl) ?_ hr rfl ⟨_, rfl⟩
  show Ex a0 RX5 cX5_add 2 (some .boolean) 0 none (fun x => (some (.int x.1), x.2)) 0 [(0, .ref (a0 + t)), (1, .int p1)] [] μ (f_X5_add F μ t p1)
  unfold f_X5_add
  refine Ex_aload_n dX5_add_0 rfl 0 rfl ?_
  refine Ex_get (v := .int (gI μ t 1)) fgX5_15 hk0 (by decide) rfl dX5_add_1 ?_
  refine Ex_sipush (v := 150) dX5_add_4 (by decide) ?_
  refine Ex_icmp_lt (tgt := 12) dX5_add_7 (by decide) ?_ ?_
  · refine Ex_aload_n dX5_add_12 rfl 0 rfl ?_
    refine Ex_get (v := .ref (a0 + (t + 1))) fgX5_9 hk0 (by decide) rfl dX5_add_13 ?_
    refine Ex_aload_n dX5_add_16 rfl 0 rfl ?_
    refine Ex_get (v := .int (gI μ t 1)) fgX5_15 hk0 (by decide) rfl dX5_add_17 ?_
    refine Ex_iload_n dX5_add_20 rfl 1 rfl ?_
    refine Ex_iast 150 (kn_5_1 hk0) (by decide) dX5_add_21 (fun μ_1 => ?_)
    refine Ex_aload_n dX5_add_22 rfl 0 rfl ?_
    refine Ex_dup dX5_add_23 rfl ?_
    refine Ex_get (v := .int (gI μ_1 t 1)) fgX5_15 hk0 (by decide) rfl dX5_add_24 ?_
    refine Ex_iconst (v := 1) dX5_add_27 (by decide) ?_
    refine Ex_iadd dX5_add_28 ?_
    refine Ex_putI fgX5_15 fp5_1 hk0 (by decide) rfl rfl (Nat.le_of_ble_eq_true rfl) (fs5_1 a0 μ_1 t ((gI μ_1 t 1) + 1)) dX5_add_29 (fun μ_2 => ?_)
    refine Ex_iconst (v := 1) dX5_add_32 (by decide) ?_
    exact Ex_iret dX5_add_33 rfl (fun ty h => by cases h; rfl)
  · refine Ex_iconst (v := 0) dX5_add_10 (by decide) ?_
    exact Ex_iret dX5_add_11 rfl (fun ty h => by cases h; rfl)

def f_X6_admit (F : Nat) (μ : Mem) (t : Nat) (p1 : Int32) (p2 : Int32) : Option (Mem) := (if p1 < 0 then some μ else (if p1 < (gI μ t 3) then if ix p1 5 = true then lt (sI μ (t + 1) p1.toNatClampNeg p2) (fun μ_1 => some μ_1) else none else some μ))
set_option maxRecDepth 100000 in
set_option maxHeartbeats 4000000 in
theorem c_X6_admit (a0 F : Nat) (μ : Mem) (t : Nat) (p1 : Int32) (p2 : Int32) (hk0 : kd t = 6) {μ2 : Mem} (hr : f_X6_admit F μ t p1 p2 = some μ2) : Ct a0 yX6_admit cX6_admit 3 none 0 [.ref (a0 + t), .int p1, .int p2] μ none μ2 := by
  refine Ct_of (own := RX6) (ι := (fun m => (none, m))) (o := f_X6_admit F μ t p1 p2) (by decide +kernel) rfl (Nat.le_of_ble_eq_true rfl) ?_ hr rfl rfl
  show Ex a0 RX6 cX6_admit 3 none 0 none (fun m => (none, m)) 0 [(0, .ref (a0 + t)), (1, .int p1), (2, .int p2)] [] μ (f_X6_admit F μ t p1 p2)
  unfold f_X6_admit
  refine Ex_iload_n dX6_admit_0 rfl 1 rfl ?_
  refine Ex_if_lt (tgt := 19) dX6_admit_1 (by decide) ?_ ?_
  · exact Ex_vret dX6_admit_19 rfl
  · refine Ex_iload_n dX6_admit_4 rfl 1 rfl ?_
    refine Ex_aload_n dX6_admit_5 rfl 0 rfl ?_
    refine Ex_get (v := .int (gI μ t 3)) fgX6_21 hk0 (by decide) rfl dX6_admit_6 ?_
    refine Ex_icmp_ge (tgt := 19) dX6_admit_9 (by decide) ?_ ?_
    · exact Ex_vret dX6_admit_19 rfl
    · refine Ex_aload_n dX6_admit_12 rfl 0 rfl ?_
      refine Ex_get (v := .ref (a0 + (t + 1))) fgX6_9 hk0 (by decide) rfl dX6_admit_13 ?_
      refine Ex_iload_n dX6_admit_16 rfl 1 rfl ?_
      refine Ex_iload_n dX6_admit_17 rfl 2 rfl ?_
      refine Ex_iast 5 (kn_6_1 hk0) (by decide) dX6_admit_18 (fun μ_1 => ?_)
      exact Ex_vret dX6_admit_19 rfl

def f_X6_begin (F : Nat) (μ : Mem) (t : Nat) (p1 : Int32) (p2 : Int32) : Option (Mem) := lt (sI μ t 4 p1) (fun μ_1 => lt (sI μ_1 t 3 (imin p2 5)) (fun μ_2 => some μ_2))
set_option maxRecDepth 100000 in
set_option maxHeartbeats 4000000 in
theorem c_X6_begin (a0 F : Nat) (μ : Mem) (t : Nat) (p1 : Int32) (p2 : Int32) (hk0 : kd t = 6) {μ2 : Mem} (hr : f_X6_begin F μ t p1 p2 = some μ2) : Ct a0 yX6_begin cX6_begin 3 none 1 [.ref (a0 + t), .int p1, .int p2] μ none μ2 := by
  refine Ct_of (own := RX6) (ι := (fun m => (none, m))) (o := f_X6_begin F μ t p1 p2) (by decide +kernel) rfl (Nat.le_of_ble_eq_true rfl) ?_ hr rfl rfl
  show Ex a0 RX6 cX6_begin 3 none 1 none (fun m => (none, m)) 0 [(0, .ref (a0 + t)), (1, .int p1), (2, .int p2)] [] μ (f_X6_begin F μ t p1 p2)
  unfold f_X6_begin
  refine Ex_aload_n dX6_begin_0 rfl 0 rfl ?_
  refine Ex_iload_n dX6_begin_1 rfl 1 rfl ?_
  refine Ex_putI fgX6_25 fp6_4 hk0 (by decide) rfl rfl (Nat.le_of_ble_eq_true rfl) (fs6_4 a0 μ t p1) dX6_begin_2 (fun μ_1 => ?_)
  refine Ex_aload_n dX6_begin_5 rfl 0 rfl ?_
  refine Ex_iload_n dX6_begin_6 rfl 2 rfl ?_
  refine Ex_iconst (v := 5) dX6_begin_7 (by decide) ?_
  refine Ex_mmin cvX6_28 (by decide) (Nat.le_of_ble_eq_true rfl) dX6_begin_8 ?_
  refine Ex_putI fgX6_21 fp6_3 hk0 (by decide) rfl rfl (Nat.le_of_ble_eq_true rfl) (fs6_3 a0 μ_1 t (imin p2 5)) dX6_begin_11 (fun μ_2 => ?_)
  exact Ex_vret dX6_begin_14 rfl

def f_X6_seat_L21 (F : Nat) (rec : Mem → Nat → Int32 → Int32 → Int32 → Option (Int32 × Mem)) (q0 : Nat) (x1 : Int32) (x2 : Int32) (x3 : Int32) (x4 : Int32) (k : Int32 → Mem → Option (Int32 × Mem)) : Nat → Int32 → Mem → Option (Int32 × Mem)
  | 0, _, _ => none
  | n + 1, x5, μ => (if x2 < x5 then k x5 μ else (if x5 < x3 then if ix x5 5 = true then (if (gI μ (q0 + 3) x5.toNatClampNeg) < x4 then f_X6_seat_L21 F rec q0 x1 x2 x3 x4 k n (x5 + 1) μ else if ix x1 5 = true then lt (sI μ (q0 + 2) x1.toNatClampNeg x5) (fun μ_1 => if ix x5 5 = true then if ix x5 5 = true then lt (sI μ_1 (q0 + 3) x5.toNatClampNeg ((gI μ_1 (q0 + 3) x5.toNatClampNeg) - x4)) (fun μ_2 => bW (rec μ_2 q0 (x1 + 1) (imax x2 (x5 + 1)) x3) (fun v_3 μ_4 => (if v_3 = 0 then if ix x5 5 = true then if ix x5 5 = true then lt (sI μ_4 (q0 + 3) x5.toNatClampNeg ((gI μ_4 (q0 + 3) x5.toNatClampNeg) + x4)) (fun μ_6 => f_X6_seat_L21 F rec q0 x1 x2 x3 x4 k n (x5 + 1) μ_6) else none else none else some (1, μ_4)))) else none else none) else none) else none else k x5 μ))
set_option maxRecDepth 100000 in
set_option maxHeartbeats 4000000 in
theorem c_X6_seat_L21 (a0 : Nat) (d : Nat) (F : Nat) (rec : Mem → Nat → Int32 → Int32 → Int32 → Option (Int32 × Mem)) (q0 : Nat) (x1 : Int32) (x2 : Int32) (x3 : Int32) (x4 : Int32) (k : Int32 → Mem → Option (Int32 × Mem)) (hq0 : kd q0 = 6) (hrec : ∀ (μ : Mem) (q : Nat) (x y z : Int32), kd q = 6 → ∀ v μ2, rec μ q x y z = some (v, μ2) → Ct a0 yX6_seat cX6_seat 6 (some .boolean) d [.ref (a0 + q), .int x, .int y, .int z] μ (some (.int v)) μ2) (hk : ∀ (x5 : Int32) (μ : Mem), Ex a0 RX6 cX6_seat 6 (some .boolean) (d + 1) none (fun x => (some (.int x.1), x.2)) 104 [] [] μ (k x5 μ)) : ∀ (n : Nat) (x5 : Int32) (μ : Mem), Ex a0 RX6 cX6_seat 6 (some .boolean) (d + 1) none (fun x => (some (.int x.1), x.2)) 21 [(0, .ref (a0 + q0)), (1, .int x1), (2, .int x2), (3, .int x3), (4, .int x4), (5, .int x5)] [] μ (f_X6_seat_L21 F rec q0 x1 x2 x3 x4 k n x5 μ) := by
  intro n
  induction n with
  | zero => intro x5 μ; exact Ex_none
  | succ n ih =>
    intro x5 μ
    rw [f_X6_seat_L21]
    refine Ex_iload dX6_seat_21 5 rfl ?_
    refine Ex_iload_n dX6_seat_23 rfl 2 rfl ?_
    refine Ex_icmp_gt (tgt := 104) dX6_seat_24 (by decide) ?_ ?_
    · refine Ex_perm [] rfl ?_
      exact hk x5 μ
    · refine Ex_iload dX6_seat_27 5 rfl ?_
      refine Ex_iload_n dX6_seat_29 rfl 3 rfl ?_
      refine Ex_icmp_ge (tgt := 104) dX6_seat_30 (by decide) ?_ ?_
      · refine Ex_perm [] rfl ?_
        exact hk x5 μ
      · refine Ex_iload dX6_seat_33 4 rfl ?_
        refine Ex_aload_n dX6_seat_35 rfl 0 rfl ?_
        refine Ex_get (v := .ref (a0 + (q0 + 3))) fgX6_18 hq0 (by decide) rfl dX6_seat_36 ?_
        refine Ex_iload dX6_seat_39 5 rfl ?_
        refine Ex_iald 5 (kn_6_3 hq0) (by decide) dX6_seat_41 ?_
        refine Ex_icmp_gt (tgt := 98) dX6_seat_42 (by decide) ?_ ?_
        · refine Ex_iinc (v := x5 + 1) (L2 := [(5, .int (x5 + 1)), (0, .ref (a0 + q0)), (1, .int x1), (2, .int x2), (3, .int x3), (4, .int x4)]) dX6_seat_98 5 rfl rfl (by decide) rfl ?_
          refine Ex_goto (tgt := 21) dX6_seat_101 (by decide) ?_
          refine Ex_perm [1, 2, 3, 4, 5, 0] rfl ?_
          exact ih (x5 + 1) μ
        · refine Ex_aload_n dX6_seat_45 rfl 0 rfl ?_
          refine Ex_get (v := .ref (a0 + (q0 + 2))) fgX6_15 hq0 (by decide) rfl dX6_seat_46 ?_
          refine Ex_iload_n dX6_seat_49 rfl 1 rfl ?_
          refine Ex_iload dX6_seat_50 5 rfl ?_
          refine Ex_iast 5 (kn_6_2 hq0) (by decide) dX6_seat_52 (fun μ_1 => ?_)
          refine Ex_aload_n dX6_seat_53 rfl 0 rfl ?_
          refine Ex_get (v := .ref (a0 + (q0 + 3))) fgX6_18 hq0 (by decide) rfl dX6_seat_54 ?_
          refine Ex_iload dX6_seat_57 5 rfl ?_
          refine Ex_dup2 dX6_seat_59 rfl rfl ?_
          refine Ex_iald 5 (kn_6_3 hq0) (by decide) dX6_seat_60 ?_
          refine Ex_iload dX6_seat_61 4 rfl ?_
          refine Ex_isub dX6_seat_63 ?_
          refine Ex_iast 5 (kn_6_3 hq0) (by decide) dX6_seat_64 (fun μ_2 => ?_)
          refine Ex_aload_n dX6_seat_65 rfl 0 rfl ?_
          refine Ex_iload_n dX6_seat_66 rfl 1 rfl ?_
          refine Ex_iconst (v := 1) dX6_seat_67 (by decide) ?_
          refine Ex_iadd dX6_seat_68 ?_
          refine Ex_iload_n dX6_seat_69 rfl 2 rfl ?_
          refine Ex_iload dX6_seat_70 5 rfl ?_
          refine Ex_iconst (v := 1) dX6_seat_72 (by decide) ?_
          refine Ex_iadd dX6_seat_73 ?_
          refine Ex_mmax cvX6_38 (by omega) (Nat.le_of_ble_eq_true rfl) dX6_seat_74 ?_
          refine Ex_iload_n dX6_seat_77 rfl 3 rfl ?_
          refine Ex_callSW (n := 4) (dp2 := d) [.ref (a0 + q0), .int (x1 + 1), .int (imax x2 (x5 + 1)), .int x3] cvX6_34 rfl (Nat.lt_succ_self _) (by decide) (Nat.le_of_ble_eq_true rfl) rfl (fun v μ2 hv => hrec μ_2 q0 (x1 + 1) (imax x2 (x5 + 1)) x3 hq0 v μ2 hv) dX6_seat_78 (fun v_3 μ_4 hv_5 => ?_)
          refine Ex_if_eq (tgt := 86) dX6_seat_81 (by decide) ?_ ?_
          · refine Ex_aload_n dX6_seat_86 rfl 0 rfl ?_
            refine Ex_get (v := .ref (a0 + (q0 + 3))) fgX6_18 hq0 (by decide) rfl dX6_seat_87 ?_
            refine Ex_iload dX6_seat_90 5 rfl ?_
            refine Ex_dup2 dX6_seat_92 rfl rfl ?_
            refine Ex_iald 5 (kn_6_3 hq0) (by decide) dX6_seat_93 ?_
            refine Ex_iload dX6_seat_94 4 rfl ?_
            refine Ex_iadd dX6_seat_96 ?_
            refine Ex_iast 5 (kn_6_3 hq0) (by decide) dX6_seat_97 (fun μ_6 => ?_)
            refine Ex_iinc (v := x5 + 1) (L2 := [(5, .int (x5 + 1)), (0, .ref (a0 + q0)), (1, .int x1), (2, .int x2), (3, .int x3), (4, .int x4)]) dX6_seat_98 5 rfl rfl (by decide) rfl ?_
            refine Ex_goto (tgt := 21) dX6_seat_101 (by decide) ?_
            refine Ex_perm [1, 2, 3, 4, 5, 0] rfl ?_
            exact ih (x5 + 1) μ_6
          · refine Ex_iconst (v := 1) dX6_seat_84 (by decide) ?_
            exact Ex_iret dX6_seat_85 rfl (fun ty h => by cases h; rfl)
def f_X6_seatR (F : Nat) : Nat → Mem → Nat → Int32 → Int32 → Int32 → Option (Int32 × Mem)
  | 0, _, _, _, _, _ => none
  | n + 1, μ, p1, p2, p3, p4 => lt (f_X6_seatR F n) (fun rec => (if p2 < (gI μ p1 3) then if ix p2 5 = true then f_X6_seat_L21 F rec p1 p2 p3 p4 (gI μ (p1 + 1) p2.toNatClampNeg) (fun x5_7 μ_8 => some (0, μ_8)) F 0 μ else none else some (1, μ)))
def f_X6_seat (F : Nat) (μ : Mem) (p1 : Nat) (p2 p3 p4 : Int32) : Option (Int32 × Mem) := f_X6_seatR F 8 μ p1 p2 p3 p4
set_option maxRecDepth 100000 in
set_option maxHeartbeats 4000000 in
theorem c_X6_seatR (a0 F : Nat) : ∀ (n : Nat) (μ : Mem) (p1 : Nat) (p2 p3 p4 : Int32), kd p1 = 6 → ∀ v μ2, f_X6_seatR F n μ p1 p2 p3 p4 = some (v, μ2) → Ct a0 yX6_seat cX6_seat 6 (some .boolean) (1 + n) [.ref (a0 + p1), .int p2, .int p3, .int p4] μ (some (.int v)) μ2 := by
  intro n
  induction n with
  | zero => intro μ p1 p2 p3 p4 hk1 v μ2 hr; cases hr
  | succ n ih =>
    intro μ p1 p2 p3 p4 hk1 v μ2 hr
    refine Ct_of (own := RX6) (ι := (fun x => (some (.int x.1), x.2))) (o := f_X6_seatR F (n + 1) μ p1 p2 p3 p4) (by decide +kernel) rfl (Nat.le_of_ble_eq_true rfl) ?_ hr rfl ⟨_, rfl⟩
    show Ex a0 RX6 cX6_seat 6 (some .boolean) (1 + (n + 1)) none (fun x => (some (.int x.1), x.2)) 0 [(0, .ref (a0 + p1)), (1, .int p2), (2, .int p3), (3, .int p4)] [] μ (f_X6_seatR F (n + 1) μ p1 p2 p3 p4)
    obtain ⟨d, hd⟩ : ∃ d, d = 1 + n := ⟨_, rfl⟩
    have hrec : ∀ (μ : Mem) (q : Nat) (x y z : Int32), kd q = 6 → ∀ v μ2, f_X6_seatR F n μ q x y z = some (v, μ2) → Ct a0 yX6_seat cX6_seat 6 (some .boolean) d [.ref (a0 + q), .int x, .int y, .int z] μ (some (.int v)) μ2 := fun μ q x y z hq v μ2 h => by rw [hd]; exact ih μ q x y z hq v μ2 h
    rw [f_X6_seatR, show 1 + (n + 1) = d + 1 by omega]
    unfold lt
    generalize f_X6_seatR F n = rec at hrec ⊢
    refine Ex_iload_n dX6_seat_0 rfl 1 rfl ?_
    refine Ex_aload_n dX6_seat_1 rfl 0 rfl ?_
    refine Ex_get (v := .int (gI μ p1 3)) fgX6_21 hk1 (by decide) rfl dX6_seat_2 ?_
    refine Ex_icmp_lt (tgt := 10) dX6_seat_5 (by decide) ?_ ?_
    · refine Ex_aload_n dX6_seat_10 rfl 0 rfl ?_
      refine Ex_get (v := .ref (a0 + (p1 + 1))) fgX6_9 hk1 (by decide) rfl dX6_seat_11 ?_
      refine Ex_iload_n dX6_seat_14 rfl 1 rfl ?_
      refine Ex_iald 5 (kn_6_1 hk1) (by decide) dX6_seat_15 ?_
      refine Ex_istore (L2 := [(4, .int (gI μ (p1 + 1) p2.toNatClampNeg)), (0, .ref (a0 + p1)), (1, .int p2), (2, .int p3), (3, .int p4)]) dX6_seat_16 (by decide) rfl ?_
      refine Ex_iconst (v := 0) dX6_seat_18 (by decide) ?_
      refine Ex_istore (L2 := [(5, .int 0), (4, .int (gI μ (p1 + 1) p2.toNatClampNeg)), (0, .ref (a0 + p1)), (1, .int p2), (2, .int p3), (3, .int p4)]) dX6_seat_19 (by decide) rfl ?_
      refine Ex_perm [2, 3, 4, 5, 1, 0] rfl ?_
      refine c_X6_seat_L21 a0 d F rec p1 p2 p3 p4 (gI μ (p1 + 1) p2.toNatClampNeg) _ hk1 hrec (fun x5_7 μ_8 => ?_) F 0 μ
      refine Ex_iconst (v := 0) dX6_seat_104 (by decide) ?_
      exact Ex_iret dX6_seat_105 rfl (fun ty h => by cases h; rfl)
    · refine Ex_iconst (v := 1) dX6_seat_8 (by decide) ?_
      exact Ex_iret dX6_seat_9 rfl (fun ty h => by cases h; rfl)
theorem c_X6_seat (a0 F : Nat) (μ : Mem) (p1 : Nat) (p2 p3 p4 : Int32) (hk1 : kd p1 = 6) {v : Int32} {μ2 : Mem} (hr : f_X6_seat F μ p1 p2 p3 p4 = some (v, μ2)) : Ct a0 yX6_seat cX6_seat 6 (some .boolean) 9 [.ref (a0 + p1), .int p2, .int p3, .int p4] μ (some (.int v)) μ2 := c_X6_seatR a0 F 8 μ p1 p2 p3 p4 hk1 v μ2 hr

def f_X6_fill_L12 (F : Nat) (q0 : Nat) (x1 : Int32) (k : Int32 → Mem → Option (Int32 × Mem)) : Nat → Int32 → Mem → Option (Int32 × Mem)
  | 0, _, _ => none
  | n + 1, x2, μ => (if x2 < x1 then if ix x2 5 = true then lt (sI μ (q0 + 3) x2.toNatClampNeg (gI μ q0 4)) (fun μ_1 => f_X6_fill_L12 F q0 x1 k n (x2 + 1) μ_1) else none else k x2 μ)
set_option maxRecDepth 100000 in
set_option maxHeartbeats 4000000 in
theorem c_X6_fill_L12 (a0 : Nat) (F : Nat) (q0 : Nat) (x1 : Int32) (k : Int32 → Mem → Option (Int32 × Mem)) (hq0 : kd q0 = 6) (hk : ∀ (x2 : Int32) (μ : Mem), Ex a0 RX6 cX6_fill 3 (some .int) 10 none (fun x => (some (.int x.1), x.2)) 33 [(0, .ref (a0 + q0)), (1, .int x1)] [] μ (k x2 μ)) : ∀ (n : Nat) (x2 : Int32) (μ : Mem), Ex a0 RX6 cX6_fill 3 (some .int) 10 none (fun x => (some (.int x.1), x.2)) 12 [(0, .ref (a0 + q0)), (1, .int x1), (2, .int x2)] [] μ (f_X6_fill_L12 F q0 x1 k n x2 μ) := by
  intro n
  induction n with
  | zero => intro x2 μ; exact Ex_none
  | succ n ih =>
    intro x2 μ
    rw [f_X6_fill_L12]
    refine Ex_iload_n dX6_fill_12 rfl 2 rfl ?_
    refine Ex_iload_n dX6_fill_13 rfl 1 rfl ?_
    refine Ex_icmp_ge (tgt := 33) dX6_fill_14 (by decide) ?_ ?_
    · refine Ex_perm [0, 1] rfl ?_
      exact hk x2 μ
    · refine Ex_aload_n dX6_fill_17 rfl 0 rfl ?_
      refine Ex_get (v := .ref (a0 + (q0 + 3))) fgX6_18 hq0 (by decide) rfl dX6_fill_18 ?_
      refine Ex_iload_n dX6_fill_21 rfl 2 rfl ?_
      refine Ex_aload_n dX6_fill_22 rfl 0 rfl ?_
      refine Ex_get (v := .int (gI μ q0 4)) fgX6_25 hq0 (by decide) rfl dX6_fill_23 ?_
      refine Ex_iast 5 (kn_6_3 hq0) (by decide) dX6_fill_26 (fun μ_1 => ?_)
      refine Ex_iinc (v := x2 + 1) (L2 := [(2, .int (x2 + 1)), (0, .ref (a0 + q0)), (1, .int x1)]) dX6_fill_27 2 rfl rfl (by decide) rfl ?_
      refine Ex_goto (tgt := 12) dX6_fill_30 (by decide) ?_
      refine Ex_perm [1, 2, 0] rfl ?_
      exact ih (x2 + 1) μ_1

def f_X6_fill_L2 (F : Nat) (q0 : Nat) (k : Int32 → Mem → Option (Int32 × Mem)) : Nat → Int32 → Mem → Option (Int32 × Mem)
  | 0, _, _ => none
  | n + 1, x1, μ => (if (gI μ q0 3) < x1 then k x1 μ else f_X6_fill_L12 F q0 x1 (fun x2_2 μ_3 => bW (f_X6_seat F μ_3 q0 0 0 x1) (fun v_4 μ_5 => (if v_4 = 0 then f_X6_fill_L2 F q0 k n (x1 + 1) μ_5 else some (x1, μ_5)))) F 0 μ)
set_option maxRecDepth 100000 in
set_option maxHeartbeats 4000000 in
theorem c_X6_fill_L2 (a0 : Nat) (F : Nat) (q0 : Nat) (k : Int32 → Mem → Option (Int32 × Mem)) (hq0 : kd q0 = 6) (hk : ∀ (x1 : Int32) (μ : Mem), Ex a0 RX6 cX6_fill 3 (some .int) 10 none (fun x => (some (.int x.1), x.2)) 51 [] [] μ (k x1 μ)) : ∀ (n : Nat) (x1 : Int32) (μ : Mem), Ex a0 RX6 cX6_fill 3 (some .int) 10 none (fun x => (some (.int x.1), x.2)) 2 [(0, .ref (a0 + q0)), (1, .int x1)] [] μ (f_X6_fill_L2 F q0 k n x1 μ) := by
  intro n
  induction n with
  | zero => intro x1 μ; exact Ex_none
  | succ n ih =>
    intro x1 μ
    rw [f_X6_fill_L2]
    refine Ex_iload_n dX6_fill_2 rfl 1 rfl ?_
    refine Ex_aload_n dX6_fill_3 rfl 0 rfl ?_
    refine Ex_get (v := .int (gI μ q0 3)) fgX6_21 hq0 (by decide) rfl dX6_fill_4 ?_
    refine Ex_icmp_gt (tgt := 51) dX6_fill_7 (by decide) ?_ ?_
    · refine Ex_perm [] rfl ?_
      exact hk x1 μ
    · refine Ex_iconst (v := 0) dX6_fill_10 (by decide) ?_
      refine Ex_istore_n (L2 := [(2, .int 0), (0, .ref (a0 + q0)), (1, .int x1)]) dX6_fill_11 rfl (by decide) rfl ?_
      refine Ex_perm [1, 2, 0] rfl ?_
      refine c_X6_fill_L12 a0 F q0 x1 _ hq0 (fun x2_2 μ_3 => ?_) F 0 μ
      refine Ex_aload_n dX6_fill_33 rfl 0 rfl ?_
      refine Ex_iconst (v := 0) dX6_fill_34 (by decide) ?_
      refine Ex_iconst (v := 0) dX6_fill_35 (by decide) ?_
      refine Ex_iload_n dX6_fill_36 rfl 1 rfl ?_
      refine Ex_callSW (n := 4) (dp2 := 9) [.ref (a0 + q0), .int 0, .int 0, .int x1] cvX6_34 rfl (by decide) (by decide) (Nat.le_of_ble_eq_true rfl) rfl (fun v μ2 hv => c_X6_seat a0 F μ_3 q0 0 0 x1 hq0 hv) dX6_fill_37 (fun v_4 μ_5 hv_6 => ?_)
      refine Ex_if_eq (tgt := 45) dX6_fill_40 (by decide) ?_ ?_
      · refine Ex_iinc (v := x1 + 1) (L2 := [(1, .int (x1 + 1)), (0, .ref (a0 + q0))]) dX6_fill_45 1 rfl rfl (by decide) rfl ?_
        refine Ex_goto (tgt := 2) dX6_fill_48 (by decide) ?_
        refine Ex_perm [1, 0] rfl ?_
        exact ih (x1 + 1) μ_5
      · refine Ex_iload_n dX6_fill_43 rfl 1 rfl ?_
        exact Ex_iret dX6_fill_44 rfl (fun ty h => by cases h; rfl)
def f_X6_fill (F : Nat) (μ : Mem) (t : Nat) : Option (Int32 × Mem) := f_X6_fill_L2 F t (fun x1_7 μ_8 => some ((-9), μ_8)) F 0 μ
set_option maxRecDepth 100000 in
set_option maxHeartbeats 4000000 in
theorem c_X6_fill (a0 F : Nat) (μ : Mem) (t : Nat) (hk0 : kd t = 6) {v : Int32} {μ2 : Mem} (hr : f_X6_fill F μ t = some (v, μ2)) : Ct a0 yX6_fill cX6_fill 3 (some .int) 10 [.ref (a0 + t)] μ (some (.int v)) μ2 := by
  refine Ct_of (own := RX6) (ι := (fun x => (some (.int x.1), x.2))) (o := f_X6_fill F μ t) (by decide +kernel) rfl (Nat.le_of_ble_eq_true rfl) ?_ hr rfl ⟨_, rfl⟩
  show Ex a0 RX6 cX6_fill 3 (some .int) 10 none (fun x => (some (.int x.1), x.2)) 0 [(0, .ref (a0 + t))] [] μ (f_X6_fill F μ t)
  unfold f_X6_fill
  refine Ex_iconst (v := 0) dX6_fill_0 (by decide) ?_
  refine Ex_istore_n (L2 := [(1, .int 0), (0, .ref (a0 + t))]) dX6_fill_1 rfl (by decide) rfl ?_
  refine Ex_perm [1, 0] rfl ?_
  refine c_X6_fill_L2 a0 F t _ hk0 (fun x1_7 μ_8 => ?_) F 0 μ
  refine Ex_bipush (v := (-9)) dX6_fill_51 (by decide) ?_
  exact Ex_iret dX6_fill_53 rfl (fun ty h => by cases h; rfl)

def f_X7_ends (F : Nat) (μ : Mem) (t : Nat) (p1 : Int32) : Option (Int32) := if ix p1 8 = true then if ix p1 8 = true then some ((1 <<< ((gI μ (t + 1) p1.toNatClampNeg) &&& 31)) ||| (1 <<< ((gI μ (t + 2) p1.toNatClampNeg) &&& 31))) else none else none
set_option maxRecDepth 100000 in
set_option maxHeartbeats 4000000 in
theorem c_X7_ends (a0 F : Nat) (μ : Mem) (t : Nat) (p1 : Int32) (hk0 : kd t = 7) {v : Int32} (hr : f_X7_ends F μ t p1 = some v) : Ct a0 yX7_ends cX7_ends 2 (some .int) 0 [.ref (a0 + t), .int p1] μ (some (.int v)) μ := by
  refine Ct_of (own := RX7) (ι := (fun v => (some (.int v), μ))) (o := f_X7_ends F μ t p1) (by decide +kernel) rfl (Nat.le_of_ble_eq_true rfl) ?_ hr rfl ⟨_, rfl⟩
  show Ex a0 RX7 cX7_ends 2 (some .int) 0 none (fun v => (some (.int v), μ)) 0 [(0, .ref (a0 + t)), (1, .int p1)] [] μ (f_X7_ends F μ t p1)
  unfold f_X7_ends
  refine Ex_iconst (v := 1) dX7_ends_0 (by decide) ?_
  refine Ex_aload_n dX7_ends_1 rfl 0 rfl ?_
  refine Ex_get (v := .ref (a0 + (t + 1))) fgX7_18 hk0 (by decide) rfl dX7_ends_2 ?_
  refine Ex_iload_n dX7_ends_5 rfl 1 rfl ?_
  refine Ex_iald 8 (kn_7_1 hk0) (by decide) dX7_ends_6 ?_
  refine Ex_ishl dX7_ends_7 ?_
  refine Ex_iconst (v := 1) dX7_ends_8 (by decide) ?_
  refine Ex_aload_n dX7_ends_9 rfl 0 rfl ?_
  refine Ex_get (v := .ref (a0 + (t + 2))) fgX7_22 hk0 (by decide) rfl dX7_ends_10 ?_
  refine Ex_iload_n dX7_ends_13 rfl 1 rfl ?_
  refine Ex_iald 8 (kn_7_2 hk0) (by decide) dX7_ends_14 ?_
  refine Ex_ishl dX7_ends_15 ?_
  refine Ex_ior dX7_ends_16 ?_
  exact Ex_iret dX7_ends_17 rfl (fun ty h => by cases h; rfl)

def f_X7_joined_L22 (F : Nat) (μ : Mem) (q0 : Nat) (x1 : Int32) (x4 : Int32) (x5 : Int32) (k : Int32 → Int32 → Option (Int32)) : Nat → Int32 → Int32 → Option (Int32)
  | 0, _, _ => none
  | n + 1, x3, x6 => (if x6 < (gI μ q0 1) then (if ((x1 >>> (x6 &&& 31)) &&& 1) = 0 then f_X7_joined_L22 F μ q0 x1 x4 x5 k n x3 (x6 + 1) else (f_X7_ends F μ q0 x6).bind (fun v_1 => (if (x3 &&& v_1) = 0 then f_X7_joined_L22 F μ q0 x1 x4 x5 k n x3 (x6 + 1) else (f_X7_ends F μ q0 x6).bind (fun v_4 => f_X7_joined_L22 F μ q0 x1 x4 x5 k n (x3 ||| v_4) (x6 + 1))))) else k x3 x6)
set_option maxRecDepth 100000 in
set_option maxHeartbeats 4000000 in
theorem c_X7_joined_L22 (a0 : Nat) (F : Nat) (μ : Mem) (q0 : Nat) (x1 : Int32) (x4 : Int32) (x5 : Int32) (k : Int32 → Int32 → Option (Int32)) (hq0 : kd q0 = 7) (hk : ∀ (x3 : Int32) (x6 : Int32), Ex a0 RX7 cX7_joined 7 (some .int) 1 none (fun v => (some (.int v), μ)) 66 [(0, .ref (a0 + q0)), (1, .int x1), (3, .int x3), (4, .int x4), (5, .int x5)] [] μ (k x3 x6)) : ∀ (n : Nat) (x3 : Int32) (x6 : Int32), Ex a0 RX7 cX7_joined 7 (some .int) 1 none (fun v => (some (.int v), μ)) 22 [(0, .ref (a0 + q0)), (1, .int x1), (3, .int x3), (4, .int x4), (5, .int x5), (6, .int x6)] [] μ (f_X7_joined_L22 F μ q0 x1 x4 x5 k n x3 x6) := by
  intro n
  induction n with
  | zero => intro x3 x6; exact Ex_none
  | succ n ih =>
    intro x3 x6
    rw [f_X7_joined_L22]
    refine Ex_iload dX7_joined_22 5 rfl ?_
    refine Ex_aload_n dX7_joined_24 rfl 0 rfl ?_
    refine Ex_get (v := .int (gI μ q0 1)) fgX7_15 hq0 (by decide) rfl dX7_joined_25 ?_
    refine Ex_icmp_ge (tgt := 66) dX7_joined_28 (by decide) ?_ ?_
    · refine Ex_perm [0, 1, 2, 3, 4] rfl ?_
      exact hk x3 x6
    · refine Ex_iload_n dX7_joined_31 rfl 1 rfl ?_
      refine Ex_iload dX7_joined_32 5 rfl ?_
      refine Ex_ishr dX7_joined_34 ?_
      refine Ex_iconst (v := 1) dX7_joined_35 (by decide) ?_
      refine Ex_iand dX7_joined_36 ?_
      refine Ex_if_eq (tgt := 60) dX7_joined_37 (by decide) ?_ ?_
      · refine Ex_iinc (v := x6 + 1) (L2 := [(6, .int (x6 + 1)), (0, .ref (a0 + q0)), (1, .int x1), (3, .int x3), (4, .int x4), (5, .int x5)]) dX7_joined_60 5 rfl rfl (by decide) rfl ?_
        refine Ex_goto (tgt := 22) dX7_joined_63 (by decide) ?_
        refine Ex_perm [1, 2, 3, 4, 5, 0] rfl ?_
        exact ih x3 (x6 + 1)
      · refine Ex_iload_n dX7_joined_40 rfl 2 rfl ?_
        refine Ex_aload_n dX7_joined_41 rfl 0 rfl ?_
        refine Ex_iload dX7_joined_42 5 rfl ?_
        refine Ex_callVR (n := 1) (dp2 := 0) [.int x6] cvX7_43 hq0 rfl rfl (by decide) (by decide) (Nat.le_of_ble_eq_true rfl) rfl (fun v hv => c_X7_ends a0 F μ q0 x6 hq0 hv) dX7_joined_44 (fun v_1 hv_3 => ?_)
        refine Ex_iand dX7_joined_47 ?_
        refine Ex_if_eq (tgt := 60) dX7_joined_48 (by decide) ?_ ?_
        · refine Ex_iinc (v := x6 + 1) (L2 := [(6, .int (x6 + 1)), (0, .ref (a0 + q0)), (1, .int x1), (3, .int x3), (4, .int x4), (5, .int x5)]) dX7_joined_60 5 rfl rfl (by decide) rfl ?_
          refine Ex_goto (tgt := 22) dX7_joined_63 (by decide) ?_
          refine Ex_perm [1, 2, 3, 4, 5, 0] rfl ?_
          exact ih x3 (x6 + 1)
        · refine Ex_iload_n dX7_joined_51 rfl 2 rfl ?_
          refine Ex_aload_n dX7_joined_52 rfl 0 rfl ?_
          refine Ex_iload dX7_joined_53 5 rfl ?_
          refine Ex_callVR (n := 1) (dp2 := 0) [.int x6] cvX7_43 hq0 rfl rfl (by decide) (by decide) (Nat.le_of_ble_eq_true rfl) rfl (fun v hv => c_X7_ends a0 F μ q0 x6 hq0 hv) dX7_joined_55 (fun v_4 hv_6 => ?_)
          refine Ex_ior dX7_joined_58 ?_
          refine Ex_istore_n (L2 := [(3, .int (x3 ||| v_4)), (0, .ref (a0 + q0)), (1, .int x1), (4, .int x4), (5, .int x5), (6, .int x6)]) dX7_joined_59 rfl (by decide) rfl ?_
          refine Ex_iinc (v := x6 + 1) (L2 := [(6, .int (x6 + 1)), (3, .int (x3 ||| v_4)), (0, .ref (a0 + q0)), (1, .int x1), (4, .int x4), (5, .int x5)]) dX7_joined_60 5 rfl rfl (by decide) rfl ?_
          refine Ex_goto (tgt := 22) dX7_joined_63 (by decide) ?_
          refine Ex_perm [2, 3, 1, 4, 5, 0] rfl ?_
          exact ih (x3 ||| v_4) (x6 + 1)

def f_X7_joined_L7 (F : Nat) (μ : Mem) (q0 : Nat) (x1 : Int32) (k : Int32 → Int32 → Option (Int32)) : Nat → Int32 → Int32 → Option (Int32)
  | 0, _, _ => none
  | n + 1, x3, x4 => (if x4 < (gI μ q0 0) then f_X7_joined_L22 F μ q0 x1 x4 x3 (fun x3_7 x6_8 => (if x3_7 = x3 then some x3_7 else f_X7_joined_L7 F μ q0 x1 k n x3_7 (x4 + 1))) F x3 0 else k x3 x4)
set_option maxRecDepth 100000 in
set_option maxHeartbeats 4000000 in
theorem c_X7_joined_L7 (a0 : Nat) (F : Nat) (μ : Mem) (q0 : Nat) (x1 : Int32) (k : Int32 → Int32 → Option (Int32)) (hq0 : kd q0 = 7) (hk : ∀ (x3 : Int32) (x4 : Int32), Ex a0 RX7 cX7_joined 7 (some .int) 1 none (fun v => (some (.int v), μ)) 80 [(3, .int x3)] [] μ (k x3 x4)) : ∀ (n : Nat) (x3 : Int32) (x4 : Int32), Ex a0 RX7 cX7_joined 7 (some .int) 1 none (fun v => (some (.int v), μ)) 7 [(0, .ref (a0 + q0)), (1, .int x1), (3, .int x3), (4, .int x4)] [] μ (f_X7_joined_L7 F μ q0 x1 k n x3 x4) := by
  intro n
  induction n with
  | zero => intro x3 x4; exact Ex_none
  | succ n ih =>
    intro x3 x4
    rw [f_X7_joined_L7]
    refine Ex_iload dX7_joined_7 3 rfl ?_
    refine Ex_aload_n dX7_joined_9 rfl 0 rfl ?_
    refine Ex_get (v := .int (gI μ q0 0)) fgX7_9 hq0 (by decide) rfl dX7_joined_10 ?_
    refine Ex_icmp_ge (tgt := 80) dX7_joined_13 (by decide) ?_ ?_
    · refine Ex_perm [2] rfl ?_
      exact hk x3 x4
    · refine Ex_iload_n dX7_joined_16 rfl 2 rfl ?_
      refine Ex_istore (L2 := [(5, .int x3), (0, .ref (a0 + q0)), (1, .int x1), (3, .int x3), (4, .int x4)]) dX7_joined_17 (by decide) rfl ?_
      refine Ex_iconst (v := 0) dX7_joined_19 (by decide) ?_
      refine Ex_istore (L2 := [(6, .int 0), (5, .int x3), (0, .ref (a0 + q0)), (1, .int x1), (3, .int x3), (4, .int x4)]) dX7_joined_20 (by decide) rfl ?_
      refine Ex_perm [2, 3, 4, 5, 1, 0] rfl ?_
      refine c_X7_joined_L22 a0 F μ q0 x1 x4 x3 _ hq0 (fun x3_7 x6_8 => ?_) F x3 0
      refine Ex_iload_n dX7_joined_66 rfl 2 rfl ?_
      refine Ex_iload dX7_joined_67 4 rfl ?_
      refine Ex_icmp_ne (tgt := 74) dX7_joined_69 (by decide) ?_ ?_
      · refine Ex_iinc (v := x4 + 1) (L2 := [(4, .int (x4 + 1)), (0, .ref (a0 + q0)), (1, .int x1), (3, .int x3_7), (5, .int x3)]) dX7_joined_74 3 rfl rfl (by decide) rfl ?_
        refine Ex_goto (tgt := 7) dX7_joined_77 (by decide) ?_
        refine Ex_perm [1, 2, 3, 0] rfl ?_
        exact ih x3_7 (x4 + 1)
      · refine Ex_iload_n dX7_joined_72 rfl 2 rfl ?_
        exact Ex_iret dX7_joined_73 rfl (fun ty h => by cases h; rfl)
def f_X7_joined (F : Nat) (μ : Mem) (t : Nat) (p1 : Int32) (p2 : Int32) : Option (Int32) := f_X7_joined_L7 F μ t p1 (fun x3_9 x4_10 => some x3_9) F (1 <<< (p2 &&& 31)) 1
set_option maxRecDepth 100000 in
set_option maxHeartbeats 4000000 in
theorem c_X7_joined (a0 F : Nat) (μ : Mem) (t : Nat) (p1 : Int32) (p2 : Int32) (hk0 : kd t = 7) {v : Int32} (hr : f_X7_joined F μ t p1 p2 = some v) : Ct a0 yX7_joined cX7_joined 7 (some .int) 1 [.ref (a0 + t), .int p1, .int p2] μ (some (.int v)) μ := by
  refine Ct_of (own := RX7) (ι := (fun v => (some (.int v), μ))) (o := f_X7_joined F μ t p1 p2) (by decide +kernel) rfl (Nat.le_of_ble_eq_true rfl) ?_ hr rfl ⟨_, rfl⟩
  show Ex a0 RX7 cX7_joined 7 (some .int) 1 none (fun v => (some (.int v), μ)) 0 [(0, .ref (a0 + t)), (1, .int p1), (2, .int p2)] [] μ (f_X7_joined F μ t p1 p2)
  unfold f_X7_joined
  refine Ex_iconst (v := 1) dX7_joined_0 (by decide) ?_
  refine Ex_iload_n dX7_joined_1 rfl 2 rfl ?_
  refine Ex_ishl dX7_joined_2 ?_
  refine Ex_istore_n (L2 := [(3, .int (1 <<< (p2 &&& 31))), (0, .ref (a0 + t)), (1, .int p1), (2, .int p2)]) dX7_joined_3 rfl (by decide) rfl ?_
  refine Ex_iconst (v := 1) dX7_joined_4 (by decide) ?_
  refine Ex_istore (L2 := [(4, .int 1), (3, .int (1 <<< (p2 &&& 31))), (0, .ref (a0 + t)), (1, .int p1), (2, .int p2)]) dX7_joined_5 (by decide) rfl ?_
  refine Ex_perm [2, 3, 1, 0] rfl ?_
  refine c_X7_joined_L7 a0 F μ t p1 _ hk0 (fun x3_9 x4_10 => ?_) F (1 <<< (p2 &&& 31)) 1
  refine Ex_iload_n dX7_joined_80 rfl 0 rfl ?_
  exact Ex_iret dX7_joined_81 rfl (fun ty h => by cases h; rfl)

def f_X7_joins (F : Nat) (μ : Mem) (t : Nat) (p1 : Int32) (p2 : Int32) (p3 : Int32) : Option (Int32) := (f_X7_joined F μ t p1 p2).bind (fun v_1 => (if ((v_1 >>> (p3 &&& 31)) &&& 1) = 0 then some 0 else some 1))
set_option maxRecDepth 100000 in
set_option maxHeartbeats 4000000 in
theorem c_X7_joins (a0 F : Nat) (μ : Mem) (t : Nat) (p1 : Int32) (p2 : Int32) (p3 : Int32) (hk0 : kd t = 7) {v : Int32} (hr : f_X7_joins F μ t p1 p2 p3 = some v) : Ct a0 yX7_joins cX7_joins 4 (some .boolean) 2 [.ref (a0 + t), .int p1, .int p2, .int p3] μ (some (.int v)) μ := by
  refine Ct_of (own := RX7) (ι := (fun v => (some (.int v), μ))) (o := f_X7_joins F μ t p1 p2 p3) (by decide +kernel) rfl (Nat.le_of_ble_eq_true rfl) ?_ hr rfl ⟨_, rfl⟩
  show Ex a0 RX7 cX7_joins 4 (some .boolean) 2 none (fun v => (some (.int v), μ)) 0 [(0, .ref (a0 + t)), (1, .int p1), (2, .int p2), (3, .int p3)] [] μ (f_X7_joins F μ t p1 p2 p3)
  unfold f_X7_joins
  refine Ex_aload_n dX7_joins_0 rfl 0 rfl ?_
  refine Ex_iload_n dX7_joins_1 rfl 1 rfl ?_
  refine Ex_iload_n dX7_joins_2 rfl 2 rfl ?_
  refine Ex_callVR (n := 2) (dp2 := 1) [.int p1, .int p2] cvX7_47 hk0 rfl rfl (by decide) (by decide) (Nat.le_of_ble_eq_true rfl) rfl (fun v hv => c_X7_joined a0 F μ t p1 p2 hk0 hv) dX7_joins_3 (fun v_1 hv_3 => ?_)
  refine Ex_iload_n dX7_joins_6 rfl 3 rfl ?_
  refine Ex_ishr dX7_joins_7 ?_
  refine Ex_iconst (v := 1) dX7_joins_8 (by decide) ?_
  refine Ex_iand dX7_joins_9 ?_
  refine Ex_if_eq (tgt := 17) dX7_joins_10 (by decide) ?_ ?_
  · refine Ex_iconst (v := 0) dX7_joins_17 (by decide) ?_
    exact Ex_iret dX7_joins_18 rfl (fun ty h => by cases h; rfl)
  · refine Ex_iconst (v := 1) dX7_joins_13 (by decide) ?_
    refine Ex_goto (tgt := 18) dX7_joins_14 (by decide) ?_
    exact Ex_iret dX7_joins_18 rfl (fun ty h => by cases h; rfl)
