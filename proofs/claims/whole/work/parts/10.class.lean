def f_X8_isAtEnd (F : Nat) (μ : Mem) (t : Nat) (p1 : Int32) (p2 : Int32) : Option (Int32) := if ix p1 5 = true then lt (gI μ (((t + 16) + 1) + 2) p1.toNatClampNeg) (fun x3_1 => if ix p2 8 = true then (if x3_1 = (gI μ ((gR μ t 1) + 1) p2.toNatClampNeg) then some 1 else if ix p2 8 = true then (if x3_1 = (gI μ ((gR μ t 1) + 2) p2.toNatClampNeg) then some 1 else some 0) else none) else none) else none
set_option maxRecDepth 100000 in
set_option maxHeartbeats 4000000 in
theorem c_X8_isAtEnd (a0 F : Nat) (μ : Mem) (t : Nat) (p1 : Int32) (p2 : Int32) (hk0 : kd t = 8) {v : Int32} (hr : f_X8_isAtEnd F μ t p1 p2 = some v) : Ct a0 yX8_isAtEnd cX8_isAtEnd 4 (some .boolean) 0 [.ref (a0 + t), .int p1, .int p2] μ (some (.int v)) μ := by
  refine Ct_of (own := RX8) (ι := (fun v => (some (.int v), μ))) (o := f_X8_isAtEnd F μ t p1 p2) (by decide +kernel) rfl (Nat.le_of_ble_eq_true rfl) ?_ hr rfl ⟨_, rfl⟩
  show Ex a0 RX8 cX8_isAtEnd 4 (some .boolean) 0 none (fun v => (some (.int v), μ)) 0 [(0, .ref (a0 + t)), (1, .int p1), (2, .int p2)] [] μ (f_X8_isAtEnd F μ t p1 p2)
  unfold f_X8_isAtEnd
  refine Ex_aload_n dX8_isAtEnd_0 rfl 0 rfl ?_
  refine Ex_get (v := .ref (a0 + (t + 16))) fgX8_29 hk0 (by decide) rfl dX8_isAtEnd_1 ?_
  refine Ex_get (v := .ref (a0 + ((t + 16) + 1))) fgX8_113 (kn_8_16 hk0) (by decide) rfl dX8_isAtEnd_4 ?_
  refine Ex_get (v := .ref (a0 + (((t + 16) + 1) + 2))) fgX8_122 (kn_0_1 (kn_8_16 hk0)) (by decide) rfl dX8_isAtEnd_7 ?_
  refine Ex_iload_n dX8_isAtEnd_10 rfl 1 rfl ?_
  refine Ex_iald 5 (kn_3_2 (kn_0_1 (kn_8_16 hk0))) (by decide) dX8_isAtEnd_11 ?_
  refine Ex_top (fun x3_1 => ?_)
  refine Ex_istore_n (L2 := [(3, .int x3_1), (0, .ref (a0 + t)), (1, .int p1), (2, .int p2)]) dX8_isAtEnd_12 rfl (by decide) rfl ?_
  refine Ex_iload_n dX8_isAtEnd_13 rfl 0 rfl ?_
  refine Ex_aload_n dX8_isAtEnd_14 rfl 1 rfl ?_
  refine Ex_wt (fun hw_2 => ?_)
  refine Ex_get (v := .ref (a0 + (gR μ t 1))) fgX8_19 hk0 (by decide) rfl dX8_isAtEnd_15 ?_
  refine Ex_get (v := .ref (a0 + ((gR μ t 1) + 1))) fgX8_97 (WT_k hw_2 hk0 (K := 8) rfl (by decide)) (by decide) rfl dX8_isAtEnd_18 ?_
  refine Ex_iload_n dX8_isAtEnd_21 rfl 3 rfl ?_
  refine Ex_iald 8 (kn_7_1 (WT_k hw_2 hk0 (K := 8) rfl (by decide))) (by decide) dX8_isAtEnd_22 ?_
  refine Ex_icmp_eq (tgt := 39) dX8_isAtEnd_23 (by decide) ?_ ?_
  · refine Ex_iconst (v := 1) dX8_isAtEnd_39 (by decide) ?_
    refine Ex_goto (tgt := 44) dX8_isAtEnd_40 (by decide) ?_
    exact Ex_iret dX8_isAtEnd_44 rfl (fun ty h => by cases h; rfl)
  · refine Ex_iload_n dX8_isAtEnd_26 rfl 0 rfl ?_
    refine Ex_aload_n dX8_isAtEnd_27 rfl 1 rfl ?_
    refine Ex_wt (fun hw_3 => ?_)
    refine Ex_get (v := .ref (a0 + (gR μ t 1))) fgX8_19 hk0 (by decide) rfl dX8_isAtEnd_28 ?_
    refine Ex_get (v := .ref (a0 + ((gR μ t 1) + 2))) fgX8_101 (WT_k hw_3 hk0 (K := 8) rfl (by decide)) (by decide) rfl dX8_isAtEnd_31 ?_
    refine Ex_iload_n dX8_isAtEnd_34 rfl 3 rfl ?_
    refine Ex_iald 8 (kn_7_2 (WT_k hw_3 hk0 (K := 8) rfl (by decide))) (by decide) dX8_isAtEnd_35 ?_
    refine Ex_icmp_ne (tgt := 43) dX8_isAtEnd_36 (by decide) ?_ ?_
    · refine Ex_iconst (v := 0) dX8_isAtEnd_43 (by decide) ?_
      exact Ex_iret dX8_isAtEnd_44 rfl (fun ty h => by cases h; rfl)
    · refine Ex_iconst (v := 1) dX8_isAtEnd_39 (by decide) ?_
      refine Ex_goto (tgt := 44) dX8_isAtEnd_40 (by decide) ?_
      exact Ex_iret dX8_isAtEnd_44 rfl (fun ty h => by cases h; rfl)

def f_X8_areAtBothEnds (F : Nat) (μ : Mem) (t : Nat) (p1 : Int32) (p2 : Int32) (p3 : Int32) : Option (Int32) := (f_X8_isAtEnd F μ t p1 p3).bind (fun v_1 => (if v_1 = 0 then some 0 else (f_X8_isAtEnd F μ t p2 p3).bind (fun v_4 => (if v_4 = 0 then some 0 else if ix p1 5 = true then if ix p2 5 = true then (if (gI μ (((t + 16) + 1) + 2) p1.toNatClampNeg) = (gI μ (((t + 16) + 1) + 2) p2.toNatClampNeg) then some 0 else some 1) else none else none))))
set_option maxRecDepth 100000 in
set_option maxHeartbeats 4000000 in
theorem c_X8_areAtBothEnds (a0 F : Nat) (μ : Mem) (t : Nat) (p1 : Int32) (p2 : Int32) (p3 : Int32) (hk0 : kd t = 8) {v : Int32} (hr : f_X8_areAtBothEnds F μ t p1 p2 p3 = some v) : Ct a0 yX8_areAtBothEnds cX8_areAtBothEnds 4 (some .boolean) 1 [.ref (a0 + t), .int p1, .int p2, .int p3] μ (some (.int v)) μ := by
  refine Ct_of (own := RX8) (ι := (fun v => (some (.int v), μ))) (o := f_X8_areAtBothEnds F μ t p1 p2 p3) (by decide +kernel) rfl (Nat.le_of_ble_eq_true rfl) ?_ hr rfl ⟨_, rfl⟩
  show Ex a0 RX8 cX8_areAtBothEnds 4 (some .boolean) 1 none (fun v => (some (.int v), μ)) 0 [(0, .ref (a0 + t)), (1, .int p1), (2, .int p2), (3, .int p3)] [] μ (f_X8_areAtBothEnds F μ t p1 p2 p3)
  unfold f_X8_areAtBothEnds
  refine Ex_aload_n dX8_areAtBothEnds_0 rfl 0 rfl ?_
  refine Ex_iload_n dX8_areAtBothEnds_1 rfl 1 rfl ?_
  refine Ex_iload_n dX8_areAtBothEnds_2 rfl 3 rfl ?_
  refine Ex_callVR (n := 2) (dp2 := 0) [.int p1, .int p3] cvX8_135 hk0 rfl rfl (by decide) (by decide) (Nat.le_of_ble_eq_true rfl) rfl (fun v hv => c_X8_isAtEnd a0 F μ t p1 p3 hk0 hv) dX8_areAtBothEnds_3 (fun v_1 hv_3 => ?_)
  refine Ex_if_eq (tgt := 49) dX8_areAtBothEnds_6 (by decide) ?_ ?_
  · refine Ex_iconst (v := 0) dX8_areAtBothEnds_49 (by decide) ?_
    exact Ex_iret dX8_areAtBothEnds_50 rfl (fun ty h => by cases h; rfl)
  · refine Ex_aload_n dX8_areAtBothEnds_9 rfl 0 rfl ?_
    refine Ex_iload_n dX8_areAtBothEnds_10 rfl 2 rfl ?_
    refine Ex_iload_n dX8_areAtBothEnds_11 rfl 3 rfl ?_
    refine Ex_callVR (n := 2) (dp2 := 0) [.int p2, .int p3] cvX8_135 hk0 rfl rfl (by decide) (by decide) (Nat.le_of_ble_eq_true rfl) rfl (fun v hv => c_X8_isAtEnd a0 F μ t p2 p3 hk0 hv) dX8_areAtBothEnds_12 (fun v_4 hv_6 => ?_)
    refine Ex_if_eq (tgt := 49) dX8_areAtBothEnds_15 (by decide) ?_ ?_
    · refine Ex_iconst (v := 0) dX8_areAtBothEnds_49 (by decide) ?_
      exact Ex_iret dX8_areAtBothEnds_50 rfl (fun ty h => by cases h; rfl)
    · refine Ex_aload_n dX8_areAtBothEnds_18 rfl 0 rfl ?_
      refine Ex_get (v := .ref (a0 + (t + 16))) fgX8_29 hk0 (by decide) rfl dX8_areAtBothEnds_19 ?_
      refine Ex_get (v := .ref (a0 + ((t + 16) + 1))) fgX8_113 (kn_8_16 hk0) (by decide) rfl dX8_areAtBothEnds_22 ?_
      refine Ex_get (v := .ref (a0 + (((t + 16) + 1) + 2))) fgX8_122 (kn_0_1 (kn_8_16 hk0)) (by decide) rfl dX8_areAtBothEnds_25 ?_
      refine Ex_iload_n dX8_areAtBothEnds_28 rfl 1 rfl ?_
      refine Ex_iald 5 (kn_3_2 (kn_0_1 (kn_8_16 hk0))) (by decide) dX8_areAtBothEnds_29 ?_
      refine Ex_aload_n dX8_areAtBothEnds_30 rfl 0 rfl ?_
      refine Ex_get (v := .ref (a0 + (t + 16))) fgX8_29 hk0 (by decide) rfl dX8_areAtBothEnds_31 ?_
      refine Ex_get (v := .ref (a0 + ((t + 16) + 1))) fgX8_113 (kn_8_16 hk0) (by decide) rfl dX8_areAtBothEnds_34 ?_
      refine Ex_get (v := .ref (a0 + (((t + 16) + 1) + 2))) fgX8_122 (kn_0_1 (kn_8_16 hk0)) (by decide) rfl dX8_areAtBothEnds_37 ?_
      refine Ex_iload_n dX8_areAtBothEnds_40 rfl 2 rfl ?_
      refine Ex_iald 5 (kn_3_2 (kn_0_1 (kn_8_16 hk0))) (by decide) dX8_areAtBothEnds_41 ?_
      refine Ex_icmp_eq (tgt := 49) dX8_areAtBothEnds_42 (by decide) ?_ ?_
      · refine Ex_iconst (v := 0) dX8_areAtBothEnds_49 (by decide) ?_
        exact Ex_iret dX8_areAtBothEnds_50 rfl (fun ty h => by cases h; rfl)
      · refine Ex_iconst (v := 1) dX8_areAtBothEnds_45 (by decide) ?_
        refine Ex_goto (tgt := 50) dX8_areAtBothEnds_46 (by decide) ?_
        exact Ex_iret dX8_areAtBothEnds_50 rfl (fun ty h => by cases h; rfl)

def f_X8_closedLanes (F : Nat) (μ : Mem) (t : Nat) : Option (Int32) := (f_J_bitCount F μ (gI μ ((t + 16) + 1) 3)).bind (fun v_1 => some v_1)
set_option maxRecDepth 100000 in
set_option maxHeartbeats 4000000 in
theorem c_X8_closedLanes (a0 F : Nat) (μ : Mem) (t : Nat) (hk0 : kd t = 8) {v : Int32} (hr : f_X8_closedLanes F μ t = some v) : Ct a0 yX8_closedLanes cX8_closedLanes 1 (some .int) 1 [.ref (a0 + t)] μ (some (.int v)) μ := by
  refine Ct_of (own := RX8) (ι := (fun v => (some (.int v), μ))) (o := f_X8_closedLanes F μ t) (by decide +kernel) rfl (Nat.le_of_ble_eq_true rfl) ?_ hr rfl ⟨_, rfl⟩
  show Ex a0 RX8 cX8_closedLanes 1 (some .int) 1 none (fun v => (some (.int v), μ)) 0 [(0, .ref (a0 + t))] [] μ (f_X8_closedLanes F μ t)
  unfold f_X8_closedLanes
  refine Ex_aload_n dX8_closedLanes_0 rfl 0 rfl ?_
  refine Ex_get (v := .ref (a0 + (t + 16))) fgX8_29 hk0 (by decide) rfl dX8_closedLanes_1 ?_
  refine Ex_get (v := .ref (a0 + ((t + 16) + 1))) fgX8_113 (kn_8_16 hk0) (by decide) rfl dX8_closedLanes_4 ?_
  refine Ex_get (v := .int (gI μ ((t + 16) + 1) 3)) fgX8_179 (kn_0_1 (kn_8_16 hk0)) (by decide) rfl dX8_closedLanes_7 ?_
  refine Ex_callSR (n := 1) (dp2 := 0) [.int (gI μ ((t + 16) + 1) 3)] cvX8_219 rfl (by decide) (by decide) (Nat.le_of_ble_eq_true rfl) rfl (fun v hv => c_J_bitCount a0 F μ (gI μ ((t + 16) + 1) 3) hv) dX8_closedLanes_10 (fun v_1 hv_3 => ?_)
  exact Ex_iret dX8_closedLanes_13 rfl (fun ty h => by cases h; rfl)

def f_X8_back (F : Nat) (μ : Mem) (t : Nat) (p1 : Int32) : Option (Int32 × Mem) := (if p1 < 0 then some ((-1), μ) else (if p1 < 2 then if ix p1 2 = true then (if (gI μ (t + 63) p1.toNatClampNeg) = 0 then some ((-2), μ) else if ix p1 2 = true then (f_X0_copy F μ (t + 16) (gR μ (t + 62) p1.toNatClampNeg)).bind (fun μ_3 => (f_X8_closedLanes F μ_3 t).bind (fun v_5 => some (v_5, μ_3))) else none) else none else some ((-1), μ)))
set_option maxRecDepth 100000 in
set_option maxHeartbeats 4000000 in
theorem c_X8_back (a0 F : Nat) (μ : Mem) (t : Nat) (p1 : Int32) (hk0 : kd t = 8) {v : Int32} {μ2 : Mem} (hr : f_X8_back F μ t p1 = some (v, μ2)) : Ct a0 yX8_back cX8_back 2 (some .int) 2 [.ref (a0 + t), .int p1] μ (some (.int v)) μ2 := by
  refine Ct_of (own := RX8) (ι := (fun x => (some (.int x.1), x.2))) (o := f_X8_back F μ t p1) (by decide +kernel) rfl (Nat.le_of_ble_eq_true rfl) ?_ hr rfl ⟨_, rfl⟩
  show Ex a0 RX8 cX8_back 2 (some .int) 2 none (fun x => (some (.int x.1), x.2)) 0 [(0, .ref (a0 + t)), (1, .int p1)] [] μ (f_X8_back F μ t p1)
  unfold f_X8_back
  refine Ex_iload_n dX8_back_0 rfl 1 rfl ?_
  refine Ex_if_lt (tgt := 9) dX8_back_1 (by decide) ?_ ?_
  · refine Ex_iconst (v := (-1)) dX8_back_9 (by decide) ?_
    exact Ex_iret dX8_back_10 rfl (fun ty h => by cases h; rfl)
  · refine Ex_iload_n dX8_back_4 rfl 1 rfl ?_
    refine Ex_iconst (v := 2) dX8_back_5 (by decide) ?_
    refine Ex_icmp_lt (tgt := 11) dX8_back_6 (by decide) ?_ ?_
    · refine Ex_aload_n dX8_back_11 rfl 0 rfl ?_
      refine Ex_get (v := .ref (a0 + (t + 63))) fgX8_37 hk0 (by decide) rfl dX8_back_12 ?_
      refine Ex_iload_n dX8_back_15 rfl 1 rfl ?_
      refine Ex_zald 2 (kn_8_63 hk0) (by decide) dX8_back_16 ?_
      refine Ex_if_ne (tgt := 23) dX8_back_17 (by decide) ?_ ?_
      · refine Ex_aload_n dX8_back_23 rfl 0 rfl ?_
        refine Ex_get (v := .ref (a0 + (t + 16))) fgX8_29 hk0 (by decide) rfl dX8_back_24 ?_
        refine Ex_aload_n dX8_back_27 rfl 0 rfl ?_
        refine Ex_get (v := .ref (a0 + (t + 62))) fgX8_33 hk0 (by decide) rfl dX8_back_28 ?_
        refine Ex_iload_n dX8_back_31 rfl 1 rfl ?_
        refine Ex_cald 2 (kn_8_62 hk0) (by decide) (by decide) dX8_back_32 (fun hm_1 => ?_)
        refine Ex_callVV (n := 1) (dp2 := 1) [.ref (a0 + (gR μ (t + 62) p1.toNatClampNeg))] cvX8_276 (kn_8_16 hk0) rfl rfl (by decide) (by decide) (Nat.le_of_ble_eq_true rfl) rfl (fun μ2 hv => c_X0_copy a0 F μ (t + 16) (gR μ (t + 62) p1.toNatClampNeg) (kn_8_16 hk0) hm_1 hv) dX8_back_33 (fun μ_3 hv_4 => ?_)
        refine Ex_aload_n dX8_back_36 rfl 0 rfl ?_
        refine Ex_callVR (n := 0) (dp2 := 1) [] cvX8_168 hk0 rfl rfl (by decide) (by decide) (Nat.le_of_ble_eq_true rfl) rfl (fun v hv => c_X8_closedLanes a0 F μ_3 t hk0 hv) dX8_back_37 (fun v_5 hv_7 => ?_)
        exact Ex_iret dX8_back_40 rfl (fun ty h => by cases h; rfl)
      · refine Ex_bipush (v := (-2)) dX8_back_20 (by decide) ?_
        exact Ex_iret dX8_back_22 rfl (fun ty h => by cases h; rfl)
    · refine Ex_iconst (v := (-1)) dX8_back_9 (by decide) ?_
      exact Ex_iret dX8_back_10 rfl (fun ty h => by cases h; rfl)

def f_X8_capital_L77 (F : Nat) (q0 : Nat) (x1 : Int32) (k : Int32 → Mem → Option (Int32 × Mem)) : Nat → Int32 → Mem → Option (Int32 × Mem)
  | 0, _, _ => none
  | n + 1, x3, μ => (if x3 < 2 then if ix x3 2 = true then lt (sI μ (q0 + 63) x3.toNatClampNeg (vp_nar .boolean 0)) (fun μ_15 => f_X8_capital_L77 F q0 x1 k n (x3 + 1) μ_15) else none else k x3 μ)
set_option maxRecDepth 100000 in
set_option maxHeartbeats 4000000 in
theorem c_X8_capital_L77 (a0 : Nat) (F : Nat) (q0 : Nat) (x1 : Int32) (k : Int32 → Mem → Option (Int32 × Mem)) (hq0 : kd q0 = 8) (hk : ∀ (x3 : Int32) (μ : Mem), Ex a0 RX8 cX8_capital 4 (some .int) 6 none (fun x => (some (.int x.1), x.2)) 95 [(1, .int x1)] [] μ (k x3 μ)) : ∀ (n : Nat) (x3 : Int32) (μ : Mem), Ex a0 RX8 cX8_capital 4 (some .int) 6 none (fun x => (some (.int x.1), x.2)) 77 [(0, .ref (a0 + q0)), (1, .int x1), (3, .int x3)] [] μ (f_X8_capital_L77 F q0 x1 k n x3 μ) := by
  intro n
  induction n with
  | zero => intro x3 μ; exact Ex_none
  | succ n ih =>
    intro x3 μ
    rw [f_X8_capital_L77]
    refine Ex_iload_n dX8_capital_77 rfl 2 rfl ?_
    refine Ex_iconst (v := 2) dX8_capital_78 (by decide) ?_
    refine Ex_icmp_ge (tgt := 95) dX8_capital_79 (by decide) ?_ ?_
    · refine Ex_perm [1] rfl ?_
      exact hk x3 μ
    · refine Ex_aload_n dX8_capital_82 rfl 0 rfl ?_
      refine Ex_get (v := .ref (a0 + (q0 + 63))) fgX8_37 hq0 (by decide) rfl dX8_capital_83 ?_
      refine Ex_iload_n dX8_capital_86 rfl 2 rfl ?_
      refine Ex_iconst (v := 0) dX8_capital_87 (by decide) ?_
      refine Ex_zast 2 (kn_8_63 hq0) (by decide) dX8_capital_88 (fun μ_15 => ?_)
      refine Ex_iinc (v := x3 + 1) (L2 := [(3, .int (x3 + 1)), (0, .ref (a0 + q0)), (1, .int x1)]) dX8_capital_89 2 rfl rfl (by decide) rfl ?_
      refine Ex_goto (tgt := 77) dX8_capital_92 (by decide) ?_
      refine Ex_perm [1, 2, 0] rfl ?_
      exact ih (x3 + 1) μ_15
def f_X8_capital (F : Nat) (μ : Mem) (t : Nat) : Option (Int32 × Mem) := bW (f_X4_read F μ (t + 1) (gR μ t 2)) (fun v_2 μ_3 => (if v_2 < 0 then some ((-10) - (gI μ_3 (t + 1) 2), μ_3) else lt (sR μ_3 t 1 (gR μ_3 t 2)) (fun μ_7 => lt (sR μ_7 t 2 (gR μ_3 t 1)) (fun μ_8 => lt (sI μ_8 ((t + 1) + 1) 1 0) (fun μ_9 => (f_X0_begin F μ_9 (t + 16) (gR μ_9 t 1)).bind (fun μ_12 => lt (sI μ_12 (t + 64) 2 0) (fun μ_14 => f_X8_capital_L77 F t v_2 (fun x3_16 μ_17 => some (v_2, μ_17)) F 0 μ_14)))))))
set_option maxRecDepth 100000 in
set_option maxHeartbeats 4000000 in
theorem c_X8_capital (a0 F : Nat) (μ : Mem) (t : Nat) (hk0 : kd t = 8) {v : Int32} {μ2 : Mem} (hr : f_X8_capital F μ t = some (v, μ2)) : Ct a0 yX8_capital cX8_capital 4 (some .int) 6 [.ref (a0 + t)] μ (some (.int v)) μ2 := by
  refine Ct_of (own := RX8) (ι := (fun x => (some (.int x.1), x.2))) (o := f_X8_capital F μ t) (by decide +kernel) rfl (Nat.le_of_ble_eq_true rfl) ?_ hr rfl ⟨_, rfl⟩
  show Ex a0 RX8 cX8_capital 4 (some .int) 6 none (fun x => (some (.int x.1), x.2)) 0 [(0, .ref (a0 + t))] [] μ (f_X8_capital F μ t)
  unfold f_X8_capital
  refine Ex_aload_n dX8_capital_0 rfl 0 rfl ?_
  refine Ex_get (v := .ref (a0 + (t + 1))) fgX8_10 hk0 (by decide) rfl dX8_capital_1 ?_
  refine Ex_aload_n dX8_capital_4 rfl 0 rfl ?_
  refine Ex_wt (fun hw_1 => ?_)
  refine Ex_get (v := .ref (a0 + (gR μ t 2))) fgX8_23 hk0 (by decide) rfl dX8_capital_5 ?_
  refine Ex_callVW (n := 1) (dp2 := 5) [.ref (a0 + (gR μ t 2))] cvX8_80 (kn_8_1 hk0) rfl rfl (by decide) (by decide) (Nat.le_of_ble_eq_true rfl) rfl (fun v μ2 hv => c_X4_read a0 F μ (t + 1) (gR μ t 2) (kn_8_1 hk0) (WT_k hw_1 hk0 (K := 8) rfl (by decide)) hv) dX8_capital_8 (fun v_2 μ_3 hv_4 => ?_)
  refine Ex_istore_n (L2 := [(1, .int v_2), (0, .ref (a0 + t))]) dX8_capital_11 rfl (by decide) rfl ?_
  refine Ex_iload_n dX8_capital_12 rfl 0 rfl ?_
  refine Ex_if_ge (tgt := 27) dX8_capital_13 (by decide) ?_ ?_
  · refine Ex_aload_n dX8_capital_27 rfl 1 rfl ?_
    refine Ex_wt (fun hw_5 => ?_)
    refine Ex_get (v := .ref (a0 + (gR μ_3 t 1))) fgX8_19 hk0 (by decide) rfl dX8_capital_28 ?_
    refine Ex_astore_n (L2 := [(2, .ref (a0 + (gR μ_3 t 1))), (1, .int v_2), (0, .ref (a0 + t))]) dX8_capital_31 rfl (by decide) rfl ?_
    refine Ex_aload_n dX8_capital_32 rfl 2 rfl ?_
    refine Ex_aload_n dX8_capital_33 rfl 2 rfl ?_
    refine Ex_wt (fun hw_6 => ?_)
    refine Ex_get (v := .ref (a0 + (gR μ_3 t 2))) fgX8_23 hk0 (by decide) rfl dX8_capital_34 ?_
    refine Ex_putR fgX8_19 fp8_1 hk0 (WT_k hw_6 hk0 (K := 8) rfl (by decide)) (by decide) rfl rfl (Nat.le_of_ble_eq_true rfl) (fs8_1 a0 μ_3 t (gR μ_3 t 2)) dX8_capital_37 (fun μ_7 => ?_)
    refine Ex_aload_n dX8_capital_40 rfl 2 rfl ?_
    refine Ex_aload_n dX8_capital_41 rfl 0 rfl ?_
    refine Ex_putR fgX8_23 fp8_2 hk0 (WT_k hw_5 hk0 (K := 8) rfl (by decide)) (by decide) rfl rfl (Nat.le_of_ble_eq_true rfl) (fs8_2 a0 μ_7 t (gR μ_3 t 1)) dX8_capital_42 (fun μ_8 => ?_)
    refine Ex_aload_n dX8_capital_45 rfl 2 rfl ?_
    refine Ex_get (v := .ref (a0 + (t + 1))) fgX8_10 hk0 (by decide) rfl dX8_capital_46 ?_
    refine Ex_get (v := .ref (a0 + ((t + 1) + 1))) fgX8_66 (kn_8_1 hk0) (by decide) rfl dX8_capital_49 ?_
    refine Ex_iconst (v := 0) dX8_capital_52 (by decide) ?_
    refine Ex_putI fgX8_76 fp5_1 (kn_4_1 (kn_8_1 hk0)) (by decide) rfl rfl (Nat.le_of_ble_eq_true rfl) (fs5_1 a0 μ_8 ((t + 1) + 1) 0) dX8_capital_53 (fun μ_9 => ?_)
    refine Ex_aload_n dX8_capital_56 rfl 2 rfl ?_
    refine Ex_get (v := .ref (a0 + (t + 16))) fgX8_29 hk0 (by decide) rfl dX8_capital_57 ?_
    refine Ex_aload_n dX8_capital_60 rfl 2 rfl ?_
    refine Ex_wt (fun hw_10 => ?_)
    refine Ex_get (v := .ref (a0 + (gR μ_9 t 1))) fgX8_19 hk0 (by decide) rfl dX8_capital_61 ?_
    refine Ex_callVV (n := 1) (dp2 := 1) [.ref (a0 + (gR μ_9 t 1))] cvX8_87 (kn_8_16 hk0) rfl rfl (by decide) (by decide) (Nat.le_of_ble_eq_true rfl) rfl (fun μ2 hv => c_X0_begin a0 F μ_9 (t + 16) (gR μ_9 t 1) (kn_8_16 hk0) (WT_k hw_10 hk0 (K := 8) rfl (by decide)) hv) dX8_capital_64 (fun μ_12 hv_13 => ?_)
    refine Ex_aload_n dX8_capital_67 rfl 2 rfl ?_
    refine Ex_get (v := .ref (a0 + (t + 64))) fgX8_44 hk0 (by decide) rfl dX8_capital_68 ?_
    refine Ex_iconst (v := 0) dX8_capital_71 (by decide) ?_
    refine Ex_putI fgX8_91 fp2_2 (kn_8_64 hk0) (by decide) rfl rfl (Nat.le_of_ble_eq_true rfl) (fs2_2 a0 μ_12 (t + 64) 0) dX8_capital_72 (fun μ_14 => ?_)
    refine Ex_iconst (v := 0) dX8_capital_75 (by decide) ?_
    refine Ex_istore_n (L2 := [(3, .int 0), (2, .ref (a0 + (gR μ_3 t 1))), (1, .int v_2), (0, .ref (a0 + t))]) dX8_capital_76 rfl (by decide) rfl ?_
    refine Ex_perm [3, 2, 0] rfl ?_
    refine c_X8_capital_L77 a0 F t v_2 _ hk0 (fun x3_16 μ_17 => ?_) F 0 μ_14
    refine Ex_iload_n dX8_capital_95 rfl 0 rfl ?_
    exact Ex_iret dX8_capital_96 rfl (fun ty h => by cases h; rfl)
  · refine Ex_bipush (v := (-10)) dX8_capital_16 (by decide) ?_
    refine Ex_aload_n dX8_capital_18 rfl 1 rfl ?_
    refine Ex_get (v := .ref (a0 + (t + 1))) fgX8_10 hk0 (by decide) rfl dX8_capital_19 ?_
    refine Ex_get (v := .int (gI μ_3 (t + 1) 2)) fgX8_84 (kn_8_1 hk0) (by decide) rfl dX8_capital_22 ?_
    refine Ex_isub dX8_capital_25 ?_
    exact Ex_iret dX8_capital_26 rfl (fun ty h => by cases h; rfl)

def f_X8_noPerson (F : Nat) (μ : Mem) (t : Nat) (p1 : Int32) : Option (Int32) := (if p1 < 0 then some 1 else (if p1 < (gI μ (gR μ t 1) 5) then some 0 else some 1))
set_option maxRecDepth 100000 in
set_option maxHeartbeats 4000000 in
theorem c_X8_noPerson (a0 F : Nat) (μ : Mem) (t : Nat) (p1 : Int32) (hk0 : kd t = 8) {v : Int32} (hr : f_X8_noPerson F μ t p1 = some v) : Ct a0 yX8_noPerson cX8_noPerson 2 (some .boolean) 0 [.ref (a0 + t), .int p1] μ (some (.int v)) μ := by
  refine Ct_of (own := RX8) (ι := (fun v => (some (.int v), μ))) (o := f_X8_noPerson F μ t p1) (by decide +kernel) rfl (Nat.le_of_ble_eq_true rfl) ?_ hr rfl ⟨_, rfl⟩
  show Ex a0 RX8 cX8_noPerson 2 (some .boolean) 0 none (fun v => (some (.int v), μ)) 0 [(0, .ref (a0 + t)), (1, .int p1)] [] μ (f_X8_noPerson F μ t p1)
  unfold f_X8_noPerson
  refine Ex_iload_n dX8_noPerson_0 rfl 1 rfl ?_
  refine Ex_if_lt (tgt := 15) dX8_noPerson_1 (by decide) ?_ ?_
  · refine Ex_iconst (v := 1) dX8_noPerson_15 (by decide) ?_
    refine Ex_goto (tgt := 20) dX8_noPerson_16 (by decide) ?_
    exact Ex_iret dX8_noPerson_20 rfl (fun ty h => by cases h; rfl)
  · refine Ex_iload_n dX8_noPerson_4 rfl 1 rfl ?_
    refine Ex_aload_n dX8_noPerson_5 rfl 0 rfl ?_
    refine Ex_wt (fun hw_1 => ?_)
    refine Ex_get (v := .ref (a0 + (gR μ t 1))) fgX8_19 hk0 (by decide) rfl dX8_noPerson_6 ?_
    refine Ex_get (v := .int (gI μ (gR μ t 1) 5)) fgX8_232 (WT_k hw_1 hk0 (K := 8) rfl (by decide)) (by decide) rfl dX8_noPerson_9 ?_
    refine Ex_icmp_lt (tgt := 19) dX8_noPerson_12 (by decide) ?_ ?_
    · refine Ex_iconst (v := 0) dX8_noPerson_19 (by decide) ?_
      exact Ex_iret dX8_noPerson_20 rfl (fun ty h => by cases h; rfl)
    · refine Ex_iconst (v := 1) dX8_noPerson_15 (by decide) ?_
      refine Ex_goto (tgt := 20) dX8_noPerson_16 (by decide) ?_
      exact Ex_iret dX8_noPerson_20 rfl (fun ty h => by cases h; rfl)

def f_X8_claims (F : Nat) (μ : Mem) (t : Nat) (p1 : Int32) (p2 : Int32) : Option (Int32 × Mem) := (f_X8_noPerson F μ t p1).bind (fun v_1 => (if v_1 = 0 then (f_X8_noPerson F μ t p2).bind (fun v_4 => (if v_4 = 0 then (if p1 = p2 then some ((-1), μ) else if ix p1 5 = true then if ix p2 5 = true then (if (gI μ (((t + 16) + 1) + 2) p1.toNatClampNeg) = (gI μ (((t + 16) + 1) + 2) p2.toNatClampNeg) then if ix p1 5 = true then if ix p2 5 = true then (if (gI μ (((t + 16) + 1) + 1) p2.toNatClampNeg) < (gI μ (((t + 16) + 1) + 1) p1.toNatClampNeg) then if ix p1 5 = true then (if (gI μ (((t + 16) + 1) + 1) p1.toNatClampNeg) < 9 then if ix p2 5 = true then (if 0 < (gI μ (((t + 16) + 1) + 1) p2.toNatClampNeg) then (f_X0_remember F μ (t + 16)).bind (fun μ_8 => if ix p1 5 = true then if ix p1 5 = true then lt (sI μ_8 (((t + 16) + 1) + 1) p1.toNatClampNeg ((gI μ_8 (((t + 16) + 1) + 1) p1.toNatClampNeg) + 1)) (fun μ_10 => if ix p2 5 = true then if ix p2 5 = true then lt (sI μ_10 (((t + 16) + 1) + 1) p2.toNatClampNeg ((gI μ_10 (((t + 16) + 1) + 1) p2.toNatClampNeg) - 1)) (fun μ_11 => if ix p1 5 = true then some (gI μ_11 (((t + 16) + 1) + 1) p1.toNatClampNeg, μ_11) else none) else none else none) else none else none) else some ((-2), μ)) else none else some ((-2), μ)) else none else some ((-2), μ)) else none else none else some ((-2), μ)) else none else none) else some ((-1), μ))) else some ((-1), μ)))
set_option maxRecDepth 100000 in
set_option maxHeartbeats 4000000 in
theorem c_X8_claims (a0 F : Nat) (μ : Mem) (t : Nat) (p1 : Int32) (p2 : Int32) (hk0 : kd t = 8) {v : Int32} {μ2 : Mem} (hr : f_X8_claims F μ t p1 p2 = some (v, μ2)) : Ct a0 yX8_claims cX8_claims 4 (some .int) 2 [.ref (a0 + t), .int p1, .int p2] μ (some (.int v)) μ2 := by
  refine Ct_of (own := RX8) (ι := (fun x => (some (.int x.1), x.2))) (o := f_X8_claims F μ t p1 p2) (by decide +kernel) rfl (Nat.le_of_ble_eq_true rfl) ?_ hr rfl ⟨_, rfl⟩
  show Ex a0 RX8 cX8_claims 4 (some .int) 2 none (fun x => (some (.int x.1), x.2)) 0 [(0, .ref (a0 + t)), (1, .int p1), (2, .int p2)] [] μ (f_X8_claims F μ t p1 p2)
  unfold f_X8_claims
  refine Ex_aload_n dX8_claims_0 rfl 0 rfl ?_
  refine Ex_iload_n dX8_claims_1 rfl 1 rfl ?_
  refine Ex_callVR (n := 1) (dp2 := 0) [.int p1] cvX8_110 hk0 rfl rfl (by decide) (by decide) (Nat.le_of_ble_eq_true rfl) rfl (fun v hv => c_X8_noPerson a0 F μ t p1 hk0 hv) dX8_claims_2 (fun v_1 hv_3 => ?_)
  refine Ex_if_ne (tgt := 21) dX8_claims_5 (by decide) ?_ ?_
  · refine Ex_iconst (v := (-1)) dX8_claims_21 (by decide) ?_
    exact Ex_iret dX8_claims_22 rfl (fun ty h => by cases h; rfl)
  · refine Ex_aload_n dX8_claims_8 rfl 0 rfl ?_
    refine Ex_iload_n dX8_claims_9 rfl 2 rfl ?_
    refine Ex_callVR (n := 1) (dp2 := 0) [.int p2] cvX8_110 hk0 rfl rfl (by decide) (by decide) (Nat.le_of_ble_eq_true rfl) rfl (fun v hv => c_X8_noPerson a0 F μ t p2 hk0 hv) dX8_claims_10 (fun v_4 hv_6 => ?_)
    refine Ex_if_ne (tgt := 21) dX8_claims_13 (by decide) ?_ ?_
    · refine Ex_iconst (v := (-1)) dX8_claims_21 (by decide) ?_
      exact Ex_iret dX8_claims_22 rfl (fun ty h => by cases h; rfl)
    · refine Ex_iload_n dX8_claims_16 rfl 1 rfl ?_
      refine Ex_iload_n dX8_claims_17 rfl 2 rfl ?_
      refine Ex_icmp_ne (tgt := 23) dX8_claims_18 (by decide) ?_ ?_
      · refine Ex_aload_n dX8_claims_23 rfl 0 rfl ?_
        refine Ex_get (v := .ref (a0 + (t + 16))) fgX8_29 hk0 (by decide) rfl dX8_claims_24 ?_
        refine Ex_get (v := .ref (a0 + ((t + 16) + 1))) fgX8_113 (kn_8_16 hk0) (by decide) rfl dX8_claims_27 ?_
        refine Ex_get (v := .ref (a0 + (((t + 16) + 1) + 1))) fgX8_117 (kn_0_1 (kn_8_16 hk0)) (by decide) rfl dX8_claims_30 ?_
        refine Ex_astore_n (L2 := [(3, .ref (a0 + (((t + 16) + 1) + 1))), (0, .ref (a0 + t)), (1, .int p1), (2, .int p2)]) dX8_claims_33 rfl (by decide) rfl ?_
        refine Ex_aload_n dX8_claims_34 rfl 1 rfl ?_
        refine Ex_get (v := .ref (a0 + (t + 16))) fgX8_29 hk0 (by decide) rfl dX8_claims_35 ?_
        refine Ex_get (v := .ref (a0 + ((t + 16) + 1))) fgX8_113 (kn_8_16 hk0) (by decide) rfl dX8_claims_38 ?_
        refine Ex_get (v := .ref (a0 + (((t + 16) + 1) + 2))) fgX8_122 (kn_0_1 (kn_8_16 hk0)) (by decide) rfl dX8_claims_41 ?_
        refine Ex_iload_n dX8_claims_44 rfl 2 rfl ?_
        refine Ex_iald 5 (kn_3_2 (kn_0_1 (kn_8_16 hk0))) (by decide) dX8_claims_45 ?_
        refine Ex_aload_n dX8_claims_46 rfl 1 rfl ?_
        refine Ex_get (v := .ref (a0 + (t + 16))) fgX8_29 hk0 (by decide) rfl dX8_claims_47 ?_
        refine Ex_get (v := .ref (a0 + ((t + 16) + 1))) fgX8_113 (kn_8_16 hk0) (by decide) rfl dX8_claims_50 ?_
        refine Ex_get (v := .ref (a0 + (((t + 16) + 1) + 2))) fgX8_122 (kn_0_1 (kn_8_16 hk0)) (by decide) rfl dX8_claims_53 ?_
        refine Ex_iload_n dX8_claims_56 rfl 3 rfl ?_
        refine Ex_iald 5 (kn_3_2 (kn_0_1 (kn_8_16 hk0))) (by decide) dX8_claims_57 ?_
        refine Ex_icmp_ne (tgt := 84) dX8_claims_58 (by decide) ?_ ?_
        · refine Ex_bipush (v := (-2)) dX8_claims_84 (by decide) ?_
          exact Ex_iret dX8_claims_86 rfl (fun ty h => by cases h; rfl)
        · refine Ex_aload_n dX8_claims_61 rfl 0 rfl ?_
          refine Ex_iload_n dX8_claims_62 rfl 2 rfl ?_
          refine Ex_iald 5 (kn_3_1 (kn_0_1 (kn_8_16 hk0))) (by decide) dX8_claims_63 ?_
          refine Ex_aload_n dX8_claims_64 rfl 0 rfl ?_
          refine Ex_iload_n dX8_claims_65 rfl 3 rfl ?_
          refine Ex_iald 5 (kn_3_1 (kn_0_1 (kn_8_16 hk0))) (by decide) dX8_claims_66 ?_
          refine Ex_icmp_le (tgt := 84) dX8_claims_67 (by decide) ?_ ?_
          · refine Ex_bipush (v := (-2)) dX8_claims_84 (by decide) ?_
            exact Ex_iret dX8_claims_86 rfl (fun ty h => by cases h; rfl)
          · refine Ex_aload_n dX8_claims_70 rfl 0 rfl ?_
            refine Ex_iload_n dX8_claims_71 rfl 2 rfl ?_
            refine Ex_iald 5 (kn_3_1 (kn_0_1 (kn_8_16 hk0))) (by decide) dX8_claims_72 ?_
            refine Ex_bipush (v := 9) dX8_claims_73 (by decide) ?_
            refine Ex_icmp_ge (tgt := 84) dX8_claims_75 (by decide) ?_ ?_
            · refine Ex_bipush (v := (-2)) dX8_claims_84 (by decide) ?_
              exact Ex_iret dX8_claims_86 rfl (fun ty h => by cases h; rfl)
            · refine Ex_aload_n dX8_claims_78 rfl 0 rfl ?_
              refine Ex_iload_n dX8_claims_79 rfl 3 rfl ?_
              refine Ex_iald 5 (kn_3_1 (kn_0_1 (kn_8_16 hk0))) (by decide) dX8_claims_80 ?_
              refine Ex_if_gt (tgt := 87) dX8_claims_81 (by decide) ?_ ?_
              · refine Ex_aload_n dX8_claims_87 rfl 1 rfl ?_
                refine Ex_get (v := .ref (a0 + (t + 16))) fgX8_29 hk0 (by decide) rfl dX8_claims_88 ?_
                refine Ex_callVV (n := 0) (dp2 := 1) [] cvX8_142 (kn_8_16 hk0) rfl rfl (by decide) (by decide) (Nat.le_of_ble_eq_true rfl) rfl (fun μ2 hv => c_X0_remember a0 F μ (t + 16) (kn_8_16 hk0) hv) dX8_claims_91 (fun μ_8 hv_9 => ?_)
                refine Ex_aload_n dX8_claims_94 rfl 0 rfl ?_
                refine Ex_iload_n dX8_claims_95 rfl 2 rfl ?_
                refine Ex_dup2 dX8_claims_96 rfl rfl ?_
                refine Ex_iald 5 (kn_3_1 (kn_0_1 (kn_8_16 hk0))) (by decide) dX8_claims_97 ?_
                refine Ex_iconst (v := 1) dX8_claims_98 (by decide) ?_
                refine Ex_iadd dX8_claims_99 ?_
                refine Ex_iast 5 (kn_3_1 (kn_0_1 (kn_8_16 hk0))) (by decide) dX8_claims_100 (fun μ_10 => ?_)
                refine Ex_aload_n dX8_claims_101 rfl 0 rfl ?_
                refine Ex_iload_n dX8_claims_102 rfl 3 rfl ?_
                refine Ex_dup2 dX8_claims_103 rfl rfl ?_
                refine Ex_iald 5 (kn_3_1 (kn_0_1 (kn_8_16 hk0))) (by decide) dX8_claims_104 ?_
                refine Ex_iconst (v := 1) dX8_claims_105 (by decide) ?_
                refine Ex_isub dX8_claims_106 ?_
                refine Ex_iast 5 (kn_3_1 (kn_0_1 (kn_8_16 hk0))) (by decide) dX8_claims_107 (fun μ_11 => ?_)
                refine Ex_aload_n dX8_claims_108 rfl 0 rfl ?_
                refine Ex_iload_n dX8_claims_109 rfl 2 rfl ?_
                refine Ex_iald 5 (kn_3_1 (kn_0_1 (kn_8_16 hk0))) (by decide) dX8_claims_110 ?_
                exact Ex_iret dX8_claims_111 rfl (fun ty h => by cases h; rfl)
              · refine Ex_bipush (v := (-2)) dX8_claims_84 (by decide) ?_
                exact Ex_iret dX8_claims_86 rfl (fun ty h => by cases h; rfl)
      · refine Ex_iconst (v := (-1)) dX8_claims_21 (by decide) ?_
        exact Ex_iret dX8_claims_22 rfl (fun ty h => by cases h; rfl)

def f_X8_clear (F : Nat) (μ : Mem) (t : Nat) : Option (Int32 × Mem) := lt (sI μ ((t + 1) + 1) 1 0) (fun μ_1 => some (gI μ ((t + 1) + 1) 1, μ_1))
set_option maxRecDepth 100000 in
set_option maxHeartbeats 4000000 in
theorem c_X8_clear (a0 F : Nat) (μ : Mem) (t : Nat) (hk0 : kd t = 8) {v : Int32} {μ2 : Mem} (hr : f_X8_clear F μ t = some (v, μ2)) : Ct a0 yX8_clear cX8_clear 2 (some .int) 0 [.ref (a0 + t)] μ (some (.int v)) μ2 := by
  refine Ct_of (own := RX8) (ι := (fun x => (some (.int x.1), x.2))) (o := f_X8_clear F μ t) (by decide +kernel) rfl (Nat.le_of_ble_eq_true rfl) ?_ hr rfl ⟨_, rfl⟩
  show Ex a0 RX8 cX8_clear 2 (some .int) 0 none (fun x => (some (.int x.1), x.2)) 0 [(0, .ref (a0 + t))] [] μ (f_X8_clear F μ t)
  unfold f_X8_clear
  refine Ex_aload_n dX8_clear_0 rfl 0 rfl ?_
  refine Ex_get (v := .ref (a0 + (t + 1))) fgX8_10 hk0 (by decide) rfl dX8_clear_1 ?_
  refine Ex_get (v := .ref (a0 + ((t + 1) + 1))) fgX8_66 (kn_8_1 hk0) (by decide) rfl dX8_clear_4 ?_
  refine Ex_get (v := .int (gI μ ((t + 1) + 1) 1)) fgX8_76 (kn_4_1 (kn_8_1 hk0)) (by decide) rfl dX8_clear_7 ?_
  refine Ex_istore_n (L2 := [(1, .int (gI μ ((t + 1) + 1) 1)), (0, .ref (a0 + t))]) dX8_clear_10 rfl (by decide) rfl ?_
  refine Ex_aload_n dX8_clear_11 rfl 1 rfl ?_
  refine Ex_get (v := .ref (a0 + (t + 1))) fgX8_10 hk0 (by decide) rfl dX8_clear_12 ?_
  refine Ex_get (v := .ref (a0 + ((t + 1) + 1))) fgX8_66 (kn_8_1 hk0) (by decide) rfl dX8_clear_15 ?_
  refine Ex_iconst (v := 0) dX8_clear_18 (by decide) ?_
  refine Ex_putI fgX8_76 fp5_1 (kn_4_1 (kn_8_1 hk0)) (by decide) rfl rfl (Nat.le_of_ble_eq_true rfl) (fs5_1 a0 μ ((t + 1) + 1) 0) dX8_clear_19 (fun μ_1 => ?_)
  refine Ex_iload_n dX8_clear_22 rfl 0 rfl ?_
  exact Ex_iret dX8_clear_23 rfl (fun ty h => by cases h; rfl)

def f_X8_count (F : Nat) (μ : Mem) (t : Nat) (p1 : Int32) : Option (Int32) := (if p1 = 0 then some (gI μ (gR μ t 1) 0) else (if p1 = 1 then some (gI μ (gR μ t 1) 1) else (if p1 = 2 then some (gI μ (gR μ t 1) 5) else (if p1 = 3 then some (gI μ (gR μ t 1) 8) else (if p1 = 4 then some (gI μ (gR μ t 1) 9) else (if p1 = 5 then some (gI μ (t + 64) 2) else (if p1 = 6 then some (gI μ (t + 16) 2) else (if p1 = 7 then some (gI μ ((t + 1) + 1) 1) else some (-1)))))))))
set_option maxRecDepth 100000 in
set_option maxHeartbeats 4000000 in
theorem c_X8_count (a0 F : Nat) (μ : Mem) (t : Nat) (p1 : Int32) (hk0 : kd t = 8) {v : Int32} (hr : f_X8_count F μ t p1 = some v) : Ct a0 yX8_count cX8_count 2 (some .int) 0 [.ref (a0 + t), .int p1] μ (some (.int v)) μ := by
  refine Ct_of (own := RX8) (ι := (fun v => (some (.int v), μ))) (o := f_X8_count F μ t p1) (by decide +kernel) rfl (Nat.le_of_ble_eq_true rfl) ?_ hr rfl ⟨_, rfl⟩
  show Ex a0 RX8 cX8_count 2 (some .int) 0 none (fun v => (some (.int v), μ)) 0 [(0, .ref (a0 + t)), (1, .int p1)] [] μ (f_X8_count F μ t p1)
  unfold f_X8_count
  refine Ex_iload_n dX8_count_0 rfl 1 rfl ?_
  refine Ex_if (p1 = 0) (fun hc_1 => ?_) (fun hc_1 => ?_)
  · refine Ex_tblC (tgt := 48) dX8_count_1 (i := 0) (by rw [hc_1]; rfl) (by decide) (by decide) (off := 47) rfl (by decide) ?_
    refine Ex_aload_n dX8_count_48 rfl 0 rfl ?_
    refine Ex_wt (fun hw_2 => ?_)
    refine Ex_get (v := .ref (a0 + (gR μ t 1))) fgX8_19 hk0 (by decide) rfl dX8_count_49 ?_
    refine Ex_get (v := .int (gI μ (gR μ t 1) 0)) fgX8_280 (WT_k hw_2 hk0 (K := 8) rfl (by decide)) (by decide) rfl dX8_count_52 ?_
    exact Ex_iret dX8_count_55 rfl (fun ty h => by cases h; rfl)
  · refine Ex_if (p1 = 1) (fun hc_3 => ?_) (fun hc_3 => ?_)
    · refine Ex_tblC (tgt := 56) dX8_count_1 (i := 1) (by rw [hc_3]; rfl) (by decide) (by decide) (off := 55) rfl (by decide) ?_
      refine Ex_aload_n dX8_count_56 rfl 0 rfl ?_
      refine Ex_wt (fun hw_4 => ?_)
      refine Ex_get (v := .ref (a0 + (gR μ t 1))) fgX8_19 hk0 (by decide) rfl dX8_count_57 ?_
      refine Ex_get (v := .int (gI μ (gR μ t 1) 1)) fgX8_216 (WT_k hw_4 hk0 (K := 8) rfl (by decide)) (by decide) rfl dX8_count_60 ?_
      exact Ex_iret dX8_count_63 rfl (fun ty h => by cases h; rfl)
    · refine Ex_if (p1 = 2) (fun hc_5 => ?_) (fun hc_5 => ?_)
      · refine Ex_tblC (tgt := 64) dX8_count_1 (i := 2) (by rw [hc_5]; rfl) (by decide) (by decide) (off := 63) rfl (by decide) ?_
        refine Ex_aload_n dX8_count_64 rfl 0 rfl ?_
        refine Ex_wt (fun hw_6 => ?_)
        refine Ex_get (v := .ref (a0 + (gR μ t 1))) fgX8_19 hk0 (by decide) rfl dX8_count_65 ?_
        refine Ex_get (v := .int (gI μ (gR μ t 1) 5)) fgX8_232 (WT_k hw_6 hk0 (K := 8) rfl (by decide)) (by decide) rfl dX8_count_68 ?_
        exact Ex_iret dX8_count_71 rfl (fun ty h => by cases h; rfl)
      · refine Ex_if (p1 = 3) (fun hc_7 => ?_) (fun hc_7 => ?_)
        · refine Ex_tblC (tgt := 72) dX8_count_1 (i := 3) (by rw [hc_7]; rfl) (by decide) (by decide) (off := 71) rfl (by decide) ?_
          refine Ex_aload_n dX8_count_72 rfl 0 rfl ?_
          refine Ex_wt (fun hw_8 => ?_)
          refine Ex_get (v := .ref (a0 + (gR μ t 1))) fgX8_19 hk0 (by decide) rfl dX8_count_73 ?_
          refine Ex_get (v := .int (gI μ (gR μ t 1) 8)) fgX8_283 (WT_k hw_8 hk0 (K := 8) rfl (by decide)) (by decide) rfl dX8_count_76 ?_
          exact Ex_iret dX8_count_79 rfl (fun ty h => by cases h; rfl)
        · refine Ex_if (p1 = 4) (fun hc_9 => ?_) (fun hc_9 => ?_)
          · refine Ex_tblC (tgt := 80) dX8_count_1 (i := 4) (by rw [hc_9]; rfl) (by decide) (by decide) (off := 79) rfl (by decide) ?_
            refine Ex_aload_n dX8_count_80 rfl 0 rfl ?_
            refine Ex_wt (fun hw_10 => ?_)
            refine Ex_get (v := .ref (a0 + (gR μ t 1))) fgX8_19 hk0 (by decide) rfl dX8_count_81 ?_
            refine Ex_get (v := .int (gI μ (gR μ t 1) 9)) fgX8_286 (WT_k hw_10 hk0 (K := 8) rfl (by decide)) (by decide) rfl dX8_count_84 ?_
            exact Ex_iret dX8_count_87 rfl (fun ty h => by cases h; rfl)
          · refine Ex_if (p1 = 5) (fun hc_11 => ?_) (fun hc_11 => ?_)
            · refine Ex_tblC (tgt := 88) dX8_count_1 (i := 5) (by rw [hc_11]; rfl) (by decide) (by decide) (off := 87) rfl (by decide) ?_
              refine Ex_aload_n dX8_count_88 rfl 0 rfl ?_
              refine Ex_get (v := .ref (a0 + (t + 64))) fgX8_44 hk0 (by decide) rfl dX8_count_89 ?_
              refine Ex_get (v := .int (gI μ (t + 64) 2)) fgX8_91 (kn_8_64 hk0) (by decide) rfl dX8_count_92 ?_
              exact Ex_iret dX8_count_95 rfl (fun ty h => by cases h; rfl)
            · refine Ex_if (p1 = 6) (fun hc_12 => ?_) (fun hc_12 => ?_)
              · refine Ex_tblC (tgt := 96) dX8_count_1 (i := 6) (by rw [hc_12]; rfl) (by decide) (by decide) (off := 95) rfl (by decide) ?_
                refine Ex_aload_n dX8_count_96 rfl 0 rfl ?_
                refine Ex_get (v := .ref (a0 + (t + 16))) fgX8_29 hk0 (by decide) rfl dX8_count_97 ?_
                refine Ex_get (v := .int (gI μ (t + 16) 2)) fgX8_176 (kn_8_16 hk0) (by decide) rfl dX8_count_100 ?_
                exact Ex_iret dX8_count_103 rfl (fun ty h => by cases h; rfl)
              · refine Ex_if (p1 = 7) (fun hc_13 => ?_) (fun hc_13 => ?_)
                · refine Ex_tblC (tgt := 104) dX8_count_1 (i := 7) (by rw [hc_13]; rfl) (by decide) (by decide) (off := 103) rfl (by decide) ?_
                  refine Ex_aload_n dX8_count_104 rfl 0 rfl ?_
                  refine Ex_get (v := .ref (a0 + (t + 1))) fgX8_10 hk0 (by decide) rfl dX8_count_105 ?_
                  refine Ex_get (v := .ref (a0 + ((t + 1) + 1))) fgX8_66 (kn_8_1 hk0) (by decide) rfl dX8_count_108 ?_
                  refine Ex_get (v := .int (gI μ ((t + 1) + 1) 1)) fgX8_76 (kn_4_1 (kn_8_1 hk0)) (by decide) rfl dX8_count_111 ?_
                  exact Ex_iret dX8_count_114 rfl (fun ty h => by cases h; rfl)
                · refine Ex_tblD (tgt := 115) dX8_count_1 (by have q0 := lv_neT hc_1 (show (0 : Int32).toInt = 0 from rfl); have q1 := lv_neT hc_3 (show (1 : Int32).toInt = 1 from rfl); have q2 := lv_neT hc_5 (show (2 : Int32).toInt = 2 from rfl); have q3 := lv_neT hc_7 (show (3 : Int32).toInt = 3 from rfl); have q4 := lv_neT hc_9 (show (4 : Int32).toInt = 4 from rfl); have q5 := lv_neT hc_11 (show (5 : Int32).toInt = 5 from rfl); have q6 := lv_neT hc_12 (show (6 : Int32).toInt = 6 from rfl); have q7 := lv_neT hc_13 (show (7 : Int32).toInt = 7 from rfl); omega) (by decide) ?_
                  refine Ex_iconst (v := (-1)) dX8_count_115 (by decide) ?_
                  exact Ex_iret dX8_count_116 rfl (fun ty h => by cases h; rfl)

def f_X8_cross (F : Nat) (μ : Mem) (t : Nat) (p1 : Int32) (p2 : Int32) : Option (Mem) := if ix p1 5 = true then if ix p2 8 = true then (if (gI μ (((t + 16) + 1) + 2) p1.toNatClampNeg) = (gI μ ((gR μ t 1) + 1) p2.toNatClampNeg) then if ix p2 8 = true then if ix p1 5 = true then lt (sI μ (((t + 16) + 1) + 2) p1.toNatClampNeg (gI μ ((gR μ t 1) + 2) p2.toNatClampNeg)) (fun μ_5 => some μ_5) else none else none else if ix p2 8 = true then if ix p1 5 = true then lt (sI μ (((t + 16) + 1) + 2) p1.toNatClampNeg (gI μ ((gR μ t 1) + 1) p2.toNatClampNeg)) (fun μ_3 => some μ_3) else none else none) else none else none
set_option maxRecDepth 100000 in
set_option maxHeartbeats 4000000 in
theorem c_X8_cross (a0 F : Nat) (μ : Mem) (t : Nat) (p1 : Int32) (p2 : Int32) (hk0 : kd t = 8) {μ2 : Mem} (hr : f_X8_cross F μ t p1 p2 = some μ2) : Ct a0 yX8_cross cX8_cross 4 none 0 [.ref (a0 + t), .int p1, .int p2] μ none μ2 := by
  refine Ct_of (own := RX8) (ι := (fun m => (none, m))) (o := f_X8_cross F μ t p1 p2) (by decide +kernel) rfl (Nat.le_of_ble_eq_true rfl) ?_ hr rfl rfl
  show Ex a0 RX8 cX8_cross 4 none 0 none (fun m => (none, m)) 0 [(0, .ref (a0 + t)), (1, .int p1), (2, .int p2)] [] μ (f_X8_cross F μ t p1 p2)
  unfold f_X8_cross
  refine Ex_aload_n dX8_cross_0 rfl 0 rfl ?_
  refine Ex_get (v := .ref (a0 + (t + 16))) fgX8_29 hk0 (by decide) rfl dX8_cross_1 ?_
  refine Ex_get (v := .ref (a0 + ((t + 16) + 1))) fgX8_113 (kn_8_16 hk0) (by decide) rfl dX8_cross_4 ?_
  refine Ex_get (v := .ref (a0 + (((t + 16) + 1) + 2))) fgX8_122 (kn_0_1 (kn_8_16 hk0)) (by decide) rfl dX8_cross_7 ?_
  refine Ex_astore_n (L2 := [(3, .ref (a0 + (((t + 16) + 1) + 2))), (0, .ref (a0 + t)), (1, .int p1), (2, .int p2)]) dX8_cross_10 rfl (by decide) rfl ?_
  refine Ex_aload_n dX8_cross_11 rfl 0 rfl ?_
  refine Ex_iload_n dX8_cross_12 rfl 2 rfl ?_
  refine Ex_aload_n dX8_cross_13 rfl 0 rfl ?_
  refine Ex_iload_n dX8_cross_14 rfl 2 rfl ?_
  refine Ex_iald 5 (kn_3_2 (kn_0_1 (kn_8_16 hk0))) (by decide) dX8_cross_15 ?_
  refine Ex_aload_n dX8_cross_16 rfl 1 rfl ?_
  refine Ex_wt (fun hw_1 => ?_)
  refine Ex_get (v := .ref (a0 + (gR μ t 1))) fgX8_19 hk0 (by decide) rfl dX8_cross_17 ?_
  refine Ex_get (v := .ref (a0 + ((gR μ t 1) + 1))) fgX8_97 (WT_k hw_1 hk0 (K := 8) rfl (by decide)) (by decide) rfl dX8_cross_20 ?_
  refine Ex_iload_n dX8_cross_23 rfl 3 rfl ?_
  refine Ex_iald 8 (kn_7_1 (WT_k hw_1 hk0 (K := 8) rfl (by decide))) (by decide) dX8_cross_24 ?_
  refine Ex_icmp_ne (tgt := 40) dX8_cross_25 (by decide) ?_ ?_
  · refine Ex_aload_n dX8_cross_40 rfl 1 rfl ?_
    refine Ex_wt (fun hw_2 => ?_)
    refine Ex_get (v := .ref (a0 + (gR μ t 1))) fgX8_19 hk0 (by decide) rfl dX8_cross_41 ?_
    refine Ex_get (v := .ref (a0 + ((gR μ t 1) + 1))) fgX8_97 (WT_k hw_2 hk0 (K := 8) rfl (by decide)) (by decide) rfl dX8_cross_44 ?_
    refine Ex_iload_n dX8_cross_47 rfl 3 rfl ?_
    refine Ex_iald 8 (kn_7_1 (WT_k hw_2 hk0 (K := 8) rfl (by decide))) (by decide) dX8_cross_48 ?_
    refine Ex_iast 5 (kn_3_2 (kn_0_1 (kn_8_16 hk0))) (by decide) dX8_cross_49 (fun μ_3 => ?_)
    exact Ex_vret dX8_cross_50 rfl
  · refine Ex_aload_n dX8_cross_28 rfl 1 rfl ?_
    refine Ex_wt (fun hw_4 => ?_)
    refine Ex_get (v := .ref (a0 + (gR μ t 1))) fgX8_19 hk0 (by decide) rfl dX8_cross_29 ?_
    refine Ex_get (v := .ref (a0 + ((gR μ t 1) + 2))) fgX8_101 (WT_k hw_4 hk0 (K := 8) rfl (by decide)) (by decide) rfl dX8_cross_32 ?_
    refine Ex_iload_n dX8_cross_35 rfl 3 rfl ?_
    refine Ex_iald 8 (kn_7_2 (WT_k hw_4 hk0 (K := 8) rfl (by decide))) (by decide) dX8_cross_36 ?_
    refine Ex_goto (tgt := 49) dX8_cross_37 (by decide) ?_
    refine Ex_iast 5 (kn_3_2 (kn_0_1 (kn_8_16 hk0))) (by decide) dX8_cross_49 (fun μ_5 => ?_)
    exact Ex_vret dX8_cross_50 rfl

def f_X8_power_L4 (F : Nat) (μ : Mem) (x0 : Int32) (x1 : Int32) (k : Int32 → Int32 → Option (Int32)) : Nat → Int32 → Int32 → Option (Int32)
  | 0, _, _ => none
  | n + 1, x2, x3 => (if x3 < x1 then f_X8_power_L4 F μ x0 x1 k n (x2 * x0) (x3 + 1) else k x2 x3)
set_option maxRecDepth 100000 in
set_option maxHeartbeats 4000000 in
theorem c_X8_power_L4 (a0 : Nat) (F : Nat) (μ : Mem) (x0 : Int32) (x1 : Int32) (k : Int32 → Int32 → Option (Int32)) (hk : ∀ (x2 : Int32) (x3 : Int32), Ex a0 RX8 cX8_power 4 (some .int) 0 none (fun v => (some (.int v), μ)) 19 [(2, .int x2)] [] μ (k x2 x3)) : ∀ (n : Nat) (x2 : Int32) (x3 : Int32), Ex a0 RX8 cX8_power 4 (some .int) 0 none (fun v => (some (.int v), μ)) 4 [(0, .int x0), (1, .int x1), (2, .int x2), (3, .int x3)] [] μ (f_X8_power_L4 F μ x0 x1 k n x2 x3) := by
  intro n
  induction n with
  | zero => intro x2 x3; exact Ex_none
  | succ n ih =>
    intro x2 x3
    rw [f_X8_power_L4]
    refine Ex_iload_n dX8_power_4 rfl 3 rfl ?_
    refine Ex_iload_n dX8_power_5 rfl 1 rfl ?_
    refine Ex_icmp_ge (tgt := 19) dX8_power_6 (by decide) ?_ ?_
    · refine Ex_perm [2] rfl ?_
      exact hk x2 x3
    · refine Ex_iload_n dX8_power_9 rfl 2 rfl ?_
      refine Ex_iload_n dX8_power_10 rfl 0 rfl ?_
      refine Ex_imul dX8_power_11 ?_
      refine Ex_istore_n (L2 := [(2, .int (x2 * x0)), (0, .int x0), (1, .int x1), (3, .int x3)]) dX8_power_12 rfl (by decide) rfl ?_
      refine Ex_iinc (v := x3 + 1) (L2 := [(3, .int (x3 + 1)), (2, .int (x2 * x0)), (0, .int x0), (1, .int x1)]) dX8_power_13 3 rfl rfl (by decide) rfl ?_
      refine Ex_goto (tgt := 4) dX8_power_16 (by decide) ?_
      refine Ex_perm [2, 3, 1, 0] rfl ?_
      exact ih (x2 * x0) (x3 + 1)
def f_X8_power (F : Nat) (μ : Mem) (p1 : Int32) (p2 : Int32) : Option (Int32) := f_X8_power_L4 F μ p1 p2 (fun x2_1 x3_2 => some x2_1) F 1 0
set_option maxRecDepth 100000 in
set_option maxHeartbeats 4000000 in
theorem c_X8_power (a0 F : Nat) (μ : Mem) (p1 : Int32) (p2 : Int32)  {v : Int32} (hr : f_X8_power F μ p1 p2 = some v) : Ct a0 yX8_power cX8_power 4 (some .int) 0 [.int p1, .int p2] μ (some (.int v)) μ := by
  refine Ct_of (own := RX8) (ι := (fun v => (some (.int v), μ))) (o := f_X8_power F μ p1 p2) (by decide +kernel) rfl (Nat.le_of_ble_eq_true rfl) ?_ hr rfl ⟨_, rfl⟩
  show Ex a0 RX8 cX8_power 4 (some .int) 0 none (fun v => (some (.int v), μ)) 0 [(0, .int p1), (1, .int p2)] [] μ (f_X8_power F μ p1 p2)
  unfold f_X8_power
  refine Ex_iconst (v := 1) dX8_power_0 (by decide) ?_
  refine Ex_istore_n (L2 := [(2, .int 1), (0, .int p1), (1, .int p2)]) dX8_power_1 rfl (by decide) rfl ?_
  refine Ex_iconst (v := 0) dX8_power_2 (by decide) ?_
  refine Ex_istore_n (L2 := [(3, .int 0), (2, .int 1), (0, .int p1), (1, .int p2)]) dX8_power_3 rfl (by decide) rfl ?_
  refine Ex_perm [2, 3, 1, 0] rfl ?_
  refine c_X8_power_L4 a0 F μ p1 p2 _  (fun x2_1 x3_2 => ?_) F 1 0
  refine Ex_iload_n dX8_power_19 rfl 0 rfl ?_
  exact Ex_iret dX8_power_20 rfl (fun ty h => by cases h; rfl)

def f_X8_favourable_L6 (F : Nat) (μ : Mem) (q0 : Nat) (x1 : Int32) (x2 : Int32) (x3 : Int32) (x4 : Int32) (k : Int32 → Int32 → Option (Int32)) : Nat → Int32 → Int32 → Option (Int32)
  | 0, _, _ => none
  | n + 1, x5, x6 => (if x6 < (1 <<< ((gI μ (gR μ q0 1) 1) &&& 31)) then (if (x6 &&& (x1 ^^^ (-1))) = 0 then (f_X7_joins F μ (gR μ q0 1) x6 x2 x3).bind (fun v_3 => (if v_3 = 0 then f_X8_favourable_L6 F μ q0 x1 x2 x3 x4 k n x5 (x6 + 1) else (f_J_bitCount F μ x6).bind (fun v_6 => (f_J_bitCount F μ x1).bind (fun v_9 => (f_X8_power F μ (10 - x4) v_6).bind (fun v_12 => (f_X8_power F μ x4 (v_9 - v_6)).bind (fun v_15 => f_X8_favourable_L6 F μ q0 x1 x2 x3 x4 k n (x5 + (v_12 * v_15)) (x6 + 1))))))) else f_X8_favourable_L6 F μ q0 x1 x2 x3 x4 k n x5 (x6 + 1)) else k x5 x6)
set_option maxRecDepth 100000 in
set_option maxHeartbeats 4000000 in
theorem c_X8_favourable_L6 (a0 : Nat) (F : Nat) (μ : Mem) (q0 : Nat) (x1 : Int32) (x2 : Int32) (x3 : Int32) (x4 : Int32) (k : Int32 → Int32 → Option (Int32)) (hq0 : kd q0 = 8) (hk : ∀ (x5 : Int32) (x6 : Int32), Ex a0 RX8 cX8_favourable 9 (some .int) 3 none (fun v => (some (.int v), μ)) 88 [(5, .int x5)] [] μ (k x5 x6)) : ∀ (n : Nat) (x5 : Int32) (x6 : Int32), Ex a0 RX8 cX8_favourable 9 (some .int) 3 none (fun v => (some (.int v), μ)) 6 [(0, .ref (a0 + q0)), (1, .int x1), (2, .int x2), (3, .int x3), (4, .int x4), (5, .int x5), (6, .int x6)] [] μ (f_X8_favourable_L6 F μ q0 x1 x2 x3 x4 k n x5 x6) := by
  intro n
  induction n with
  | zero => intro x5 x6; exact Ex_none
  | succ n ih =>
    intro x5 x6
    rw [f_X8_favourable_L6]
    refine Ex_iload dX8_favourable_6 6 rfl ?_
    refine Ex_iconst (v := 1) dX8_favourable_8 (by decide) ?_
    refine Ex_aload_n dX8_favourable_9 rfl 0 rfl ?_
    refine Ex_wt (fun hw_1 => ?_)
    refine Ex_get (v := .ref (a0 + (gR μ q0 1))) fgX8_19 hq0 (by decide) rfl dX8_favourable_10 ?_
    refine Ex_get (v := .int (gI μ (gR μ q0 1) 1)) fgX8_216 (WT_k hw_1 hq0 (K := 8) rfl (by decide)) (by decide) rfl dX8_favourable_13 ?_
    refine Ex_ishl dX8_favourable_16 ?_
    refine Ex_icmp_ge (tgt := 88) dX8_favourable_17 (by decide) ?_ ?_
    · refine Ex_perm [5] rfl ?_
      exact hk x5 x6
    · refine Ex_iload dX8_favourable_20 6 rfl ?_
      refine Ex_iload_n dX8_favourable_22 rfl 1 rfl ?_
      refine Ex_iconst (v := (-1)) dX8_favourable_23 (by decide) ?_
      refine Ex_ixor dX8_favourable_24 ?_
      refine Ex_iand dX8_favourable_25 ?_
      refine Ex_if_ne (tgt := 82) dX8_favourable_26 (by decide) ?_ ?_
      · refine Ex_iinc (v := x6 + 1) (L2 := [(6, .int (x6 + 1)), (0, .ref (a0 + q0)), (1, .int x1), (2, .int x2), (3, .int x3), (4, .int x4), (5, .int x5)]) dX8_favourable_82 6 rfl rfl (by decide) rfl ?_
        refine Ex_goto (tgt := 6) dX8_favourable_85 (by decide) ?_
        refine Ex_perm [1, 2, 3, 4, 5, 6, 0] rfl ?_
        exact ih x5 (x6 + 1)
      · refine Ex_aload_n dX8_favourable_29 rfl 0 rfl ?_
        refine Ex_wt (fun hw_2 => ?_)
        refine Ex_get (v := .ref (a0 + (gR μ q0 1))) fgX8_19 hq0 (by decide) rfl dX8_favourable_30 ?_
        refine Ex_iload dX8_favourable_33 6 rfl ?_
        refine Ex_iload_n dX8_favourable_35 rfl 2 rfl ?_
        refine Ex_iload_n dX8_favourable_36 rfl 3 rfl ?_
        refine Ex_callVR (n := 3) (dp2 := 2) [.int x6, .int x2, .int x3] cvX8_213 (WT_k hw_2 hq0 (K := 8) rfl (by decide)) rfl rfl (by decide) (by decide) (Nat.le_of_ble_eq_true rfl) rfl (fun v hv => c_X7_joins a0 F μ (gR μ q0 1) x6 x2 x3 (WT_k hw_2 hq0 (K := 8) rfl (by decide)) hv) dX8_favourable_37 (fun v_3 hv_5 => ?_)
        refine Ex_if_eq (tgt := 82) dX8_favourable_40 (by decide) ?_ ?_
        · refine Ex_iinc (v := x6 + 1) (L2 := [(6, .int (x6 + 1)), (0, .ref (a0 + q0)), (1, .int x1), (2, .int x2), (3, .int x3), (4, .int x4), (5, .int x5)]) dX8_favourable_82 6 rfl rfl (by decide) rfl ?_
          refine Ex_goto (tgt := 6) dX8_favourable_85 (by decide) ?_
          refine Ex_perm [1, 2, 3, 4, 5, 6, 0] rfl ?_
          exact ih x5 (x6 + 1)
        · refine Ex_iload dX8_favourable_43 6 rfl ?_
          refine Ex_callSR (n := 1) (dp2 := 0) [.int x6] cvX8_219 rfl (by decide) (by decide) (Nat.le_of_ble_eq_true rfl) rfl (fun v hv => c_J_bitCount a0 F μ x6 hv) dX8_favourable_45 (fun v_6 hv_8 => ?_)
          refine Ex_istore (L2 := [(7, .int v_6), (0, .ref (a0 + q0)), (1, .int x1), (2, .int x2), (3, .int x3), (4, .int x4), (5, .int x5), (6, .int x6)]) dX8_favourable_48 (by decide) rfl ?_
          refine Ex_iload_n dX8_favourable_50 rfl 2 rfl ?_
          refine Ex_callSR (n := 1) (dp2 := 0) [.int x1] cvX8_219 rfl (by decide) (by decide) (Nat.le_of_ble_eq_true rfl) rfl (fun v hv => c_J_bitCount a0 F μ x1 hv) dX8_favourable_51 (fun v_9 hv_11 => ?_)
          refine Ex_iload dX8_favourable_54 0 rfl ?_
          refine Ex_isub dX8_favourable_56 ?_
          refine Ex_istore (L2 := [(8, .int (v_9 - v_6)), (7, .int v_6), (0, .ref (a0 + q0)), (1, .int x1), (2, .int x2), (3, .int x3), (4, .int x4), (5, .int x5), (6, .int x6)]) dX8_favourable_57 (by decide) rfl ?_
          refine Ex_iload dX8_favourable_59 7 rfl ?_
          refine Ex_bipush (v := 10) dX8_favourable_61 (by decide) ?_
          refine Ex_iload dX8_favourable_63 6 rfl ?_
          refine Ex_isub dX8_favourable_65 ?_
          refine Ex_iload dX8_favourable_66 1 rfl ?_
          refine Ex_callSR (n := 2) (dp2 := 0) [.int (10 - x4), .int v_6] cvX8_228 rfl (by decide) (by decide) (Nat.le_of_ble_eq_true rfl) rfl (fun v hv => c_X8_power a0 F μ (10 - x4) v_6 hv) dX8_favourable_68 (fun v_12 hv_14 => ?_)
          refine Ex_iload dX8_favourable_71 6 rfl ?_
          refine Ex_iload dX8_favourable_73 0 rfl ?_
          refine Ex_callSR (n := 2) (dp2 := 0) [.int x4, .int (v_9 - v_6)] cvX8_228 rfl (by decide) (by decide) (Nat.le_of_ble_eq_true rfl) rfl (fun v hv => c_X8_power a0 F μ x4 (v_9 - v_6) hv) dX8_favourable_75 (fun v_15 hv_17 => ?_)
          refine Ex_imul dX8_favourable_78 ?_
          refine Ex_iadd dX8_favourable_79 ?_
          refine Ex_istore (L2 := [(5, .int (x5 + (v_12 * v_15))), (8, .int (v_9 - v_6)), (7, .int v_6), (0, .ref (a0 + q0)), (1, .int x1), (2, .int x2), (3, .int x3), (4, .int x4), (6, .int x6)]) dX8_favourable_80 (by decide) rfl ?_
          refine Ex_iinc (v := x6 + 1) (L2 := [(6, .int (x6 + 1)), (5, .int (x5 + (v_12 * v_15))), (8, .int (v_9 - v_6)), (7, .int v_6), (0, .ref (a0 + q0)), (1, .int x1), (2, .int x2), (3, .int x3), (4, .int x4)]) dX8_favourable_82 8 rfl rfl (by decide) rfl ?_
          refine Ex_goto (tgt := 6) dX8_favourable_85 (by decide) ?_
          refine Ex_perm [4, 5, 6, 7, 8, 1, 0] rfl ?_
          exact ih (x5 + (v_12 * v_15)) (x6 + 1)
def f_X8_favourable (F : Nat) (μ : Mem) (t : Nat) (p1 : Int32) (p2 : Int32) (p3 : Int32) (p4 : Int32) : Option (Int32) := f_X8_favourable_L6 F μ t p1 p2 p3 p4 (fun x5_18 x6_19 => some x5_18) F 0 0
set_option maxRecDepth 100000 in
set_option maxHeartbeats 4000000 in
theorem c_X8_favourable (a0 F : Nat) (μ : Mem) (t : Nat) (p1 : Int32) (p2 : Int32) (p3 : Int32) (p4 : Int32) (hk0 : kd t = 8) {v : Int32} (hr : f_X8_favourable F μ t p1 p2 p3 p4 = some v) : Ct a0 yX8_favourable cX8_favourable 9 (some .int) 3 [.ref (a0 + t), .int p1, .int p2, .int p3, .int p4] μ (some (.int v)) μ := by
  refine Ct_of (own := RX8) (ι := (fun v => (some (.int v), μ))) (o := f_X8_favourable F μ t p1 p2 p3 p4) (by decide +kernel) rfl (Nat.le_of_ble_eq_true rfl) ?_ hr rfl ⟨_, rfl⟩
  show Ex a0 RX8 cX8_favourable 9 (some .int) 3 none (fun v => (some (.int v), μ)) 0 [(0, .ref (a0 + t)), (1, .int p1), (2, .int p2), (3, .int p3), (4, .int p4)] [] μ (f_X8_favourable F μ t p1 p2 p3 p4)
  unfold f_X8_favourable
  refine Ex_iconst (v := 0) dX8_favourable_0 (by decide) ?_
  refine Ex_istore (L2 := [(5, .int 0), (0, .ref (a0 + t)), (1, .int p1), (2, .int p2), (3, .int p3), (4, .int p4)]) dX8_favourable_1 (by decide) rfl ?_
  refine Ex_iconst (v := 0) dX8_favourable_3 (by decide) ?_
  refine Ex_istore (L2 := [(6, .int 0), (5, .int 0), (0, .ref (a0 + t)), (1, .int p1), (2, .int p2), (3, .int p3), (4, .int p4)]) dX8_favourable_4 (by decide) rfl ?_
  refine Ex_perm [2, 3, 4, 5, 6, 1, 0] rfl ?_
  refine c_X8_favourable_L6 a0 F μ t p1 p2 p3 p4 _ hk0 (fun x5_18 x6_19 => ?_) F 0 0
  refine Ex_iload dX8_favourable_88 0 rfl ?_
  exact Ex_iret dX8_favourable_90 rfl (fun ty h => by cases h; rfl)

def f_X8_fitting_L4 (F : Nat) (μ : Mem) (q0 : Nat) (x1 : Int32) (k : Int32 → Int32 → Option (Int32)) : Nat → Int32 → Int32 → Option (Int32)
  | 0, _, _ => none
  | n + 1, x2, x3 => (if 9 < x3 then k x2 x3 else (f_X2_allow F μ (q0 + 64) x1 ((gI μ (gR μ q0 1) 8) + (2 * x3)) (gI μ (gR μ q0 1) 9)).bind (fun v_3 => (if v_3 = 0 then f_X8_fitting_L4 F μ q0 x1 k n x2 (x3 + 1) else f_X8_fitting_L4 F μ q0 x1 k n (x2 ||| (1 <<< (x3 &&& 31))) (x3 + 1))))
set_option maxRecDepth 100000 in
set_option maxHeartbeats 4000000 in
theorem c_X8_fitting_L4 (a0 : Nat) (F : Nat) (μ : Mem) (q0 : Nat) (x1 : Int32) (k : Int32 → Int32 → Option (Int32)) (hq0 : kd q0 = 8) (hk : ∀ (x2 : Int32) (x3 : Int32), Ex a0 RX8 cX8_fitting 4 (some .int) 2 none (fun v => (some (.int v), μ)) 51 [(2, .int x2)] [] μ (k x2 x3)) : ∀ (n : Nat) (x2 : Int32) (x3 : Int32), Ex a0 RX8 cX8_fitting 4 (some .int) 2 none (fun v => (some (.int v), μ)) 4 [(0, .ref (a0 + q0)), (1, .int x1), (2, .int x2), (3, .int x3)] [] μ (f_X8_fitting_L4 F μ q0 x1 k n x2 x3) := by
  intro n
  induction n with
  | zero => intro x2 x3; exact Ex_none
  | succ n ih =>
    intro x2 x3
    rw [f_X8_fitting_L4]
    refine Ex_iload_n dX8_fitting_4 rfl 3 rfl ?_
    refine Ex_bipush (v := 9) dX8_fitting_5 (by decide) ?_
    refine Ex_icmp_gt (tgt := 51) dX8_fitting_7 (by decide) ?_ ?_
    · refine Ex_perm [2] rfl ?_
      exact hk x2 x3
    · refine Ex_aload_n dX8_fitting_10 rfl 0 rfl ?_
      refine Ex_get (v := .ref (a0 + (q0 + 64))) fgX8_44 hq0 (by decide) rfl dX8_fitting_11 ?_
      refine Ex_iload_n dX8_fitting_14 rfl 1 rfl ?_
      refine Ex_aload_n dX8_fitting_15 rfl 0 rfl ?_
      refine Ex_wt (fun hw_1 => ?_)
      refine Ex_get (v := .ref (a0 + (gR μ q0 1))) fgX8_19 hq0 (by decide) rfl dX8_fitting_16 ?_
      refine Ex_get (v := .int (gI μ (gR μ q0 1) 8)) fgX8_283 (WT_k hw_1 hq0 (K := 8) rfl (by decide)) (by decide) rfl dX8_fitting_19 ?_
      refine Ex_iconst (v := 2) dX8_fitting_22 (by decide) ?_
      refine Ex_iload_n dX8_fitting_23 rfl 3 rfl ?_
      refine Ex_imul dX8_fitting_24 ?_
      refine Ex_iadd dX8_fitting_25 ?_
      refine Ex_aload_n dX8_fitting_26 rfl 0 rfl ?_
      refine Ex_wt (fun hw_2 => ?_)
      refine Ex_get (v := .ref (a0 + (gR μ q0 1))) fgX8_19 hq0 (by decide) rfl dX8_fitting_27 ?_
      refine Ex_get (v := .int (gI μ (gR μ q0 1) 9)) fgX8_286 (WT_k hw_2 hq0 (K := 8) rfl (by decide)) (by decide) rfl dX8_fitting_30 ?_
      refine Ex_callVR (n := 3) (dp2 := 1) [.int x1, .int ((gI μ (gR μ q0 1) 8) + (2 * x3)), .int (gI μ (gR μ q0 1) 9)] cvX8_292 (kn_8_64 hq0) rfl rfl (by decide) (by decide) (Nat.le_of_ble_eq_true rfl) rfl (fun v hv => c_X2_allow a0 F μ (q0 + 64) x1 ((gI μ (gR μ q0 1) 8) + (2 * x3)) (gI μ (gR μ q0 1) 9) (kn_8_64 hq0) hv) dX8_fitting_33 (fun v_3 hv_5 => ?_)
      refine Ex_if_eq (tgt := 45) dX8_fitting_36 (by decide) ?_ ?_
      · refine Ex_iinc (v := x3 + 1) (L2 := [(3, .int (x3 + 1)), (0, .ref (a0 + q0)), (1, .int x1), (2, .int x2)]) dX8_fitting_45 3 rfl rfl (by decide) rfl ?_
        refine Ex_goto (tgt := 4) dX8_fitting_48 (by decide) ?_
        refine Ex_perm [1, 2, 3, 0] rfl ?_
        exact ih x2 (x3 + 1)
      · refine Ex_iload_n dX8_fitting_39 rfl 2 rfl ?_
        refine Ex_iconst (v := 1) dX8_fitting_40 (by decide) ?_
        refine Ex_iload_n dX8_fitting_41 rfl 3 rfl ?_
        refine Ex_ishl dX8_fitting_42 ?_
        refine Ex_ior dX8_fitting_43 ?_
        refine Ex_istore_n (L2 := [(2, .int (x2 ||| (1 <<< (x3 &&& 31)))), (0, .ref (a0 + q0)), (1, .int x1), (3, .int x3)]) dX8_fitting_44 rfl (by decide) rfl ?_
        refine Ex_iinc (v := x3 + 1) (L2 := [(3, .int (x3 + 1)), (2, .int (x2 ||| (1 <<< (x3 &&& 31)))), (0, .ref (a0 + q0)), (1, .int x1)]) dX8_fitting_45 3 rfl rfl (by decide) rfl ?_
        refine Ex_goto (tgt := 4) dX8_fitting_48 (by decide) ?_
        refine Ex_perm [2, 3, 1, 0] rfl ?_
        exact ih (x2 ||| (1 <<< (x3 &&& 31))) (x3 + 1)
def f_X8_fitting (F : Nat) (μ : Mem) (t : Nat) (p1 : Int32) : Option (Int32) := f_X8_fitting_L4 F μ t p1 (fun x2_6 x3_7 => some x2_6) F 0 0
set_option maxRecDepth 100000 in
set_option maxHeartbeats 4000000 in
theorem c_X8_fitting (a0 F : Nat) (μ : Mem) (t : Nat) (p1 : Int32) (hk0 : kd t = 8) {v : Int32} (hr : f_X8_fitting F μ t p1 = some v) : Ct a0 yX8_fitting cX8_fitting 4 (some .int) 2 [.ref (a0 + t), .int p1] μ (some (.int v)) μ := by
  refine Ct_of (own := RX8) (ι := (fun v => (some (.int v), μ))) (o := f_X8_fitting F μ t p1) (by decide +kernel) rfl (Nat.le_of_ble_eq_true rfl) ?_ hr rfl ⟨_, rfl⟩
  show Ex a0 RX8 cX8_fitting 4 (some .int) 2 none (fun v => (some (.int v), μ)) 0 [(0, .ref (a0 + t)), (1, .int p1)] [] μ (f_X8_fitting F μ t p1)
  unfold f_X8_fitting
  refine Ex_iconst (v := 0) dX8_fitting_0 (by decide) ?_
  refine Ex_istore_n (L2 := [(2, .int 0), (0, .ref (a0 + t)), (1, .int p1)]) dX8_fitting_1 rfl (by decide) rfl ?_
  refine Ex_iconst (v := 0) dX8_fitting_2 (by decide) ?_
  refine Ex_istore_n (L2 := [(3, .int 0), (2, .int 0), (0, .ref (a0 + t)), (1, .int p1)]) dX8_fitting_3 rfl (by decide) rfl ?_
  refine Ex_perm [2, 3, 1, 0] rfl ?_
  refine c_X8_fitting_L4 a0 F μ t p1 _ hk0 (fun x2_6 x3_7 => ?_) F 0 0
  refine Ex_iload_n dX8_fitting_51 rfl 0 rfl ?_
  exact Ex_iret dX8_fitting_52 rfl (fun ty h => by cases h; rfl)

def f_X8_fits (F : Nat) (μ : Mem) (t : Nat) (p1 : Int32) : Option (Int32) := (f_X8_noPerson F μ t p1).bind (fun v_1 => (if v_1 = 0 then (f_X8_fitting F μ t p1).bind (fun v_4 => some v_4) else some (-1)))
set_option maxRecDepth 100000 in
set_option maxHeartbeats 4000000 in
theorem c_X8_fits (a0 F : Nat) (μ : Mem) (t : Nat) (p1 : Int32) (hk0 : kd t = 8) {v : Int32} (hr : f_X8_fits F μ t p1 = some v) : Ct a0 yX8_fits cX8_fits 2 (some .int) 3 [.ref (a0 + t), .int p1] μ (some (.int v)) μ := by
  refine Ct_of (own := RX8) (ι := (fun v => (some (.int v), μ))) (o := f_X8_fits F μ t p1) (by decide +kernel) rfl (Nat.le_of_ble_eq_true rfl) ?_ hr rfl ⟨_, rfl⟩
  show Ex a0 RX8 cX8_fits 2 (some .int) 3 none (fun v => (some (.int v), μ)) 0 [(0, .ref (a0 + t)), (1, .int p1)] [] μ (f_X8_fits F μ t p1)
  unfold f_X8_fits
  refine Ex_aload_n dX8_fits_0 rfl 0 rfl ?_
  refine Ex_iload_n dX8_fits_1 rfl 1 rfl ?_
  refine Ex_callVR (n := 1) (dp2 := 0) [.int p1] cvX8_110 hk0 rfl rfl (by decide) (by decide) (Nat.le_of_ble_eq_true rfl) rfl (fun v hv => c_X8_noPerson a0 F μ t p1 hk0 hv) dX8_fits_2 (fun v_1 hv_3 => ?_)
  refine Ex_if_eq (tgt := 12) dX8_fits_5 (by decide) ?_ ?_
  · refine Ex_aload_n dX8_fits_12 rfl 0 rfl ?_
    refine Ex_iload_n dX8_fits_13 rfl 1 rfl ?_
    refine Ex_callVR (n := 1) (dp2 := 2) [.int p1] cvX8_254 hk0 rfl rfl (by decide) (by decide) (Nat.le_of_ble_eq_true rfl) rfl (fun v hv => c_X8_fitting a0 F μ t p1 hk0 hv) dX8_fits_14 (fun v_4 hv_6 => ?_)
    exact Ex_iret dX8_fits_17 rfl (fun ty h => by cases h; rfl)
  · refine Ex_iconst (v := (-1)) dX8_fits_8 (by decide) ?_
    refine Ex_goto (tgt := 17) dX8_fits_9 (by decide) ?_
    exact Ex_iret dX8_fits_17 rfl (fun ty h => by cases h; rfl)

def f_X8_forget (F : Nat) (μ : Mem) (t : Nat) : Option (Int32 × Mem) := lt (sI μ (t + 64) 2 0) (fun μ_1 => some (gI μ (t + 64) 2, μ_1))
set_option maxRecDepth 100000 in
set_option maxHeartbeats 4000000 in
theorem c_X8_forget (a0 F : Nat) (μ : Mem) (t : Nat) (hk0 : kd t = 8) {v : Int32} {μ2 : Mem} (hr : f_X8_forget F μ t = some (v, μ2)) : Ct a0 yX8_forget cX8_forget 2 (some .int) 0 [.ref (a0 + t)] μ (some (.int v)) μ2 := by
  refine Ct_of (own := RX8) (ι := (fun x => (some (.int x.1), x.2))) (o := f_X8_forget F μ t) (by decide +kernel) rfl (Nat.le_of_ble_eq_true rfl) ?_ hr rfl ⟨_, rfl⟩
  show Ex a0 RX8 cX8_forget 2 (some .int) 0 none (fun x => (some (.int x.1), x.2)) 0 [(0, .ref (a0 + t))] [] μ (f_X8_forget F μ t)
  unfold f_X8_forget
  refine Ex_aload_n dX8_forget_0 rfl 0 rfl ?_
  refine Ex_get (v := .ref (a0 + (t + 64))) fgX8_44 hk0 (by decide) rfl dX8_forget_1 ?_
  refine Ex_get (v := .int (gI μ (t + 64) 2)) fgX8_91 (kn_8_64 hk0) (by decide) rfl dX8_forget_4 ?_
  refine Ex_istore_n (L2 := [(1, .int (gI μ (t + 64) 2)), (0, .ref (a0 + t))]) dX8_forget_7 rfl (by decide) rfl ?_
  refine Ex_aload_n dX8_forget_8 rfl 1 rfl ?_
  refine Ex_get (v := .ref (a0 + (t + 64))) fgX8_44 hk0 (by decide) rfl dX8_forget_9 ?_
  refine Ex_iconst (v := 0) dX8_forget_12 (by decide) ?_
  refine Ex_putI fgX8_91 fp2_2 (kn_8_64 hk0) (by decide) rfl rfl (Nat.le_of_ble_eq_true rfl) (fs2_2 a0 μ (t + 64) 0) dX8_forget_13 (fun μ_1 => ?_)
  refine Ex_iload_n dX8_forget_16 rfl 0 rfl ?_
  exact Ex_iret dX8_forget_17 rfl (fun ty h => by cases h; rfl)

def f_X8_gate (F : Nat) (μ : Mem) (t : Nat) (p1 : Int32) (p2 : Int32) : Option (Int32 × Mem) := (f_X8_noPerson F μ t p1).bind (fun v_1 => (if v_1 = 0 then (if p2 < 0 then some ((-1), μ) else (if 40 < p2 then some ((-1), μ) else bW (f_X2_add F μ (t + 64) p1 p2) (fun v_4 μ_5 => (if v_4 = 0 then some ((-3), μ_5) else some (gI μ_5 (t + 64) 2, μ_5))))) else some ((-1), μ)))
set_option maxRecDepth 100000 in
set_option maxHeartbeats 4000000 in
theorem c_X8_gate (a0 F : Nat) (μ : Mem) (t : Nat) (p1 : Int32) (p2 : Int32) (hk0 : kd t = 8) {v : Int32} {μ2 : Mem} (hr : f_X8_gate F μ t p1 p2 = some (v, μ2)) : Ct a0 yX8_gate cX8_gate 3 (some .int) 1 [.ref (a0 + t), .int p1, .int p2] μ (some (.int v)) μ2 := by
  refine Ct_of (own := RX8) (ι := (fun x => (some (.int x.1), x.2))) (o := f_X8_gate F μ t p1 p2) (by decide +kernel) rfl (Nat.le_of_ble_eq_true rfl) ?_ hr rfl ⟨_, rfl⟩
  show Ex a0 RX8 cX8_gate 3 (some .int) 1 none (fun x => (some (.int x.1), x.2)) 0 [(0, .ref (a0 + t)), (1, .int p1), (2, .int p2)] [] μ (f_X8_gate F μ t p1 p2)
  unfold f_X8_gate
  refine Ex_aload_n dX8_gate_0 rfl 0 rfl ?_
  refine Ex_iload_n dX8_gate_1 rfl 1 rfl ?_
  refine Ex_callVR (n := 1) (dp2 := 0) [.int p1] cvX8_110 hk0 rfl rfl (by decide) (by decide) (Nat.le_of_ble_eq_true rfl) rfl (fun v hv => c_X8_noPerson a0 F μ t p1 hk0 hv) dX8_gate_2 (fun v_1 hv_3 => ?_)
  refine Ex_if_ne (tgt := 18) dX8_gate_5 (by decide) ?_ ?_
  · refine Ex_iconst (v := (-1)) dX8_gate_18 (by decide) ?_
    exact Ex_iret dX8_gate_19 rfl (fun ty h => by cases h; rfl)
  · refine Ex_iload_n dX8_gate_8 rfl 2 rfl ?_
    refine Ex_if_lt (tgt := 18) dX8_gate_9 (by decide) ?_ ?_
    · refine Ex_iconst (v := (-1)) dX8_gate_18 (by decide) ?_
      exact Ex_iret dX8_gate_19 rfl (fun ty h => by cases h; rfl)
    · refine Ex_iload_n dX8_gate_12 rfl 2 rfl ?_
      refine Ex_bipush (v := 40) dX8_gate_13 (by decide) ?_
      refine Ex_icmp_le (tgt := 20) dX8_gate_15 (by decide) ?_ ?_
      · refine Ex_aload_n dX8_gate_20 rfl 0 rfl ?_
        refine Ex_get (v := .ref (a0 + (t + 64))) fgX8_44 hk0 (by decide) rfl dX8_gate_21 ?_
        refine Ex_iload_n dX8_gate_24 rfl 1 rfl ?_
        refine Ex_iload_n dX8_gate_25 rfl 2 rfl ?_
        refine Ex_callVW (n := 2) (dp2 := 0) [.int p1, .int p2] cvX8_252 (kn_8_64 hk0) rfl rfl (by decide) (by decide) (Nat.le_of_ble_eq_true rfl) rfl (fun v μ2 hv => c_X2_add a0 F μ (t + 64) p1 p2 (kn_8_64 hk0) hv) dX8_gate_26 (fun v_4 μ_5 hv_6 => ?_)
        refine Ex_if_eq (tgt := 42) dX8_gate_29 (by decide) ?_ ?_
        · refine Ex_bipush (v := (-3)) dX8_gate_42 (by decide) ?_
          exact Ex_iret dX8_gate_44 rfl (fun ty h => by cases h; rfl)
        · refine Ex_aload_n dX8_gate_32 rfl 0 rfl ?_
          refine Ex_get (v := .ref (a0 + (t + 64))) fgX8_44 hk0 (by decide) rfl dX8_gate_33 ?_
          refine Ex_get (v := .int (gI μ_5 (t + 64) 2)) fgX8_91 (kn_8_64 hk0) (by decide) rfl dX8_gate_36 ?_
          refine Ex_goto (tgt := 44) dX8_gate_39 (by decide) ?_
          exact Ex_iret dX8_gate_44 rfl (fun ty h => by cases h; rfl)
      · refine Ex_iconst (v := (-1)) dX8_gate_18 (by decide) ?_
        exact Ex_iret dX8_gate_19 rfl (fun ty h => by cases h; rfl)

def f_X8_noLane (F : Nat) (μ : Mem) (t : Nat) (p1 : Int32) : Option (Int32) := (if p1 < 0 then some 1 else (if p1 < (gI μ (gR μ t 1) 1) then some 0 else some 1))
set_option maxRecDepth 100000 in
set_option maxHeartbeats 4000000 in
theorem c_X8_noLane (a0 F : Nat) (μ : Mem) (t : Nat) (p1 : Int32) (hk0 : kd t = 8) {v : Int32} (hr : f_X8_noLane F μ t p1 = some v) : Ct a0 yX8_noLane cX8_noLane 2 (some .boolean) 0 [.ref (a0 + t), .int p1] μ (some (.int v)) μ := by
  refine Ct_of (own := RX8) (ι := (fun v => (some (.int v), μ))) (o := f_X8_noLane F μ t p1) (by decide +kernel) rfl (Nat.le_of_ble_eq_true rfl) ?_ hr rfl ⟨_, rfl⟩
  show Ex a0 RX8 cX8_noLane 2 (some .boolean) 0 none (fun v => (some (.int v), μ)) 0 [(0, .ref (a0 + t)), (1, .int p1)] [] μ (f_X8_noLane F μ t p1)
  unfold f_X8_noLane
  refine Ex_iload_n dX8_noLane_0 rfl 1 rfl ?_
  refine Ex_if_lt (tgt := 15) dX8_noLane_1 (by decide) ?_ ?_
  · refine Ex_iconst (v := 1) dX8_noLane_15 (by decide) ?_
    refine Ex_goto (tgt := 20) dX8_noLane_16 (by decide) ?_
    exact Ex_iret dX8_noLane_20 rfl (fun ty h => by cases h; rfl)
  · refine Ex_iload_n dX8_noLane_4 rfl 1 rfl ?_
    refine Ex_aload_n dX8_noLane_5 rfl 0 rfl ?_
    refine Ex_wt (fun hw_1 => ?_)
    refine Ex_get (v := .ref (a0 + (gR μ t 1))) fgX8_19 hk0 (by decide) rfl dX8_noLane_6 ?_
    refine Ex_get (v := .int (gI μ (gR μ t 1) 1)) fgX8_216 (WT_k hw_1 hk0 (K := 8) rfl (by decide)) (by decide) rfl dX8_noLane_9 ?_
    refine Ex_icmp_lt (tgt := 19) dX8_noLane_12 (by decide) ?_ ?_
    · refine Ex_iconst (v := 0) dX8_noLane_19 (by decide) ?_
      exact Ex_iret dX8_noLane_20 rfl (fun ty h => by cases h; rfl)
    · refine Ex_iconst (v := 1) dX8_noLane_15 (by decide) ?_
      refine Ex_goto (tgt := 20) dX8_noLane_16 (by decide) ?_
      exact Ex_iret dX8_noLane_20 rfl (fun ty h => by cases h; rfl)

def f_X8_isClosed (F : Nat) (μ : Mem) (t : Nat) (p1 : Int32) : Option (Int32) := (if (((gI μ ((t + 16) + 1) 3) >>> (p1 &&& 31)) &&& 1) = 0 then some 0 else some 1)
set_option maxRecDepth 100000 in
set_option maxHeartbeats 4000000 in
theorem c_X8_isClosed (a0 F : Nat) (μ : Mem) (t : Nat) (p1 : Int32) (hk0 : kd t = 8) {v : Int32} (hr : f_X8_isClosed F μ t p1 = some v) : Ct a0 yX8_isClosed cX8_isClosed 2 (some .boolean) 0 [.ref (a0 + t), .int p1] μ (some (.int v)) μ := by
  refine Ct_of (own := RX8) (ι := (fun v => (some (.int v), μ))) (o := f_X8_isClosed F μ t p1) (by decide +kernel) rfl (Nat.le_of_ble_eq_true rfl) ?_ hr rfl ⟨_, rfl⟩
  show Ex a0 RX8 cX8_isClosed 2 (some .boolean) 0 none (fun v => (some (.int v), μ)) 0 [(0, .ref (a0 + t)), (1, .int p1)] [] μ (f_X8_isClosed F μ t p1)
  unfold f_X8_isClosed
  refine Ex_aload_n dX8_isClosed_0 rfl 0 rfl ?_
  refine Ex_get (v := .ref (a0 + (t + 16))) fgX8_29 hk0 (by decide) rfl dX8_isClosed_1 ?_
  refine Ex_get (v := .ref (a0 + ((t + 16) + 1))) fgX8_113 (kn_8_16 hk0) (by decide) rfl dX8_isClosed_4 ?_
  refine Ex_get (v := .int (gI μ ((t + 16) + 1) 3)) fgX8_179 (kn_0_1 (kn_8_16 hk0)) (by decide) rfl dX8_isClosed_7 ?_
  refine Ex_iload_n dX8_isClosed_10 rfl 1 rfl ?_
  refine Ex_ishr dX8_isClosed_11 ?_
  refine Ex_iconst (v := 1) dX8_isClosed_12 (by decide) ?_
  refine Ex_iand dX8_isClosed_13 ?_
  refine Ex_if_eq (tgt := 21) dX8_isClosed_14 (by decide) ?_ ?_
  · refine Ex_iconst (v := 0) dX8_isClosed_21 (by decide) ?_
    exact Ex_iret dX8_isClosed_22 rfl (fun ty h => by cases h; rfl)
  · refine Ex_iconst (v := 1) dX8_isClosed_17 (by decide) ?_
    refine Ex_goto (tgt := 22) dX8_isClosed_18 (by decide) ?_
    exact Ex_iret dX8_isClosed_22 rfl (fun ty h => by cases h; rfl)

def f_X8_wideness (F : Nat) (μ : Mem) (t : Nat) (p1 : Int32) : Option (Int32) := if ix p1 5 = true then some ((gI μ (gR μ t 1) 8) + (2 * (gI μ (((t + 16) + 1) + 1) p1.toNatClampNeg))) else none
set_option maxRecDepth 100000 in
set_option maxHeartbeats 4000000 in
theorem c_X8_wideness (a0 F : Nat) (μ : Mem) (t : Nat) (p1 : Int32) (hk0 : kd t = 8) {v : Int32} (hr : f_X8_wideness F μ t p1 = some v) : Ct a0 yX8_wideness cX8_wideness 2 (some .int) 0 [.ref (a0 + t), .int p1] μ (some (.int v)) μ := by
  refine Ct_of (own := RX8) (ι := (fun v => (some (.int v), μ))) (o := f_X8_wideness F μ t p1) (by decide +kernel) rfl (Nat.le_of_ble_eq_true rfl) ?_ hr rfl ⟨_, rfl⟩
  show Ex a0 RX8 cX8_wideness 2 (some .int) 0 none (fun v => (some (.int v), μ)) 0 [(0, .ref (a0 + t)), (1, .int p1)] [] μ (f_X8_wideness F μ t p1)
  unfold f_X8_wideness
  refine Ex_aload_n dX8_wideness_0 rfl 0 rfl ?_
  refine Ex_wt (fun hw_1 => ?_)
  refine Ex_get (v := .ref (a0 + (gR μ t 1))) fgX8_19 hk0 (by decide) rfl dX8_wideness_1 ?_
  refine Ex_get (v := .int (gI μ (gR μ t 1) 8)) fgX8_283 (WT_k hw_1 hk0 (K := 8) rfl (by decide)) (by decide) rfl dX8_wideness_4 ?_
  refine Ex_iconst (v := 2) dX8_wideness_7 (by decide) ?_
  refine Ex_aload_n dX8_wideness_8 rfl 0 rfl ?_
  refine Ex_get (v := .ref (a0 + (t + 16))) fgX8_29 hk0 (by decide) rfl dX8_wideness_9 ?_
  refine Ex_get (v := .ref (a0 + ((t + 16) + 1))) fgX8_113 (kn_8_16 hk0) (by decide) rfl dX8_wideness_12 ?_
  refine Ex_get (v := .ref (a0 + (((t + 16) + 1) + 1))) fgX8_117 (kn_0_1 (kn_8_16 hk0)) (by decide) rfl dX8_wideness_15 ?_
  refine Ex_iload_n dX8_wideness_18 rfl 1 rfl ?_
  refine Ex_iald 5 (kn_3_1 (kn_0_1 (kn_8_16 hk0))) (by decide) dX8_wideness_19 ?_
  refine Ex_imul dX8_wideness_20 ?_
  refine Ex_iadd dX8_wideness_21 ?_
  exact Ex_iret dX8_wideness_22 rfl (fun ty h => by cases h; rfl)

def f_X8_isTooNarrow (F : Nat) (μ : Mem) (t : Nat) (p1 : Int32) (p2 : Int32) : Option (Int32) := (f_X8_wideness F μ t p2).bind (fun v_1 => if ix p1 8 = true then (if (gI μ ((gR μ t 1) + 3) p1.toNatClampNeg) < v_1 then some 1 else some 0) else none)
set_option maxRecDepth 100000 in
set_option maxHeartbeats 4000000 in
theorem c_X8_isTooNarrow (a0 F : Nat) (μ : Mem) (t : Nat) (p1 : Int32) (p2 : Int32) (hk0 : kd t = 8) {v : Int32} (hr : f_X8_isTooNarrow F μ t p1 p2 = some v) : Ct a0 yX8_isTooNarrow cX8_isTooNarrow 3 (some .boolean) 1 [.ref (a0 + t), .int p1, .int p2] μ (some (.int v)) μ := by
  refine Ct_of (own := RX8) (ι := (fun v => (some (.int v), μ))) (o := f_X8_isTooNarrow F μ t p1 p2) (by decide +kernel) rfl (Nat.le_of_ble_eq_true rfl) ?_ hr rfl ⟨_, rfl⟩
  show Ex a0 RX8 cX8_isTooNarrow 3 (some .boolean) 1 none (fun v => (some (.int v), μ)) 0 [(0, .ref (a0 + t)), (1, .int p1), (2, .int p2)] [] μ (f_X8_isTooNarrow F μ t p1 p2)
  unfold f_X8_isTooNarrow
  refine Ex_aload_n dX8_isTooNarrow_0 rfl 0 rfl ?_
  refine Ex_iload_n dX8_isTooNarrow_1 rfl 2 rfl ?_
  refine Ex_callVR (n := 1) (dp2 := 0) [.int p2] cvX8_125 hk0 rfl rfl (by decide) (by decide) (Nat.le_of_ble_eq_true rfl) rfl (fun v hv => c_X8_wideness a0 F μ t p2 hk0 hv) dX8_isTooNarrow_2 (fun v_1 hv_3 => ?_)
  refine Ex_aload_n dX8_isTooNarrow_5 rfl 0 rfl ?_
  refine Ex_wt (fun hw_4 => ?_)
  refine Ex_get (v := .ref (a0 + (gR μ t 1))) fgX8_19 hk0 (by decide) rfl dX8_isTooNarrow_6 ?_
  refine Ex_get (v := .ref (a0 + ((gR μ t 1) + 3))) fgX8_104 (WT_k hw_4 hk0 (K := 8) rfl (by decide)) (by decide) rfl dX8_isTooNarrow_9 ?_
  refine Ex_iload_n dX8_isTooNarrow_12 rfl 1 rfl ?_
  refine Ex_iald 8 (kn_7_3 (WT_k hw_4 hk0 (K := 8) rfl (by decide))) (by decide) dX8_isTooNarrow_13 ?_
  refine Ex_icmp_le (tgt := 21) dX8_isTooNarrow_14 (by decide) ?_ ?_
  · refine Ex_iconst (v := 0) dX8_isTooNarrow_21 (by decide) ?_
    exact Ex_iret dX8_isTooNarrow_22 rfl (fun ty h => by cases h; rfl)
  · refine Ex_iconst (v := 1) dX8_isTooNarrow_17 (by decide) ?_
    refine Ex_goto (tgt := 22) dX8_isTooNarrow_18 (by decide) ?_
    exact Ex_iret dX8_isTooNarrow_22 rfl (fun ty h => by cases h; rfl)

def f_X8_goes (F : Nat) (μ : Mem) (t : Nat) (p1 : Int32) (p2 : Int32) : Option (Int32 × Mem) := (f_X8_noPerson F μ t p1).bind (fun v_1 => (if v_1 = 0 then (f_X8_noLane F μ t p2).bind (fun v_4 => (if v_4 = 0 then (f_X8_isAtEnd F μ t p1 p2).bind (fun v_7 => (if v_7 = 0 then some ((-2), μ) else (f_X8_isClosed F μ t p2).bind (fun v_10 => (if v_10 = 0 then (f_X8_isTooNarrow F μ t p2 p1).bind (fun v_13 => (if v_13 = 0 then (f_X0_remember F μ (t + 16)).bind (fun μ_17 => (f_X8_cross F μ_17 t p1 p2).bind (fun μ_20 => if ix p1 5 = true then some (gI μ_20 (((t + 16) + 1) + 2) p1.toNatClampNeg, μ_20) else none)) else some ((-2), μ))) else some ((-2), μ))))) else some ((-1), μ))) else some ((-1), μ)))
set_option maxRecDepth 100000 in
set_option maxHeartbeats 4000000 in
theorem c_X8_goes (a0 F : Nat) (μ : Mem) (t : Nat) (p1 : Int32) (p2 : Int32) (hk0 : kd t = 8) {v : Int32} {μ2 : Mem} (hr : f_X8_goes F μ t p1 p2 = some (v, μ2)) : Ct a0 yX8_goes cX8_goes 3 (some .int) 2 [.ref (a0 + t), .int p1, .int p2] μ (some (.int v)) μ2 := by
  refine Ct_of (own := RX8) (ι := (fun x => (some (.int x.1), x.2))) (o := f_X8_goes F μ t p1 p2) (by decide +kernel) rfl (Nat.le_of_ble_eq_true rfl) ?_ hr rfl ⟨_, rfl⟩
  show Ex a0 RX8 cX8_goes 3 (some .int) 2 none (fun x => (some (.int x.1), x.2)) 0 [(0, .ref (a0 + t)), (1, .int p1), (2, .int p2)] [] μ (f_X8_goes F μ t p1 p2)
  unfold f_X8_goes
  refine Ex_aload_n dX8_goes_0 rfl 0 rfl ?_
  refine Ex_iload_n dX8_goes_1 rfl 1 rfl ?_
  refine Ex_callVR (n := 1) (dp2 := 0) [.int p1] cvX8_110 hk0 rfl rfl (by decide) (by decide) (Nat.le_of_ble_eq_true rfl) rfl (fun v hv => c_X8_noPerson a0 F μ t p1 hk0 hv) dX8_goes_2 (fun v_1 hv_3 => ?_)
  refine Ex_if_ne (tgt := 16) dX8_goes_5 (by decide) ?_ ?_
  · refine Ex_iconst (v := (-1)) dX8_goes_16 (by decide) ?_
    exact Ex_iret dX8_goes_17 rfl (fun ty h => by cases h; rfl)
  · refine Ex_aload_n dX8_goes_8 rfl 0 rfl ?_
    refine Ex_iload_n dX8_goes_9 rfl 2 rfl ?_
    refine Ex_callVR (n := 1) (dp2 := 0) [.int p2] cvX8_94 hk0 rfl rfl (by decide) (by decide) (Nat.le_of_ble_eq_true rfl) rfl (fun v hv => c_X8_noLane a0 F μ t p2 hk0 hv) dX8_goes_10 (fun v_4 hv_6 => ?_)
    refine Ex_if_eq (tgt := 18) dX8_goes_13 (by decide) ?_ ?_
    · refine Ex_aload_n dX8_goes_18 rfl 0 rfl ?_
      refine Ex_iload_n dX8_goes_19 rfl 1 rfl ?_
      refine Ex_iload_n dX8_goes_20 rfl 2 rfl ?_
      refine Ex_callVR (n := 2) (dp2 := 0) [.int p1, .int p2] cvX8_135 hk0 rfl rfl (by decide) (by decide) (Nat.le_of_ble_eq_true rfl) rfl (fun v hv => c_X8_isAtEnd a0 F μ t p1 p2 hk0 hv) dX8_goes_21 (fun v_7 hv_9 => ?_)
      refine Ex_if_eq (tgt := 44) dX8_goes_24 (by decide) ?_ ?_
      · refine Ex_bipush (v := (-2)) dX8_goes_44 (by decide) ?_
        exact Ex_iret dX8_goes_46 rfl (fun ty h => by cases h; rfl)
      · refine Ex_aload_n dX8_goes_27 rfl 0 rfl ?_
        refine Ex_iload_n dX8_goes_28 rfl 2 rfl ?_
        refine Ex_callVR (n := 1) (dp2 := 0) [.int p2] cvX8_107 hk0 rfl rfl (by decide) (by decide) (Nat.le_of_ble_eq_true rfl) rfl (fun v hv => c_X8_isClosed a0 F μ t p2 hk0 hv) dX8_goes_29 (fun v_10 hv_12 => ?_)
        refine Ex_if_ne (tgt := 44) dX8_goes_32 (by decide) ?_ ?_
        · refine Ex_bipush (v := (-2)) dX8_goes_44 (by decide) ?_
          exact Ex_iret dX8_goes_46 rfl (fun ty h => by cases h; rfl)
        · refine Ex_aload_n dX8_goes_35 rfl 0 rfl ?_
          refine Ex_iload_n dX8_goes_36 rfl 2 rfl ?_
          refine Ex_iload_n dX8_goes_37 rfl 1 rfl ?_
          refine Ex_callVR (n := 2) (dp2 := 1) [.int p2, .int p1] cvX8_139 hk0 rfl rfl (by decide) (by decide) (Nat.le_of_ble_eq_true rfl) rfl (fun v hv => c_X8_isTooNarrow a0 F μ t p2 p1 hk0 hv) dX8_goes_38 (fun v_13 hv_15 => ?_)
          refine Ex_if_eq (tgt := 47) dX8_goes_41 (by decide) ?_ ?_
          · refine Ex_aload_n dX8_goes_47 rfl 0 rfl ?_
            refine Ex_get (v := .ref (a0 + (t + 16))) fgX8_29 hk0 (by decide) rfl dX8_goes_48 ?_
            refine Ex_callVV (n := 0) (dp2 := 1) [] cvX8_142 (kn_8_16 hk0) rfl rfl (by decide) (by decide) (Nat.le_of_ble_eq_true rfl) rfl (fun μ2 hv => c_X0_remember a0 F μ (t + 16) (kn_8_16 hk0) hv) dX8_goes_51 (fun μ_17 hv_18 => ?_)
            refine Ex_aload_n dX8_goes_54 rfl 0 rfl ?_
            refine Ex_iload_n dX8_goes_55 rfl 1 rfl ?_
            refine Ex_iload_n dX8_goes_56 rfl 2 rfl ?_
            refine Ex_callVV (n := 2) (dp2 := 0) [.int p1, .int p2] cvX8_145 hk0 rfl rfl (by decide) (by decide) (Nat.le_of_ble_eq_true rfl) rfl (fun μ2 hv => c_X8_cross a0 F μ_17 t p1 p2 hk0 hv) dX8_goes_57 (fun μ_20 hv_21 => ?_)
            refine Ex_aload_n dX8_goes_60 rfl 0 rfl ?_
            refine Ex_get (v := .ref (a0 + (t + 16))) fgX8_29 hk0 (by decide) rfl dX8_goes_61 ?_
            refine Ex_get (v := .ref (a0 + ((t + 16) + 1))) fgX8_113 (kn_8_16 hk0) (by decide) rfl dX8_goes_64 ?_
            refine Ex_get (v := .ref (a0 + (((t + 16) + 1) + 2))) fgX8_122 (kn_0_1 (kn_8_16 hk0)) (by decide) rfl dX8_goes_67 ?_
            refine Ex_iload_n dX8_goes_70 rfl 1 rfl ?_
            refine Ex_iald 5 (kn_3_2 (kn_0_1 (kn_8_16 hk0))) (by decide) dX8_goes_71 ?_
            exact Ex_iret dX8_goes_72 rfl (fun ty h => by cases h; rfl)
          · refine Ex_bipush (v := (-2)) dX8_goes_44 (by decide) ?_
            exact Ex_iret dX8_goes_46 rfl (fun ty h => by cases h; rfl)
    · refine Ex_iconst (v := (-1)) dX8_goes_16 (by decide) ?_
      exact Ex_iret dX8_goes_17 rfl (fun ty h => by cases h; rfl)

def f_X8_keep (F : Nat) (μ : Mem) (t : Nat) (p1 : Int32) : Option (Int32 × Mem) := (if p1 < 0 then some ((-1), μ) else (if p1 < 2 then if ix p1 2 = true then (f_X0_copy F μ (gR μ (t + 62) p1.toNatClampNeg) (t + 16)).bind (fun μ_3 => if ix p1 2 = true then lt (sI μ_3 (t + 63) p1.toNatClampNeg (vp_nar .boolean 1)) (fun μ_5 => (f_X8_closedLanes F μ_5 t).bind (fun v_6 => some (v_6, μ_5))) else none) else none else some ((-1), μ)))
set_option maxRecDepth 100000 in
set_option maxHeartbeats 4000000 in
theorem c_X8_keep (a0 F : Nat) (μ : Mem) (t : Nat) (p1 : Int32) (hk0 : kd t = 8) {v : Int32} {μ2 : Mem} (hr : f_X8_keep F μ t p1 = some (v, μ2)) : Ct a0 yX8_keep cX8_keep 2 (some .int) 2 [.ref (a0 + t), .int p1] μ (some (.int v)) μ2 := by
  refine Ct_of (own := RX8) (ι := (fun x => (some (.int x.1), x.2))) (o := f_X8_keep F μ t p1) (by decide +kernel) rfl (Nat.le_of_ble_eq_true rfl) ?_ hr rfl ⟨_, rfl⟩
  show Ex a0 RX8 cX8_keep 2 (some .int) 2 none (fun x => (some (.int x.1), x.2)) 0 [(0, .ref (a0 + t)), (1, .int p1)] [] μ (f_X8_keep F μ t p1)
  unfold f_X8_keep
  refine Ex_iload_n dX8_keep_0 rfl 1 rfl ?_
  refine Ex_if_lt (tgt := 9) dX8_keep_1 (by decide) ?_ ?_
  · refine Ex_iconst (v := (-1)) dX8_keep_9 (by decide) ?_
    exact Ex_iret dX8_keep_10 rfl (fun ty h => by cases h; rfl)
  · refine Ex_iload_n dX8_keep_4 rfl 1 rfl ?_
    refine Ex_iconst (v := 2) dX8_keep_5 (by decide) ?_
    refine Ex_icmp_lt (tgt := 11) dX8_keep_6 (by decide) ?_ ?_
    · refine Ex_aload_n dX8_keep_11 rfl 0 rfl ?_
      refine Ex_get (v := .ref (a0 + (t + 62))) fgX8_33 hk0 (by decide) rfl dX8_keep_12 ?_
      refine Ex_iload_n dX8_keep_15 rfl 1 rfl ?_
      refine Ex_cald 2 (kn_8_62 hk0) (by decide) (by decide) dX8_keep_16 (fun hm_1 => ?_)
      refine Ex_aload_n dX8_keep_17 rfl 0 rfl ?_
      refine Ex_get (v := .ref (a0 + (t + 16))) fgX8_29 hk0 (by decide) rfl dX8_keep_18 ?_
      refine Ex_callVV (n := 1) (dp2 := 1) [.ref (a0 + (t + 16))] cvX8_276 hm_1 rfl rfl (by decide) (by decide) (Nat.le_of_ble_eq_true rfl) rfl (fun μ2 hv => c_X0_copy a0 F μ (gR μ (t + 62) p1.toNatClampNeg) (t + 16) hm_1 (kn_8_16 hk0) hv) dX8_keep_21 (fun μ_3 hv_4 => ?_)
      refine Ex_aload_n dX8_keep_24 rfl 0 rfl ?_
      refine Ex_get (v := .ref (a0 + (t + 63))) fgX8_37 hk0 (by decide) rfl dX8_keep_25 ?_
      refine Ex_iload_n dX8_keep_28 rfl 1 rfl ?_
      refine Ex_iconst (v := 1) dX8_keep_29 (by decide) ?_
      refine Ex_zast 2 (kn_8_63 hk0) (by decide) dX8_keep_30 (fun μ_5 => ?_)
      refine Ex_aload_n dX8_keep_31 rfl 0 rfl ?_
      refine Ex_callVR (n := 0) (dp2 := 1) [] cvX8_168 hk0 rfl rfl (by decide) (by decide) (Nat.le_of_ble_eq_true rfl) rfl (fun v hv => c_X8_closedLanes a0 F μ_5 t hk0 hv) dX8_keep_32 (fun v_6 hv_8 => ?_)
      exact Ex_iret dX8_keep_35 rfl (fun ty h => by cases h; rfl)
    · refine Ex_iconst (v := (-1)) dX8_keep_9 (by decide) ?_
      exact Ex_iret dX8_keep_10 rfl (fun ty h => by cases h; rfl)

def f_X8_noPlace (F : Nat) (μ : Mem) (t : Nat) (p1 : Int32) : Option (Int32) := (if p1 < 0 then some 1 else (if p1 < (gI μ (gR μ t 1) 0) then some 0 else some 1))
set_option maxRecDepth 100000 in
set_option maxHeartbeats 4000000 in
theorem c_X8_noPlace (a0 F : Nat) (μ : Mem) (t : Nat) (p1 : Int32) (hk0 : kd t = 8) {v : Int32} (hr : f_X8_noPlace F μ t p1 = some v) : Ct a0 yX8_noPlace cX8_noPlace 2 (some .boolean) 0 [.ref (a0 + t), .int p1] μ (some (.int v)) μ := by
  refine Ct_of (own := RX8) (ι := (fun v => (some (.int v), μ))) (o := f_X8_noPlace F μ t p1) (by decide +kernel) rfl (Nat.le_of_ble_eq_true rfl) ?_ hr rfl ⟨_, rfl⟩
  show Ex a0 RX8 cX8_noPlace 2 (some .boolean) 0 none (fun v => (some (.int v), μ)) 0 [(0, .ref (a0 + t)), (1, .int p1)] [] μ (f_X8_noPlace F μ t p1)
  unfold f_X8_noPlace
  refine Ex_iload_n dX8_noPlace_0 rfl 1 rfl ?_
  refine Ex_if_lt (tgt := 15) dX8_noPlace_1 (by decide) ?_ ?_
  · refine Ex_iconst (v := 1) dX8_noPlace_15 (by decide) ?_
    refine Ex_goto (tgt := 20) dX8_noPlace_16 (by decide) ?_
    exact Ex_iret dX8_noPlace_20 rfl (fun ty h => by cases h; rfl)
  · refine Ex_iload_n dX8_noPlace_4 rfl 1 rfl ?_
    refine Ex_aload_n dX8_noPlace_5 rfl 0 rfl ?_
    refine Ex_wt (fun hw_1 => ?_)
    refine Ex_get (v := .ref (a0 + (gR μ t 1))) fgX8_19 hk0 (by decide) rfl dX8_noPlace_6 ?_
    refine Ex_get (v := .int (gI μ (gR μ t 1) 0)) fgX8_280 (WT_k hw_1 hk0 (K := 8) rfl (by decide)) (by decide) rfl dX8_noPlace_9 ?_
    refine Ex_icmp_lt (tgt := 19) dX8_noPlace_12 (by decide) ?_ ?_
    · refine Ex_iconst (v := 0) dX8_noPlace_19 (by decide) ?_
      exact Ex_iret dX8_noPlace_20 rfl (fun ty h => by cases h; rfl)
    · refine Ex_iconst (v := 1) dX8_noPlace_15 (by decide) ?_
      refine Ex_goto (tgt := 20) dX8_noPlace_16 (by decide) ?_
      exact Ex_iret dX8_noPlace_20 rfl (fun ty h => by cases h; rfl)

def f_X8_openLanes (F : Nat) (μ : Mem) (t : Nat) : Option (Int32) := some (((1 <<< ((gI μ (gR μ t 1) 1) &&& 31)) - 1) &&& ((gI μ ((t + 16) + 1) 3) ^^^ (-1)))
set_option maxRecDepth 100000 in
set_option maxHeartbeats 4000000 in
theorem c_X8_openLanes (a0 F : Nat) (μ : Mem) (t : Nat) (hk0 : kd t = 8) {v : Int32} (hr : f_X8_openLanes F μ t = some v) : Ct a0 yX8_openLanes cX8_openLanes 1 (some .int) 0 [.ref (a0 + t)] μ (some (.int v)) μ := by
  refine Ct_of (own := RX8) (ι := (fun v => (some (.int v), μ))) (o := f_X8_openLanes F μ t) (by decide +kernel) rfl (Nat.le_of_ble_eq_true rfl) ?_ hr rfl ⟨_, rfl⟩
  show Ex a0 RX8 cX8_openLanes 1 (some .int) 0 none (fun v => (some (.int v), μ)) 0 [(0, .ref (a0 + t))] [] μ (f_X8_openLanes F μ t)
  unfold f_X8_openLanes
  refine Ex_iconst (v := 1) dX8_openLanes_0 (by decide) ?_
  refine Ex_aload_n dX8_openLanes_1 rfl 0 rfl ?_
  refine Ex_wt (fun hw_1 => ?_)
  refine Ex_get (v := .ref (a0 + (gR μ t 1))) fgX8_19 hk0 (by decide) rfl dX8_openLanes_2 ?_
  refine Ex_get (v := .int (gI μ (gR μ t 1) 1)) fgX8_216 (WT_k hw_1 hk0 (K := 8) rfl (by decide)) (by decide) rfl dX8_openLanes_5 ?_
  refine Ex_ishl dX8_openLanes_8 ?_
  refine Ex_iconst (v := 1) dX8_openLanes_9 (by decide) ?_
  refine Ex_isub dX8_openLanes_10 ?_
  refine Ex_aload_n dX8_openLanes_11 rfl 0 rfl ?_
  refine Ex_get (v := .ref (a0 + (t + 16))) fgX8_29 hk0 (by decide) rfl dX8_openLanes_12 ?_
  refine Ex_get (v := .ref (a0 + ((t + 16) + 1))) fgX8_113 (kn_8_16 hk0) (by decide) rfl dX8_openLanes_15 ?_
  refine Ex_get (v := .int (gI μ ((t + 16) + 1) 3)) fgX8_179 (kn_0_1 (kn_8_16 hk0)) (by decide) rfl dX8_openLanes_18 ?_
  refine Ex_iconst (v := (-1)) dX8_openLanes_21 (by decide) ?_
  refine Ex_ixor dX8_openLanes_22 ?_
  refine Ex_iand dX8_openLanes_23 ?_
  exact Ex_iret dX8_openLanes_24 rfl (fun ty h => by cases h; rfl)

def f_X8_lacks (F : Nat) (μ : Mem) (t : Nat) (p1 : Int32) (p2 : Int32) : Option (Int32 × Mem) := (f_X8_noPerson F μ t p1).bind (fun v_1 => (if v_1 = 0 then (f_X8_noPlace F μ t p2).bind (fun v_4 => (if v_4 = 0 then (f_X8_openLanes F μ t).bind (fun v_8 => (f_X8_wideness F μ t p1).bind (fun v_11 => (f_X1_addLacks F μ (t + 67) (gR μ t 1) p2 v_8 v_11).bind (fun μ_15 => if ix p1 5 = true then (f_X1_from F μ_15 (t + 67) (gI μ_15 (((t + 16) + 1) + 2) p1.toNatClampNeg)).bind (fun v_17 => some (v_17, μ_15)) else none))) else some ((-1), μ))) else some ((-1), μ)))
set_option maxRecDepth 100000 in
set_option maxHeartbeats 4000000 in
theorem c_X8_lacks (a0 F : Nat) (μ : Mem) (t : Nat) (p1 : Int32) (p2 : Int32) (hk0 : kd t = 8) {v : Int32} {μ2 : Mem} (hr : f_X8_lacks F μ t p1 p2 = some (v, μ2)) : Ct a0 yX8_lacks cX8_lacks 3 (some .int) 3 [.ref (a0 + t), .int p1, .int p2] μ (some (.int v)) μ2 := by
  refine Ct_of (own := RX8) (ι := (fun x => (some (.int x.1), x.2))) (o := f_X8_lacks F μ t p1 p2) (by decide +kernel) rfl (Nat.le_of_ble_eq_true rfl) ?_ hr rfl ⟨_, rfl⟩
  show Ex a0 RX8 cX8_lacks 3 (some .int) 3 none (fun x => (some (.int x.1), x.2)) 0 [(0, .ref (a0 + t)), (1, .int p1), (2, .int p2)] [] μ (f_X8_lacks F μ t p1 p2)
  unfold f_X8_lacks
  refine Ex_aload_n dX8_lacks_0 rfl 0 rfl ?_
  refine Ex_iload_n dX8_lacks_1 rfl 1 rfl ?_
  refine Ex_callVR (n := 1) (dp2 := 0) [.int p1] cvX8_110 hk0 rfl rfl (by decide) (by decide) (Nat.le_of_ble_eq_true rfl) rfl (fun v hv => c_X8_noPerson a0 F μ t p1 hk0 hv) dX8_lacks_2 (fun v_1 hv_3 => ?_)
  refine Ex_if_ne (tgt := 16) dX8_lacks_5 (by decide) ?_ ?_
  · refine Ex_iconst (v := (-1)) dX8_lacks_16 (by decide) ?_
    exact Ex_iret dX8_lacks_17 rfl (fun ty h => by cases h; rfl)
  · refine Ex_aload_n dX8_lacks_8 rfl 0 rfl ?_
    refine Ex_iload_n dX8_lacks_9 rfl 2 rfl ?_
    refine Ex_callVR (n := 1) (dp2 := 0) [.int p2] cvX8_189 hk0 rfl rfl (by decide) (by decide) (Nat.le_of_ble_eq_true rfl) rfl (fun v hv => c_X8_noPlace a0 F μ t p2 hk0 hv) dX8_lacks_10 (fun v_4 hv_6 => ?_)
    refine Ex_if_eq (tgt := 18) dX8_lacks_13 (by decide) ?_ ?_
    · refine Ex_aload_n dX8_lacks_18 rfl 0 rfl ?_
      refine Ex_get (v := .ref (a0 + (t + 67))) fgX8_51 hk0 (by decide) rfl dX8_lacks_19 ?_
      refine Ex_aload_n dX8_lacks_22 rfl 0 rfl ?_
      refine Ex_wt (fun hw_7 => ?_)
      refine Ex_get (v := .ref (a0 + (gR μ t 1))) fgX8_19 hk0 (by decide) rfl dX8_lacks_23 ?_
      refine Ex_iload_n dX8_lacks_26 rfl 2 rfl ?_
      refine Ex_aload_n dX8_lacks_27 rfl 0 rfl ?_
      refine Ex_callVR (n := 0) (dp2 := 0) [] cvX8_206 hk0 rfl rfl (by decide) (by decide) (Nat.le_of_ble_eq_true rfl) rfl (fun v hv => c_X8_openLanes a0 F μ t hk0 hv) dX8_lacks_28 (fun v_8 hv_10 => ?_)
      refine Ex_aload_n dX8_lacks_31 rfl 0 rfl ?_
      refine Ex_iload_n dX8_lacks_32 rfl 1 rfl ?_
      refine Ex_callVR (n := 1) (dp2 := 0) [.int p1] cvX8_125 hk0 rfl rfl (by decide) (by decide) (Nat.le_of_ble_eq_true rfl) rfl (fun v hv => c_X8_wideness a0 F μ t p1 hk0 hv) dX8_lacks_33 (fun v_11 hv_13 => ?_)
      refine Ex_callVV (n := 4) (dp2 := 2) [.ref (a0 + (gR μ t 1)), .int p2, .int v_8, .int v_11] cvX8_209 (kn_8_67 hk0) rfl rfl (by decide) (by decide) (Nat.le_of_ble_eq_true rfl) rfl (fun μ2 hv => c_X1_addLacks a0 F μ (t + 67) (gR μ t 1) p2 v_8 v_11 (kn_8_67 hk0) (WT_k hw_7 hk0 (K := 8) rfl (by decide)) hv) dX8_lacks_36 (fun μ_15 hv_16 => ?_)
      refine Ex_aload_n dX8_lacks_39 rfl 0 rfl ?_
      refine Ex_get (v := .ref (a0 + (t + 67))) fgX8_51 hk0 (by decide) rfl dX8_lacks_40 ?_
      refine Ex_aload_n dX8_lacks_43 rfl 0 rfl ?_
      refine Ex_get (v := .ref (a0 + (t + 16))) fgX8_29 hk0 (by decide) rfl dX8_lacks_44 ?_
      refine Ex_get (v := .ref (a0 + ((t + 16) + 1))) fgX8_113 (kn_8_16 hk0) (by decide) rfl dX8_lacks_47 ?_
      refine Ex_get (v := .ref (a0 + (((t + 16) + 1) + 2))) fgX8_122 (kn_0_1 (kn_8_16 hk0)) (by decide) rfl dX8_lacks_50 ?_
      refine Ex_iload_n dX8_lacks_53 rfl 1 rfl ?_
      refine Ex_iald 5 (kn_3_2 (kn_0_1 (kn_8_16 hk0))) (by decide) dX8_lacks_54 ?_
      refine Ex_callVR (n := 1) (dp2 := 0) [.int (gI μ_15 (((t + 16) + 1) + 2) p1.toNatClampNeg)] cvX8_199 (kn_8_67 hk0) rfl rfl (by decide) (by decide) (Nat.le_of_ble_eq_true rfl) rfl (fun v hv => c_X1_from a0 F μ_15 (t + 67) (gI μ_15 (((t + 16) + 1) + 2) p1.toNatClampNeg) (kn_8_67 hk0) hv) dX8_lacks_55 (fun v_17 hv_19 => ?_)
      exact Ex_iret dX8_lacks_58 rfl (fun ty h => by cases h; rfl)
    · refine Ex_iconst (v := (-1)) dX8_lacks_16 (by decide) ?_
      exact Ex_iret dX8_lacks_17 rfl (fun ty h => by cases h; rfl)

def f_X8_lane (F : Nat) (μ : Mem) (t : Nat) (p1 : Int32) (p2 : Int32) : Option (Int32) := (f_X8_noLane F μ t p1).bind (fun v_1 => (if v_1 = 0 then (if p2 = 0 then if ix p1 8 = true then some (gI μ ((gR μ t 1) + 1) p1.toNatClampNeg) else none else (if p2 = 1 then if ix p1 8 = true then some (gI μ ((gR μ t 1) + 2) p1.toNatClampNeg) else none else (if p2 = 2 then if ix p1 8 = true then some (gI μ ((gR μ t 1) + 3) p1.toNatClampNeg) else none else (if p2 = 3 then (f_X8_isClosed F μ t p1).bind (fun v_11 => (if v_11 = 0 then some 0 else some 1)) else some (-1))))) else some (-1)))
set_option maxRecDepth 100000 in
set_option maxHeartbeats 4000000 in
theorem c_X8_lane (a0 F : Nat) (μ : Mem) (t : Nat) (p1 : Int32) (p2 : Int32) (hk0 : kd t = 8) {v : Int32} (hr : f_X8_lane F μ t p1 p2 = some v) : Ct a0 yX8_lane cX8_lane 3 (some .int) 1 [.ref (a0 + t), .int p1, .int p2] μ (some (.int v)) μ := by
  refine Ct_of (own := RX8) (ι := (fun v => (some (.int v), μ))) (o := f_X8_lane F μ t p1 p2) (by decide +kernel) rfl (Nat.le_of_ble_eq_true rfl) ?_ hr rfl ⟨_, rfl⟩
  show Ex a0 RX8 cX8_lane 3 (some .int) 1 none (fun v => (some (.int v), μ)) 0 [(0, .ref (a0 + t)), (1, .int p1), (2, .int p2)] [] μ (f_X8_lane F μ t p1 p2)
  unfold f_X8_lane
  refine Ex_aload_n dX8_lane_0 rfl 0 rfl ?_
  refine Ex_iload_n dX8_lane_1 rfl 1 rfl ?_
  refine Ex_callVR (n := 1) (dp2 := 0) [.int p1] cvX8_94 hk0 rfl rfl (by decide) (by decide) (Nat.le_of_ble_eq_true rfl) rfl (fun v hv => c_X8_noLane a0 F μ t p1 hk0 hv) dX8_lane_2 (fun v_1 hv_3 => ?_)
  refine Ex_if_eq (tgt := 10) dX8_lane_5 (by decide) ?_ ?_
  · refine Ex_iload_n dX8_lane_10 rfl 2 rfl ?_
    refine Ex_if (p2 = 0) (fun hc_4 => ?_) (fun hc_4 => ?_)
    · refine Ex_tblC (tgt := 40) dX8_lane_11 (i := 0) (by rw [hc_4]; rfl) (by decide) (by decide) (off := 29) rfl (by decide) ?_
      refine Ex_aload_n dX8_lane_40 rfl 0 rfl ?_
      refine Ex_wt (fun hw_5 => ?_)
      refine Ex_get (v := .ref (a0 + (gR μ t 1))) fgX8_19 hk0 (by decide) rfl dX8_lane_41 ?_
      refine Ex_get (v := .ref (a0 + ((gR μ t 1) + 1))) fgX8_97 (WT_k hw_5 hk0 (K := 8) rfl (by decide)) (by decide) rfl dX8_lane_44 ?_
      refine Ex_iload_n dX8_lane_47 rfl 1 rfl ?_
      refine Ex_iald 8 (kn_7_1 (WT_k hw_5 hk0 (K := 8) rfl (by decide))) (by decide) dX8_lane_48 ?_
      exact Ex_iret dX8_lane_49 rfl (fun ty h => by cases h; rfl)
    · refine Ex_if (p2 = 1) (fun hc_6 => ?_) (fun hc_6 => ?_)
      · refine Ex_tblC (tgt := 50) dX8_lane_11 (i := 1) (by rw [hc_6]; rfl) (by decide) (by decide) (off := 39) rfl (by decide) ?_
        refine Ex_aload_n dX8_lane_50 rfl 0 rfl ?_
        refine Ex_wt (fun hw_7 => ?_)
        refine Ex_get (v := .ref (a0 + (gR μ t 1))) fgX8_19 hk0 (by decide) rfl dX8_lane_51 ?_
        refine Ex_get (v := .ref (a0 + ((gR μ t 1) + 2))) fgX8_101 (WT_k hw_7 hk0 (K := 8) rfl (by decide)) (by decide) rfl dX8_lane_54 ?_
        refine Ex_iload_n dX8_lane_57 rfl 1 rfl ?_
        refine Ex_iald 8 (kn_7_2 (WT_k hw_7 hk0 (K := 8) rfl (by decide))) (by decide) dX8_lane_58 ?_
        exact Ex_iret dX8_lane_59 rfl (fun ty h => by cases h; rfl)
      · refine Ex_if (p2 = 2) (fun hc_8 => ?_) (fun hc_8 => ?_)
        · refine Ex_tblC (tgt := 60) dX8_lane_11 (i := 2) (by rw [hc_8]; rfl) (by decide) (by decide) (off := 49) rfl (by decide) ?_
          refine Ex_aload_n dX8_lane_60 rfl 0 rfl ?_
          refine Ex_wt (fun hw_9 => ?_)
          refine Ex_get (v := .ref (a0 + (gR μ t 1))) fgX8_19 hk0 (by decide) rfl dX8_lane_61 ?_
          refine Ex_get (v := .ref (a0 + ((gR μ t 1) + 3))) fgX8_104 (WT_k hw_9 hk0 (K := 8) rfl (by decide)) (by decide) rfl dX8_lane_64 ?_
          refine Ex_iload_n dX8_lane_67 rfl 1 rfl ?_
          refine Ex_iald 8 (kn_7_3 (WT_k hw_9 hk0 (K := 8) rfl (by decide))) (by decide) dX8_lane_68 ?_
          exact Ex_iret dX8_lane_69 rfl (fun ty h => by cases h; rfl)
        · refine Ex_if (p2 = 3) (fun hc_10 => ?_) (fun hc_10 => ?_)
          · refine Ex_tblC (tgt := 70) dX8_lane_11 (i := 3) (by rw [hc_10]; rfl) (by decide) (by decide) (off := 59) rfl (by decide) ?_
            refine Ex_aload_n dX8_lane_70 rfl 0 rfl ?_
            refine Ex_iload_n dX8_lane_71 rfl 1 rfl ?_
            refine Ex_callVR (n := 1) (dp2 := 0) [.int p1] cvX8_107 hk0 rfl rfl (by decide) (by decide) (Nat.le_of_ble_eq_true rfl) rfl (fun v hv => c_X8_isClosed a0 F μ t p1 hk0 hv) dX8_lane_72 (fun v_11 hv_13 => ?_)
            refine Ex_if_eq (tgt := 82) dX8_lane_75 (by decide) ?_ ?_
            · refine Ex_iconst (v := 0) dX8_lane_82 (by decide) ?_
              exact Ex_iret dX8_lane_83 rfl (fun ty h => by cases h; rfl)
            · refine Ex_iconst (v := 1) dX8_lane_78 (by decide) ?_
              refine Ex_goto (tgt := 83) dX8_lane_79 (by decide) ?_
              exact Ex_iret dX8_lane_83 rfl (fun ty h => by cases h; rfl)
          · refine Ex_tblD (tgt := 84) dX8_lane_11 (by have q0 := lv_neT hc_4 (show (0 : Int32).toInt = 0 from rfl); have q1 := lv_neT hc_6 (show (1 : Int32).toInt = 1 from rfl); have q2 := lv_neT hc_8 (show (2 : Int32).toInt = 2 from rfl); have q3 := lv_neT hc_10 (show (3 : Int32).toInt = 3 from rfl); omega) (by decide) ?_
            refine Ex_iconst (v := (-1)) dX8_lane_84 (by decide) ?_
            exact Ex_iret dX8_lane_85 rfl (fun ty h => by cases h; rfl)
  · refine Ex_iconst (v := (-1)) dX8_lane_8 (by decide) ?_
    exact Ex_iret dX8_lane_9 rfl (fun ty h => by cases h; rfl)

def f_X8_markPerson (F : Nat) (μ : Mem) (t : Nat) (p1 : Int32) : Option (Int32 × Mem) := lt (sL μ t ((gL μ t) + 1)) (fun μ_1 => (f_X8_wideness F μ_1 t p1).bind (fun v_2 => some (v_2, μ_1)))
set_option maxRecDepth 100000 in
set_option maxHeartbeats 4000000 in
theorem c_X8_markPerson (a0 F : Nat) (μ : Mem) (t : Nat) (p1 : Int32) (hk0 : kd t = 8) {v : Int32} {μ2 : Mem} (hr : f_X8_markPerson F μ t p1 = some (v, μ2)) : Ct a0 yX8_markPerson cX8_markPerson 2 (some .int) 1 [.ref (a0 + t), .int p1] μ (some (.int v)) μ2 := by
  refine Ct_of (own := RX8) (ι := (fun x => (some (.int x.1), x.2))) (o := f_X8_markPerson F μ t p1) (by decide +kernel) rfl (Nat.le_of_ble_eq_true rfl) ?_ hr rfl ⟨_, rfl⟩
  show Ex a0 RX8 cX8_markPerson 2 (some .int) 1 none (fun x => (some (.int x.1), x.2)) 0 [(0, .ref (a0 + t)), (1, .int p1)] [] μ (f_X8_markPerson F μ t p1)
  unfold f_X8_markPerson
  refine Ex_aload_n dX8_markPerson_0 rfl 0 rfl ?_
  refine Ex_dup dX8_markPerson_1 rfl ?_
  refine Ex_get (v := .long (gL μ t)) fgX8_62 hk0 (by decide) rfl dX8_markPerson_2 ?_
  refine Ex_lconst (v := 1) dX8_markPerson_5 (by decide) ?_
  refine Ex_ladd dX8_markPerson_6 ?_
  refine Ex_putL fgX8_62 fp8_9 hk0 (by decide) rfl rfl (Nat.le_of_ble_eq_true rfl) (fs8_9 a0 μ t ((gL μ t) + 1)) dX8_markPerson_7 (fun μ_1 => ?_)
  refine Ex_aload_n dX8_markPerson_10 rfl 0 rfl ?_
  refine Ex_iload_n dX8_markPerson_11 rfl 1 rfl ?_
  refine Ex_callVR (n := 1) (dp2 := 0) [.int p1] cvX8_125 hk0 rfl rfl (by decide) (by decide) (Nat.le_of_ble_eq_true rfl) rfl (fun v hv => c_X8_wideness a0 F μ_1 t p1 hk0 hv) dX8_markPerson_12 (fun v_2 hv_4 => ?_)
  exact Ex_iret dX8_markPerson_15 rfl (fun ty h => by cases h; rfl)

def f_X8_passable_L7 (F : Nat) (μ : Mem) (q0 : Nat) (x1 : Int32) (k : Int32 → Int32 → Option (Int32)) : Nat → Int32 → Int32 → Option (Int32)
  | 0, _, _ => none
  | n + 1, x2, x3 => (if x3 < (gI μ (gR μ q0 1) 1) then (f_X8_isTooNarrow F μ q0 x3 x1).bind (fun v_5 => (if v_5 = 0 then f_X8_passable_L7 F μ q0 x1 k n x2 (x3 + 1) else lt (x2 &&& ((1 <<< (x3 &&& 31)) ^^^ (-1))) (fun x2_8 => f_X8_passable_L7 F μ q0 x1 k n x2_8 (x3 + 1)))) else k x2 x3)
set_option maxRecDepth 100000 in
set_option maxHeartbeats 4000000 in
theorem c_X8_passable_L7 (a0 : Nat) (F : Nat) (μ : Mem) (q0 : Nat) (x1 : Int32) (k : Int32 → Int32 → Option (Int32)) (hq0 : kd q0 = 8) (hk : ∀ (x2 : Int32) (x3 : Int32), Ex a0 RX8 cX8_passable 4 (some .int) 2 none (fun v => (some (.int v), μ)) 41 [(2, .int x2)] [] μ (k x2 x3)) : ∀ (n : Nat) (x2 : Int32) (x3 : Int32), Ex a0 RX8 cX8_passable 4 (some .int) 2 none (fun v => (some (.int v), μ)) 7 [(0, .ref (a0 + q0)), (1, .int x1), (2, .int x2), (3, .int x3)] [] μ (f_X8_passable_L7 F μ q0 x1 k n x2 x3) := by
  intro n
  induction n with
  | zero => intro x2 x3; exact Ex_none
  | succ n ih =>
    intro x2 x3
    rw [f_X8_passable_L7]
    refine Ex_iload_n dX8_passable_7 rfl 3 rfl ?_
    refine Ex_aload_n dX8_passable_8 rfl 0 rfl ?_
    refine Ex_wt (fun hw_4 => ?_)
    refine Ex_get (v := .ref (a0 + (gR μ q0 1))) fgX8_19 hq0 (by decide) rfl dX8_passable_9 ?_
    refine Ex_get (v := .int (gI μ (gR μ q0 1) 1)) fgX8_216 (WT_k hw_4 hq0 (K := 8) rfl (by decide)) (by decide) rfl dX8_passable_12 ?_
    refine Ex_icmp_ge (tgt := 41) dX8_passable_15 (by decide) ?_ ?_
    · refine Ex_perm [2] rfl ?_
      exact hk x2 x3
    · refine Ex_aload_n dX8_passable_18 rfl 0 rfl ?_
      refine Ex_iload_n dX8_passable_19 rfl 3 rfl ?_
      refine Ex_iload_n dX8_passable_20 rfl 1 rfl ?_
      refine Ex_callVR (n := 2) (dp2 := 1) [.int x3, .int x1] cvX8_139 hq0 rfl rfl (by decide) (by decide) (Nat.le_of_ble_eq_true rfl) rfl (fun v hv => c_X8_isTooNarrow a0 F μ q0 x3 x1 hq0 hv) dX8_passable_21 (fun v_5 hv_7 => ?_)
      refine Ex_if_eq (tgt := 35) dX8_passable_24 (by decide) ?_ ?_
      · refine Ex_iinc (v := x3 + 1) (L2 := [(3, .int (x3 + 1)), (0, .ref (a0 + q0)), (1, .int x1), (2, .int x2)]) dX8_passable_35 3 rfl rfl (by decide) rfl ?_
        refine Ex_goto (tgt := 7) dX8_passable_38 (by decide) ?_
        refine Ex_perm [1, 2, 3, 0] rfl ?_
        exact ih x2 (x3 + 1)
      · refine Ex_iload_n dX8_passable_27 rfl 2 rfl ?_
        refine Ex_iconst (v := 1) dX8_passable_28 (by decide) ?_
        refine Ex_iload_n dX8_passable_29 rfl 3 rfl ?_
        refine Ex_ishl dX8_passable_30 ?_
        refine Ex_iconst (v := (-1)) dX8_passable_31 (by decide) ?_
        refine Ex_ixor dX8_passable_32 ?_
        refine Ex_iand dX8_passable_33 ?_
        refine Ex_top (fun x2_8 => ?_)
        refine Ex_istore_n (L2 := [(2, .int x2_8), (0, .ref (a0 + q0)), (1, .int x1), (3, .int x3)]) dX8_passable_34 rfl (by decide) rfl ?_
        refine Ex_iinc (v := x3 + 1) (L2 := [(3, .int (x3 + 1)), (2, .int x2_8), (0, .ref (a0 + q0)), (1, .int x1)]) dX8_passable_35 3 rfl rfl (by decide) rfl ?_
        refine Ex_goto (tgt := 7) dX8_passable_38 (by decide) ?_
        refine Ex_perm [2, 3, 1, 0] rfl ?_
        exact ih x2_8 (x3 + 1)
def f_X8_passable (F : Nat) (μ : Mem) (t : Nat) (p1 : Int32) : Option (Int32) := (f_X8_openLanes F μ t).bind (fun v_1 => f_X8_passable_L7 F μ t p1 (fun x2_9 x3_10 => some x2_9) F v_1 0)
set_option maxRecDepth 100000 in
set_option maxHeartbeats 4000000 in
theorem c_X8_passable (a0 F : Nat) (μ : Mem) (t : Nat) (p1 : Int32) (hk0 : kd t = 8) {v : Int32} (hr : f_X8_passable F μ t p1 = some v) : Ct a0 yX8_passable cX8_passable 4 (some .int) 2 [.ref (a0 + t), .int p1] μ (some (.int v)) μ := by
  refine Ct_of (own := RX8) (ι := (fun v => (some (.int v), μ))) (o := f_X8_passable F μ t p1) (by decide +kernel) rfl (Nat.le_of_ble_eq_true rfl) ?_ hr rfl ⟨_, rfl⟩
  show Ex a0 RX8 cX8_passable 4 (some .int) 2 none (fun v => (some (.int v), μ)) 0 [(0, .ref (a0 + t)), (1, .int p1)] [] μ (f_X8_passable F μ t p1)
  unfold f_X8_passable
  refine Ex_aload_n dX8_passable_0 rfl 0 rfl ?_
  refine Ex_callVR (n := 0) (dp2 := 0) [] cvX8_206 hk0 rfl rfl (by decide) (by decide) (Nat.le_of_ble_eq_true rfl) rfl (fun v hv => c_X8_openLanes a0 F μ t hk0 hv) dX8_passable_1 (fun v_1 hv_3 => ?_)
  refine Ex_istore_n (L2 := [(2, .int v_1), (0, .ref (a0 + t)), (1, .int p1)]) dX8_passable_4 rfl (by decide) rfl ?_
  refine Ex_iconst (v := 0) dX8_passable_5 (by decide) ?_
  refine Ex_istore_n (L2 := [(3, .int 0), (2, .int v_1), (0, .ref (a0 + t)), (1, .int p1)]) dX8_passable_6 rfl (by decide) rfl ?_
  refine Ex_perm [2, 3, 1, 0] rfl ?_
  refine c_X8_passable_L7 a0 F μ t p1 _ hk0 (fun x2_9 x3_10 => ?_) F v_1 0
  refine Ex_iload_n dX8_passable_41 rfl 0 rfl ?_
  exact Ex_iret dX8_passable_42 rfl (fun ty h => by cases h; rfl)

def f_X8_reach (F : Nat) (μ : Mem) (t : Nat) (p1 : Int32) : Option (Int32) := (f_X8_passable F μ t p1).bind (fun v_2 => if ix p1 5 = true then (f_X7_joined F μ (gR μ t 1) v_2 (gI μ (((t + 16) + 1) + 2) p1.toNatClampNeg)).bind (fun v_5 => some v_5) else none)
set_option maxRecDepth 100000 in
set_option maxHeartbeats 4000000 in
theorem c_X8_reach (a0 F : Nat) (μ : Mem) (t : Nat) (p1 : Int32) (hk0 : kd t = 8) {v : Int32} (hr : f_X8_reach F μ t p1 = some v) : Ct a0 yX8_reach cX8_reach 2 (some .int) 3 [.ref (a0 + t), .int p1] μ (some (.int v)) μ := by
  refine Ct_of (own := RX8) (ι := (fun v => (some (.int v), μ))) (o := f_X8_reach F μ t p1) (by decide +kernel) rfl (Nat.le_of_ble_eq_true rfl) ?_ hr rfl ⟨_, rfl⟩
  show Ex a0 RX8 cX8_reach 2 (some .int) 3 none (fun v => (some (.int v), μ)) 0 [(0, .ref (a0 + t)), (1, .int p1)] [] μ (f_X8_reach F μ t p1)
  unfold f_X8_reach
  refine Ex_aload_n dX8_reach_0 rfl 0 rfl ?_
  refine Ex_wt (fun hw_1 => ?_)
  refine Ex_get (v := .ref (a0 + (gR μ t 1))) fgX8_19 hk0 (by decide) rfl dX8_reach_1 ?_
  refine Ex_aload_n dX8_reach_4 rfl 0 rfl ?_
  refine Ex_iload_n dX8_reach_5 rfl 1 rfl ?_
  refine Ex_callVR (n := 1) (dp2 := 2) [.int p1] cvX8_192 hk0 rfl rfl (by decide) (by decide) (Nat.le_of_ble_eq_true rfl) rfl (fun v hv => c_X8_passable a0 F μ t p1 hk0 hv) dX8_reach_6 (fun v_2 hv_4 => ?_)
  refine Ex_aload_n dX8_reach_9 rfl 0 rfl ?_
  refine Ex_get (v := .ref (a0 + (t + 16))) fgX8_29 hk0 (by decide) rfl dX8_reach_10 ?_
  refine Ex_get (v := .ref (a0 + ((t + 16) + 1))) fgX8_113 (kn_8_16 hk0) (by decide) rfl dX8_reach_13 ?_
  refine Ex_get (v := .ref (a0 + (((t + 16) + 1) + 2))) fgX8_122 (kn_0_1 (kn_8_16 hk0)) (by decide) rfl dX8_reach_16 ?_
  refine Ex_iload_n dX8_reach_19 rfl 1 rfl ?_
  refine Ex_iald 5 (kn_3_2 (kn_0_1 (kn_8_16 hk0))) (by decide) dX8_reach_20 ?_
  refine Ex_callVR (n := 2) (dp2 := 1) [.int v_2, .int (gI μ (((t + 16) + 1) + 2) p1.toNatClampNeg)] cvX8_289 (WT_k hw_1 hk0 (K := 8) rfl (by decide)) rfl rfl (by decide) (by decide) (Nat.le_of_ble_eq_true rfl) rfl (fun v hv => c_X7_joined a0 F μ (gR μ t 1) v_2 (gI μ (((t + 16) + 1) + 2) p1.toNatClampNeg) (WT_k hw_1 hk0 (K := 8) rfl (by decide)) hv) dX8_reach_21 (fun v_5 hv_7 => ?_)
  exact Ex_iret dX8_reach_24 rfl (fun ty h => by cases h; rfl)

def f_X8_markEarl (F : Nat) (μ : Mem) (t : Nat) (p1 : Int32) : Option (Int32 × Mem) := lt (sL μ t ((gL μ t) + 10)) (fun μ_1 => bW (f_X8_markPerson F μ_1 t p1) (fun v_2 μ_3 => (f_X8_reach F μ_3 t p1).bind (fun v_5 => (f_J_bitCount F μ_3 v_5).bind (fun v_8 => some (v_2 + v_8, μ_3)))))
set_option maxRecDepth 100000 in
set_option maxHeartbeats 4000000 in
theorem c_X8_markEarl (a0 F : Nat) (μ : Mem) (t : Nat) (p1 : Int32) (hk0 : kd t = 8) {v : Int32} {μ2 : Mem} (hr : f_X8_markEarl F μ t p1 = some (v, μ2)) : Ct a0 yX8_markEarl cX8_markEarl 2 (some .int) 4 [.ref (a0 + t), .int p1] μ (some (.int v)) μ2 := by
  refine Ct_of (own := RX8) (ι := (fun x => (some (.int x.1), x.2))) (o := f_X8_markEarl F μ t p1) (by decide +kernel) rfl (Nat.le_of_ble_eq_true rfl) ?_ hr rfl ⟨_, rfl⟩
  show Ex a0 RX8 cX8_markEarl 2 (some .int) 4 none (fun x => (some (.int x.1), x.2)) 0 [(0, .ref (a0 + t)), (1, .int p1)] [] μ (f_X8_markEarl F μ t p1)
  unfold f_X8_markEarl
  refine Ex_aload_n dX8_markEarl_0 rfl 0 rfl ?_
  refine Ex_dup dX8_markEarl_1 rfl ?_
  refine Ex_get (v := .long (gL μ t)) fgX8_62 hk0 (by decide) rfl dX8_markEarl_2 ?_
  refine Ex_ldc2 (v := 10) dX8_markEarl_5 cnX8_295 ?_
  refine Ex_ladd dX8_markEarl_8 ?_
  refine Ex_putL fgX8_62 fp8_9 hk0 (by decide) rfl rfl (Nat.le_of_ble_eq_true rfl) (fs8_9 a0 μ t ((gL μ t) + 10)) dX8_markEarl_9 (fun μ_1 => ?_)
  refine Ex_aload_n dX8_markEarl_12 rfl 0 rfl ?_
  refine Ex_iload_n dX8_markEarl_13 rfl 1 rfl ?_
  refine Ex_callVW (n := 1) (dp2 := 1) [.int p1] cvX8_258 hk0 rfl rfl (by decide) (by decide) (Nat.le_of_ble_eq_true rfl) rfl (fun v μ2 hv => c_X8_markPerson a0 F μ_1 t p1 hk0 hv) dX8_markEarl_14 (fun v_2 μ_3 hv_4 => ?_)
  refine Ex_aload_n dX8_markEarl_17 rfl 0 rfl ?_
  refine Ex_iload_n dX8_markEarl_18 rfl 1 rfl ?_
  refine Ex_callVR (n := 1) (dp2 := 3) [.int p1] cvX8_132 hk0 rfl rfl (by decide) (by decide) (Nat.le_of_ble_eq_true rfl) rfl (fun v hv => c_X8_reach a0 F μ_3 t p1 hk0 hv) dX8_markEarl_19 (fun v_5 hv_7 => ?_)
  refine Ex_callSR (n := 1) (dp2 := 0) [.int v_5] cvX8_219 rfl (by decide) (by decide) (Nat.le_of_ble_eq_true rfl) rfl (fun v hv => c_J_bitCount a0 F μ_3 v_5 hv) dX8_markEarl_22 (fun v_8 hv_10 => ?_)
  refine Ex_iadd dX8_markEarl_25 ?_
  exact Ex_iret dX8_markEarl_26 rfl (fun ty h => by cases h; rfl)

def f_X8_markPage (F : Nat) (μ : Mem) (t : Nat) (p1 : Int32) : Option (Int32 × Mem) := lt (sL μ t ((gL μ t) + 100)) (fun μ_1 => bW (f_X8_markPerson F μ_1 t p1) (fun v_2 μ_3 => some (v_2 - p1, μ_3)))
set_option maxRecDepth 100000 in
set_option maxHeartbeats 4000000 in
theorem c_X8_markPage (a0 F : Nat) (μ : Mem) (t : Nat) (p1 : Int32) (hk0 : kd t = 8) {v : Int32} {μ2 : Mem} (hr : f_X8_markPage F μ t p1 = some (v, μ2)) : Ct a0 yX8_markPage cX8_markPage 2 (some .int) 2 [.ref (a0 + t), .int p1] μ (some (.int v)) μ2 := by
  refine Ct_of (own := RX8) (ι := (fun x => (some (.int x.1), x.2))) (o := f_X8_markPage F μ t p1) (by decide +kernel) rfl (Nat.le_of_ble_eq_true rfl) ?_ hr rfl ⟨_, rfl⟩
  show Ex a0 RX8 cX8_markPage 2 (some .int) 2 none (fun x => (some (.int x.1), x.2)) 0 [(0, .ref (a0 + t)), (1, .int p1)] [] μ (f_X8_markPage F μ t p1)
  unfold f_X8_markPage
  refine Ex_aload_n dX8_markPage_0 rfl 0 rfl ?_
  refine Ex_dup dX8_markPage_1 rfl ?_
  refine Ex_get (v := .long (gL μ t)) fgX8_62 hk0 (by decide) rfl dX8_markPage_2 ?_
  refine Ex_ldc2 (v := 100) dX8_markPage_5 cnX8_297 ?_
  refine Ex_ladd dX8_markPage_8 ?_
  refine Ex_putL fgX8_62 fp8_9 hk0 (by decide) rfl rfl (Nat.le_of_ble_eq_true rfl) (fs8_9 a0 μ t ((gL μ t) + 100)) dX8_markPage_9 (fun μ_1 => ?_)
  refine Ex_aload_n dX8_markPage_12 rfl 0 rfl ?_
  refine Ex_iload_n dX8_markPage_13 rfl 1 rfl ?_
  refine Ex_callVW (n := 1) (dp2 := 1) [.int p1] cvX8_258 hk0 rfl rfl (by decide) (by decide) (Nat.le_of_ble_eq_true rfl) rfl (fun v μ2 hv => c_X8_markPerson a0 F μ_1 t p1 hk0 hv) dX8_markPage_14 (fun v_2 μ_3 hv_4 => ?_)
  refine Ex_iload_n dX8_markPage_17 rfl 1 rfl ?_
  refine Ex_isub dX8_markPage_18 ?_
  exact Ex_iret dX8_markPage_19 rfl (fun ty h => by cases h; rfl)

def f_X8_markBride (F : Nat) (μ : Mem) (t : Nat) (p1 : Int32) : Option (Int32 × Mem) := lt (sL μ t ((gL μ t) + 1000)) (fun μ_1 => bW (f_X8_markEarl F μ_1 t p1) (fun v_2 μ_3 => some (v_2 * 2, μ_3)))
set_option maxRecDepth 100000 in
set_option maxHeartbeats 4000000 in
theorem c_X8_markBride (a0 F : Nat) (μ : Mem) (t : Nat) (p1 : Int32) (hk0 : kd t = 8) {v : Int32} {μ2 : Mem} (hr : f_X8_markBride F μ t p1 = some (v, μ2)) : Ct a0 yX8_markBride cX8_markBride 2 (some .int) 5 [.ref (a0 + t), .int p1] μ (some (.int v)) μ2 := by
  refine Ct_of (own := RX8) (ι := (fun x => (some (.int x.1), x.2))) (o := f_X8_markBride F μ t p1) (by decide +kernel) rfl (Nat.le_of_ble_eq_true rfl) ?_ hr rfl ⟨_, rfl⟩
  show Ex a0 RX8 cX8_markBride 2 (some .int) 5 none (fun x => (some (.int x.1), x.2)) 0 [(0, .ref (a0 + t)), (1, .int p1)] [] μ (f_X8_markBride F μ t p1)
  unfold f_X8_markBride
  refine Ex_aload_n dX8_markBride_0 rfl 0 rfl ?_
  refine Ex_dup dX8_markBride_1 rfl ?_
  refine Ex_get (v := .long (gL μ t)) fgX8_62 hk0 (by decide) rfl dX8_markBride_2 ?_
  refine Ex_ldc2 (v := 1000) dX8_markBride_5 cnX8_299 ?_
  refine Ex_ladd dX8_markBride_8 ?_
  refine Ex_putL fgX8_62 fp8_9 hk0 (by decide) rfl rfl (Nat.le_of_ble_eq_true rfl) (fs8_9 a0 μ t ((gL μ t) + 1000)) dX8_markBride_9 (fun μ_1 => ?_)
  refine Ex_aload_n dX8_markBride_12 rfl 0 rfl ?_
  refine Ex_iload_n dX8_markBride_13 rfl 1 rfl ?_
  refine Ex_callVW (n := 1) (dp2 := 4) [.int p1] cvX8_261 hk0 rfl rfl (by decide) (by decide) (Nat.le_of_ble_eq_true rfl) rfl (fun v μ2 hv => c_X8_markEarl a0 F μ_1 t p1 hk0 hv) dX8_markBride_14 (fun v_2 μ_3 hv_4 => ?_)
  refine Ex_iconst (v := 2) dX8_markBride_17 (by decide) ?_
  refine Ex_imul dX8_markBride_18 ?_
  exact Ex_iret dX8_markBride_19 rfl (fun ty h => by cases h; rfl)

def f_X8_markTailor (F : Nat) (μ : Mem) (t : Nat) (p1 : Int32) : Option (Int32 × Mem) := lt (sL μ t ((gL μ t) + 10000)) (fun μ_1 => bW (f_X8_markPage F μ_1 t p1) (fun v_2 μ_3 => if ix p1 5 = true then some (v_2 + (gI μ_3 (((t + 16) + 1) + 3) p1.toNatClampNeg), μ_3) else none))
set_option maxRecDepth 100000 in
set_option maxHeartbeats 4000000 in
theorem c_X8_markTailor (a0 F : Nat) (μ : Mem) (t : Nat) (p1 : Int32) (hk0 : kd t = 8) {v : Int32} {μ2 : Mem} (hr : f_X8_markTailor F μ t p1 = some (v, μ2)) : Ct a0 yX8_markTailor cX8_markTailor 2 (some .int) 3 [.ref (a0 + t), .int p1] μ (some (.int v)) μ2 := by
  refine Ct_of (own := RX8) (ι := (fun x => (some (.int x.1), x.2))) (o := f_X8_markTailor F μ t p1) (by decide +kernel) rfl (Nat.le_of_ble_eq_true rfl) ?_ hr rfl ⟨_, rfl⟩
  show Ex a0 RX8 cX8_markTailor 2 (some .int) 3 none (fun x => (some (.int x.1), x.2)) 0 [(0, .ref (a0 + t)), (1, .int p1)] [] μ (f_X8_markTailor F μ t p1)
  unfold f_X8_markTailor
  refine Ex_aload_n dX8_markTailor_0 rfl 0 rfl ?_
  refine Ex_dup dX8_markTailor_1 rfl ?_
  refine Ex_get (v := .long (gL μ t)) fgX8_62 hk0 (by decide) rfl dX8_markTailor_2 ?_
  refine Ex_ldc2 (v := 10000) dX8_markTailor_5 cnX8_301 ?_
  refine Ex_ladd dX8_markTailor_8 ?_
  refine Ex_putL fgX8_62 fp8_9 hk0 (by decide) rfl rfl (Nat.le_of_ble_eq_true rfl) (fs8_9 a0 μ t ((gL μ t) + 10000)) dX8_markTailor_9 (fun μ_1 => ?_)
  refine Ex_aload_n dX8_markTailor_12 rfl 0 rfl ?_
  refine Ex_iload_n dX8_markTailor_13 rfl 1 rfl ?_
  refine Ex_callVW (n := 1) (dp2 := 2) [.int p1] cvX8_264 hk0 rfl rfl (by decide) (by decide) (Nat.le_of_ble_eq_true rfl) rfl (fun v μ2 hv => c_X8_markPage a0 F μ_1 t p1 hk0 hv) dX8_markTailor_14 (fun v_2 μ_3 hv_4 => ?_)
  refine Ex_aload_n dX8_markTailor_17 rfl 0 rfl ?_
  refine Ex_get (v := .ref (a0 + (t + 16))) fgX8_29 hk0 (by decide) rfl dX8_markTailor_18 ?_
  refine Ex_get (v := .ref (a0 + ((t + 16) + 1))) fgX8_113 (kn_8_16 hk0) (by decide) rfl dX8_markTailor_21 ?_
  refine Ex_get (v := .ref (a0 + (((t + 16) + 1) + 3))) fgX8_129 (kn_0_1 (kn_8_16 hk0)) (by decide) rfl dX8_markTailor_24 ?_
  refine Ex_iload_n dX8_markTailor_27 rfl 1 rfl ?_
  refine Ex_iald 5 (kn_3_3 (kn_0_1 (kn_8_16 hk0))) (by decide) dX8_markTailor_28 ?_
  refine Ex_iadd dX8_markTailor_29 ?_
  exact Ex_iret dX8_markTailor_30 rfl (fun ty h => by cases h; rfl)

def f_X8_markThief (F : Nat) (μ : Mem) (t : Nat) (p1 : Int32) : Option (Int32 × Mem) := lt (sL μ t ((gL μ t) + 100000)) (fun μ_1 => bW (f_X8_markPerson F μ_1 t p1) (fun v_2 μ_3 => (f_X8_closedLanes F μ_3 t).bind (fun v_5 => some (v_2 + v_5, μ_3))))
set_option maxRecDepth 100000 in
set_option maxHeartbeats 4000000 in
theorem c_X8_markThief (a0 F : Nat) (μ : Mem) (t : Nat) (p1 : Int32) (hk0 : kd t = 8) {v : Int32} {μ2 : Mem} (hr : f_X8_markThief F μ t p1 = some (v, μ2)) : Ct a0 yX8_markThief cX8_markThief 2 (some .int) 2 [.ref (a0 + t), .int p1] μ (some (.int v)) μ2 := by
  refine Ct_of (own := RX8) (ι := (fun x => (some (.int x.1), x.2))) (o := f_X8_markThief F μ t p1) (by decide +kernel) rfl (Nat.le_of_ble_eq_true rfl) ?_ hr rfl ⟨_, rfl⟩
  show Ex a0 RX8 cX8_markThief 2 (some .int) 2 none (fun x => (some (.int x.1), x.2)) 0 [(0, .ref (a0 + t)), (1, .int p1)] [] μ (f_X8_markThief F μ t p1)
  unfold f_X8_markThief
  refine Ex_aload_n dX8_markThief_0 rfl 0 rfl ?_
  refine Ex_dup dX8_markThief_1 rfl ?_
  refine Ex_get (v := .long (gL μ t)) fgX8_62 hk0 (by decide) rfl dX8_markThief_2 ?_
  refine Ex_ldc2 (v := 100000) dX8_markThief_5 cnX8_303 ?_
  refine Ex_ladd dX8_markThief_8 ?_
  refine Ex_putL fgX8_62 fp8_9 hk0 (by decide) rfl rfl (Nat.le_of_ble_eq_true rfl) (fs8_9 a0 μ t ((gL μ t) + 100000)) dX8_markThief_9 (fun μ_1 => ?_)
  refine Ex_aload_n dX8_markThief_12 rfl 0 rfl ?_
  refine Ex_iload_n dX8_markThief_13 rfl 1 rfl ?_
  refine Ex_callVW (n := 1) (dp2 := 1) [.int p1] cvX8_258 hk0 rfl rfl (by decide) (by decide) (Nat.le_of_ble_eq_true rfl) rfl (fun v μ2 hv => c_X8_markPerson a0 F μ_1 t p1 hk0 hv) dX8_markThief_14 (fun v_2 μ_3 hv_4 => ?_)
  refine Ex_aload_n dX8_markThief_17 rfl 0 rfl ?_
  refine Ex_callVR (n := 0) (dp2 := 1) [] cvX8_168 hk0 rfl rfl (by decide) (by decide) (Nat.le_of_ble_eq_true rfl) rfl (fun v hv => c_X8_closedLanes a0 F μ_3 t hk0 hv) dX8_markThief_18 (fun v_5 hv_7 => ?_)
  refine Ex_iadd dX8_markThief_21 ?_
  exact Ex_iret dX8_markThief_22 rfl (fun ty h => by cases h; rfl)

def f_X8_mark (F : Nat) (μ : Mem) (t : Nat) (p1 : Int32) (p2 : Int32) : Option (Int32 × Mem) := (f_X8_noPerson F μ t p2).bind (fun v_1 => (if v_1 = 0 then (if p1 = 0 then bW (f_X8_markPerson F μ t p2) (fun v_5 μ_6 => some (v_5, μ_6)) else (if p1 = 1 then bW (f_X8_markEarl F μ t p2) (fun v_9 μ_10 => some (v_9, μ_10)) else (if p1 = 2 then bW (f_X8_markPage F μ t p2) (fun v_13 μ_14 => some (v_13, μ_14)) else (if p1 = 3 then bW (f_X8_markBride F μ t p2) (fun v_17 μ_18 => some (v_17, μ_18)) else (if p1 = 4 then bW (f_X8_markTailor F μ t p2) (fun v_21 μ_22 => some (v_21, μ_22)) else (if p1 = 5 then bW (f_X8_markThief F μ t p2) (fun v_25 μ_26 => some (v_25, μ_26)) else some ((-1000000), μ))))))) else some ((-1000000), μ)))
set_option maxRecDepth 100000 in
set_option maxHeartbeats 4000000 in
theorem c_X8_mark (a0 F : Nat) (μ : Mem) (t : Nat) (p1 : Int32) (p2 : Int32) (hk0 : kd t = 8) {v : Int32} {μ2 : Mem} (hr : f_X8_mark F μ t p1 p2 = some (v, μ2)) : Ct a0 yX8_mark cX8_mark 3 (some .int) 6 [.ref (a0 + t), .int p1, .int p2] μ (some (.int v)) μ2 := by
  refine Ct_of (own := RX8) (ι := (fun x => (some (.int x.1), x.2))) (o := f_X8_mark F μ t p1 p2) (by decide +kernel) rfl (Nat.le_of_ble_eq_true rfl) ?_ hr rfl ⟨_, rfl⟩
  show Ex a0 RX8 cX8_mark 3 (some .int) 6 none (fun x => (some (.int x.1), x.2)) 0 [(0, .ref (a0 + t)), (1, .int p1), (2, .int p2)] [] μ (f_X8_mark F μ t p1 p2)
  unfold f_X8_mark
  refine Ex_aload_n dX8_mark_0 rfl 0 rfl ?_
  refine Ex_iload_n dX8_mark_1 rfl 2 rfl ?_
  refine Ex_callVR (n := 1) (dp2 := 0) [.int p2] cvX8_110 hk0 rfl rfl (by decide) (by decide) (Nat.le_of_ble_eq_true rfl) rfl (fun v hv => c_X8_noPerson a0 F μ t p2 hk0 hv) dX8_mark_2 (fun v_1 hv_3 => ?_)
  refine Ex_if_eq (tgt := 12) dX8_mark_5 (by decide) ?_ ?_
  · refine Ex_iload_n dX8_mark_12 rfl 1 rfl ?_
    refine Ex_if (p1 = 0) (fun hc_4 => ?_) (fun hc_4 => ?_)
    · refine Ex_tblC (tgt := 52) dX8_mark_13 (i := 0) (by rw [hc_4]; rfl) (by decide) (by decide) (off := 39) rfl (by decide) ?_
      refine Ex_aload_n dX8_mark_52 rfl 0 rfl ?_
      refine Ex_iload_n dX8_mark_53 rfl 2 rfl ?_
      refine Ex_callVW (n := 1) (dp2 := 1) [.int p2] cvX8_258 hk0 rfl rfl (by decide) (by decide) (Nat.le_of_ble_eq_true rfl) rfl (fun v μ2 hv => c_X8_markPerson a0 F μ t p2 hk0 hv) dX8_mark_54 (fun v_5 μ_6 hv_7 => ?_)
      exact Ex_iret dX8_mark_57 rfl (fun ty h => by cases h; rfl)
    · refine Ex_if (p1 = 1) (fun hc_8 => ?_) (fun hc_8 => ?_)
      · refine Ex_tblC (tgt := 58) dX8_mark_13 (i := 1) (by rw [hc_8]; rfl) (by decide) (by decide) (off := 45) rfl (by decide) ?_
        refine Ex_aload_n dX8_mark_58 rfl 0 rfl ?_
        refine Ex_iload_n dX8_mark_59 rfl 2 rfl ?_
        refine Ex_callVW (n := 1) (dp2 := 4) [.int p2] cvX8_261 hk0 rfl rfl (by decide) (by decide) (Nat.le_of_ble_eq_true rfl) rfl (fun v μ2 hv => c_X8_markEarl a0 F μ t p2 hk0 hv) dX8_mark_60 (fun v_9 μ_10 hv_11 => ?_)
        exact Ex_iret dX8_mark_63 rfl (fun ty h => by cases h; rfl)
      · refine Ex_if (p1 = 2) (fun hc_12 => ?_) (fun hc_12 => ?_)
        · refine Ex_tblC (tgt := 64) dX8_mark_13 (i := 2) (by rw [hc_12]; rfl) (by decide) (by decide) (off := 51) rfl (by decide) ?_
          refine Ex_aload_n dX8_mark_64 rfl 0 rfl ?_
          refine Ex_iload_n dX8_mark_65 rfl 2 rfl ?_
          refine Ex_callVW (n := 1) (dp2 := 2) [.int p2] cvX8_264 hk0 rfl rfl (by decide) (by decide) (Nat.le_of_ble_eq_true rfl) rfl (fun v μ2 hv => c_X8_markPage a0 F μ t p2 hk0 hv) dX8_mark_66 (fun v_13 μ_14 hv_15 => ?_)
          exact Ex_iret dX8_mark_69 rfl (fun ty h => by cases h; rfl)
        · refine Ex_if (p1 = 3) (fun hc_16 => ?_) (fun hc_16 => ?_)
          · refine Ex_tblC (tgt := 70) dX8_mark_13 (i := 3) (by rw [hc_16]; rfl) (by decide) (by decide) (off := 57) rfl (by decide) ?_
            refine Ex_aload_n dX8_mark_70 rfl 0 rfl ?_
            refine Ex_iload_n dX8_mark_71 rfl 2 rfl ?_
            refine Ex_callVW (n := 1) (dp2 := 5) [.int p2] cvX8_267 hk0 rfl rfl (by decide) (by decide) (Nat.le_of_ble_eq_true rfl) rfl (fun v μ2 hv => c_X8_markBride a0 F μ t p2 hk0 hv) dX8_mark_72 (fun v_17 μ_18 hv_19 => ?_)
            exact Ex_iret dX8_mark_75 rfl (fun ty h => by cases h; rfl)
          · refine Ex_if (p1 = 4) (fun hc_20 => ?_) (fun hc_20 => ?_)
            · refine Ex_tblC (tgt := 76) dX8_mark_13 (i := 4) (by rw [hc_20]; rfl) (by decide) (by decide) (off := 63) rfl (by decide) ?_
              refine Ex_aload_n dX8_mark_76 rfl 0 rfl ?_
              refine Ex_iload_n dX8_mark_77 rfl 2 rfl ?_
              refine Ex_callVW (n := 1) (dp2 := 3) [.int p2] cvX8_270 hk0 rfl rfl (by decide) (by decide) (Nat.le_of_ble_eq_true rfl) rfl (fun v μ2 hv => c_X8_markTailor a0 F μ t p2 hk0 hv) dX8_mark_78 (fun v_21 μ_22 hv_23 => ?_)
              exact Ex_iret dX8_mark_81 rfl (fun ty h => by cases h; rfl)
            · refine Ex_if (p1 = 5) (fun hc_24 => ?_) (fun hc_24 => ?_)
              · refine Ex_tblC (tgt := 82) dX8_mark_13 (i := 5) (by rw [hc_24]; rfl) (by decide) (by decide) (off := 69) rfl (by decide) ?_
                refine Ex_aload_n dX8_mark_82 rfl 0 rfl ?_
                refine Ex_iload_n dX8_mark_83 rfl 2 rfl ?_
                refine Ex_callVW (n := 1) (dp2 := 2) [.int p2] cvX8_273 hk0 rfl rfl (by decide) (by decide) (Nat.le_of_ble_eq_true rfl) rfl (fun v μ2 hv => c_X8_markThief a0 F μ t p2 hk0 hv) dX8_mark_84 (fun v_25 μ_26 hv_27 => ?_)
                exact Ex_iret dX8_mark_87 rfl (fun ty h => by cases h; rfl)
              · refine Ex_tblD (tgt := 88) dX8_mark_13 (by have q0 := lv_neT hc_4 (show (0 : Int32).toInt = 0 from rfl); have q1 := lv_neT hc_8 (show (1 : Int32).toInt = 1 from rfl); have q2 := lv_neT hc_12 (show (2 : Int32).toInt = 2 from rfl); have q3 := lv_neT hc_16 (show (3 : Int32).toInt = 3 from rfl); have q4 := lv_neT hc_20 (show (4 : Int32).toInt = 4 from rfl); have q5 := lv_neT hc_24 (show (5 : Int32).toInt = 5 from rfl); omega) (by decide) ?_
                refine Ex_ldcw (v := (-1000000)) dX8_mark_88 cnX8_257 ?_
                exact Ex_iret dX8_mark_91 rfl (fun ty h => by cases h; rfl)
  · refine Ex_ldcw (v := (-1000000)) dX8_mark_8 cnX8_257 ?_
    exact Ex_iret dX8_mark_11 rfl (fun ty h => by cases h; rfl)

def f_X8_outcome (F : Nat) (μ : Mem) (t : Nat) (p1 : Int32) (p2 : Int32) (p3 : Int32) : Option (Int32) := (f_X8_isClosed F μ t p3).bind (fun v_1 => (if v_1 = 0 then (f_X8_isTooNarrow F μ t p3 p1).bind (fun v_4 => (if v_4 = 0 then (f_X8_isTooNarrow F μ t p3 p2).bind (fun v_7 => (if v_7 = 0 then (f_X8_wideness F μ t p1).bind (fun v_10 => (f_X8_wideness F μ t p2).bind (fun v_13 => if ix p3 8 = true then (if (gI μ ((gR μ t 1) + 3) p3.toNatClampNeg) < (v_10 + v_13) then if ix p1 5 = true then if ix p2 5 = true then lt ((gI μ (((t + 16) + 1) + 1) p1.toNatClampNeg) - (gI μ (((t + 16) + 1) + 1) p2.toNatClampNeg)) (fun x4_17 => (if x4_17 = 0 then some 3 else (if 0 < x4_17 then some 1 else some 2))) else none else none else some 0) else none)) else some 4)) else some 4)) else some 5))
set_option maxRecDepth 100000 in
set_option maxHeartbeats 4000000 in
theorem c_X8_outcome (a0 F : Nat) (μ : Mem) (t : Nat) (p1 : Int32) (p2 : Int32) (p3 : Int32) (hk0 : kd t = 8) {v : Int32} (hr : f_X8_outcome F μ t p1 p2 p3 = some v) : Ct a0 yX8_outcome cX8_outcome 5 (some .int) 2 [.ref (a0 + t), .int p1, .int p2, .int p3] μ (some (.int v)) μ := by
  refine Ct_of (own := RX8) (ι := (fun v => (some (.int v), μ))) (o := f_X8_outcome F μ t p1 p2 p3) (by decide +kernel) rfl (Nat.le_of_ble_eq_true rfl) ?_ hr rfl ⟨_, rfl⟩
  show Ex a0 RX8 cX8_outcome 5 (some .int) 2 none (fun v => (some (.int v), μ)) 0 [(0, .ref (a0 + t)), (1, .int p1), (2, .int p2), (3, .int p3)] [] μ (f_X8_outcome F μ t p1 p2 p3)
  unfold f_X8_outcome
  refine Ex_aload_n dX8_outcome_0 rfl 0 rfl ?_
  refine Ex_iload_n dX8_outcome_1 rfl 3 rfl ?_
  refine Ex_callVR (n := 1) (dp2 := 0) [.int p3] cvX8_107 hk0 rfl rfl (by decide) (by decide) (Nat.le_of_ble_eq_true rfl) rfl (fun v hv => c_X8_isClosed a0 F μ t p3 hk0 hv) dX8_outcome_2 (fun v_1 hv_3 => ?_)
  refine Ex_if_eq (tgt := 10) dX8_outcome_5 (by decide) ?_ ?_
  · refine Ex_aload_n dX8_outcome_10 rfl 0 rfl ?_
    refine Ex_iload_n dX8_outcome_11 rfl 3 rfl ?_
    refine Ex_iload_n dX8_outcome_12 rfl 1 rfl ?_
    refine Ex_callVR (n := 2) (dp2 := 1) [.int p3, .int p1] cvX8_139 hk0 rfl rfl (by decide) (by decide) (Nat.le_of_ble_eq_true rfl) rfl (fun v hv => c_X8_isTooNarrow a0 F μ t p3 p1 hk0 hv) dX8_outcome_13 (fun v_4 hv_6 => ?_)
    refine Ex_if_ne (tgt := 28) dX8_outcome_16 (by decide) ?_ ?_
    · refine Ex_iconst (v := 4) dX8_outcome_28 (by decide) ?_
      exact Ex_iret dX8_outcome_29 rfl (fun ty h => by cases h; rfl)
    · refine Ex_aload_n dX8_outcome_19 rfl 0 rfl ?_
      refine Ex_iload_n dX8_outcome_20 rfl 3 rfl ?_
      refine Ex_iload_n dX8_outcome_21 rfl 2 rfl ?_
      refine Ex_callVR (n := 2) (dp2 := 1) [.int p3, .int p2] cvX8_139 hk0 rfl rfl (by decide) (by decide) (Nat.le_of_ble_eq_true rfl) rfl (fun v hv => c_X8_isTooNarrow a0 F μ t p3 p2 hk0 hv) dX8_outcome_22 (fun v_7 hv_9 => ?_)
      refine Ex_if_eq (tgt := 30) dX8_outcome_25 (by decide) ?_ ?_
      · refine Ex_aload_n dX8_outcome_30 rfl 0 rfl ?_
        refine Ex_iload_n dX8_outcome_31 rfl 1 rfl ?_
        refine Ex_callVR (n := 1) (dp2 := 0) [.int p1] cvX8_125 hk0 rfl rfl (by decide) (by decide) (Nat.le_of_ble_eq_true rfl) rfl (fun v hv => c_X8_wideness a0 F μ t p1 hk0 hv) dX8_outcome_32 (fun v_10 hv_12 => ?_)
        refine Ex_aload_n dX8_outcome_35 rfl 0 rfl ?_
        refine Ex_iload_n dX8_outcome_36 rfl 2 rfl ?_
        refine Ex_callVR (n := 1) (dp2 := 0) [.int p2] cvX8_125 hk0 rfl rfl (by decide) (by decide) (Nat.le_of_ble_eq_true rfl) rfl (fun v hv => c_X8_wideness a0 F μ t p2 hk0 hv) dX8_outcome_37 (fun v_13 hv_15 => ?_)
        refine Ex_iadd dX8_outcome_40 ?_
        refine Ex_aload_n dX8_outcome_41 rfl 0 rfl ?_
        refine Ex_wt (fun hw_16 => ?_)
        refine Ex_get (v := .ref (a0 + (gR μ t 1))) fgX8_19 hk0 (by decide) rfl dX8_outcome_42 ?_
        refine Ex_get (v := .ref (a0 + ((gR μ t 1) + 3))) fgX8_104 (WT_k hw_16 hk0 (K := 8) rfl (by decide)) (by decide) rfl dX8_outcome_45 ?_
        refine Ex_iload_n dX8_outcome_48 rfl 3 rfl ?_
        refine Ex_iald 8 (kn_7_3 (WT_k hw_16 hk0 (K := 8) rfl (by decide))) (by decide) dX8_outcome_49 ?_
        refine Ex_icmp_gt (tgt := 55) dX8_outcome_50 (by decide) ?_ ?_
        · refine Ex_aload_n dX8_outcome_55 rfl 0 rfl ?_
          refine Ex_get (v := .ref (a0 + (t + 16))) fgX8_29 hk0 (by decide) rfl dX8_outcome_56 ?_
          refine Ex_get (v := .ref (a0 + ((t + 16) + 1))) fgX8_113 (kn_8_16 hk0) (by decide) rfl dX8_outcome_59 ?_
          refine Ex_get (v := .ref (a0 + (((t + 16) + 1) + 1))) fgX8_117 (kn_0_1 (kn_8_16 hk0)) (by decide) rfl dX8_outcome_62 ?_
          refine Ex_iload_n dX8_outcome_65 rfl 1 rfl ?_
          refine Ex_iald 5 (kn_3_1 (kn_0_1 (kn_8_16 hk0))) (by decide) dX8_outcome_66 ?_
          refine Ex_aload_n dX8_outcome_67 rfl 0 rfl ?_
          refine Ex_get (v := .ref (a0 + (t + 16))) fgX8_29 hk0 (by decide) rfl dX8_outcome_68 ?_
          refine Ex_get (v := .ref (a0 + ((t + 16) + 1))) fgX8_113 (kn_8_16 hk0) (by decide) rfl dX8_outcome_71 ?_
          refine Ex_get (v := .ref (a0 + (((t + 16) + 1) + 1))) fgX8_117 (kn_0_1 (kn_8_16 hk0)) (by decide) rfl dX8_outcome_74 ?_
          refine Ex_iload_n dX8_outcome_77 rfl 2 rfl ?_
          refine Ex_iald 5 (kn_3_1 (kn_0_1 (kn_8_16 hk0))) (by decide) dX8_outcome_78 ?_
          refine Ex_isub dX8_outcome_79 ?_
          refine Ex_top (fun x4_17 => ?_)
          refine Ex_istore (L2 := [(4, .int x4_17), (0, .ref (a0 + t)), (1, .int p1), (2, .int p2), (3, .int p3)]) dX8_outcome_80 (by decide) rfl ?_
          refine Ex_iload dX8_outcome_82 0 rfl ?_
          refine Ex_if_ne (tgt := 89) dX8_outcome_84 (by decide) ?_ ?_
          · refine Ex_iload dX8_outcome_89 0 rfl ?_
            refine Ex_if_le (tgt := 98) dX8_outcome_91 (by decide) ?_ ?_
            · refine Ex_iconst (v := 2) dX8_outcome_98 (by decide) ?_
              exact Ex_iret dX8_outcome_99 rfl (fun ty h => by cases h; rfl)
            · refine Ex_iconst (v := 1) dX8_outcome_94 (by decide) ?_
              refine Ex_goto (tgt := 99) dX8_outcome_95 (by decide) ?_
              exact Ex_iret dX8_outcome_99 rfl (fun ty h => by cases h; rfl)
          · refine Ex_iconst (v := 3) dX8_outcome_87 (by decide) ?_
            exact Ex_iret dX8_outcome_88 rfl (fun ty h => by cases h; rfl)
        · refine Ex_iconst (v := 0) dX8_outcome_53 (by decide) ?_
          exact Ex_iret dX8_outcome_54 rfl (fun ty h => by cases h; rfl)
      · refine Ex_iconst (v := 4) dX8_outcome_28 (by decide) ?_
        exact Ex_iret dX8_outcome_29 rfl (fun ty h => by cases h; rfl)
  · refine Ex_iconst (v := 5) dX8_outcome_8 (by decide) ?_
    exact Ex_iret dX8_outcome_9 rfl (fun ty h => by cases h; rfl)

def f_X8_meeting (F : Nat) (μ : Mem) (t : Nat) (p1 : Int32) (p2 : Int32) (p3 : Int32) : Option (Int32) := (f_X8_noPerson F μ t p1).bind (fun v_1 => (if v_1 = 0 then (f_X8_noPerson F μ t p2).bind (fun v_4 => (if v_4 = 0 then (if p1 = p2 then some (-1) else (f_X8_noLane F μ t p3).bind (fun v_7 => (if v_7 = 0 then (f_X8_outcome F μ t p1 p2 p3).bind (fun v_10 => some v_10) else some (-1)))) else some (-1))) else some (-1)))
set_option maxRecDepth 100000 in
set_option maxHeartbeats 4000000 in
theorem c_X8_meeting (a0 F : Nat) (μ : Mem) (t : Nat) (p1 : Int32) (p2 : Int32) (p3 : Int32) (hk0 : kd t = 8) {v : Int32} (hr : f_X8_meeting F μ t p1 p2 p3 = some v) : Ct a0 yX8_meeting cX8_meeting 4 (some .int) 3 [.ref (a0 + t), .int p1, .int p2, .int p3] μ (some (.int v)) μ := by
  refine Ct_of (own := RX8) (ι := (fun v => (some (.int v), μ))) (o := f_X8_meeting F μ t p1 p2 p3) (by decide +kernel) rfl (Nat.le_of_ble_eq_true rfl) ?_ hr rfl ⟨_, rfl⟩
  show Ex a0 RX8 cX8_meeting 4 (some .int) 3 none (fun v => (some (.int v), μ)) 0 [(0, .ref (a0 + t)), (1, .int p1), (2, .int p2), (3, .int p3)] [] μ (f_X8_meeting F μ t p1 p2 p3)
  unfold f_X8_meeting
  refine Ex_aload_n dX8_meeting_0 rfl 0 rfl ?_
  refine Ex_iload_n dX8_meeting_1 rfl 1 rfl ?_
  refine Ex_callVR (n := 1) (dp2 := 0) [.int p1] cvX8_110 hk0 rfl rfl (by decide) (by decide) (Nat.le_of_ble_eq_true rfl) rfl (fun v hv => c_X8_noPerson a0 F μ t p1 hk0 hv) dX8_meeting_2 (fun v_1 hv_3 => ?_)
  refine Ex_if_ne (tgt := 29) dX8_meeting_5 (by decide) ?_ ?_
  · refine Ex_iconst (v := (-1)) dX8_meeting_29 (by decide) ?_
    exact Ex_iret dX8_meeting_30 rfl (fun ty h => by cases h; rfl)
  · refine Ex_aload_n dX8_meeting_8 rfl 0 rfl ?_
    refine Ex_iload_n dX8_meeting_9 rfl 2 rfl ?_
    refine Ex_callVR (n := 1) (dp2 := 0) [.int p2] cvX8_110 hk0 rfl rfl (by decide) (by decide) (Nat.le_of_ble_eq_true rfl) rfl (fun v hv => c_X8_noPerson a0 F μ t p2 hk0 hv) dX8_meeting_10 (fun v_4 hv_6 => ?_)
    refine Ex_if_ne (tgt := 29) dX8_meeting_13 (by decide) ?_ ?_
    · refine Ex_iconst (v := (-1)) dX8_meeting_29 (by decide) ?_
      exact Ex_iret dX8_meeting_30 rfl (fun ty h => by cases h; rfl)
    · refine Ex_iload_n dX8_meeting_16 rfl 1 rfl ?_
      refine Ex_iload_n dX8_meeting_17 rfl 2 rfl ?_
      refine Ex_icmp_eq (tgt := 29) dX8_meeting_18 (by decide) ?_ ?_
      · refine Ex_iconst (v := (-1)) dX8_meeting_29 (by decide) ?_
        exact Ex_iret dX8_meeting_30 rfl (fun ty h => by cases h; rfl)
      · refine Ex_aload_n dX8_meeting_21 rfl 0 rfl ?_
        refine Ex_iload_n dX8_meeting_22 rfl 3 rfl ?_
        refine Ex_callVR (n := 1) (dp2 := 0) [.int p3] cvX8_94 hk0 rfl rfl (by decide) (by decide) (Nat.le_of_ble_eq_true rfl) rfl (fun v hv => c_X8_noLane a0 F μ t p3 hk0 hv) dX8_meeting_23 (fun v_7 hv_9 => ?_)
        refine Ex_if_eq (tgt := 31) dX8_meeting_26 (by decide) ?_ ?_
        · refine Ex_aload_n dX8_meeting_31 rfl 0 rfl ?_
          refine Ex_iload_n dX8_meeting_32 rfl 1 rfl ?_
          refine Ex_iload_n dX8_meeting_33 rfl 2 rfl ?_
          refine Ex_iload_n dX8_meeting_34 rfl 3 rfl ?_
          refine Ex_callVR (n := 3) (dp2 := 2) [.int p1, .int p2, .int p3] cvX8_149 hk0 rfl rfl (by decide) (by decide) (Nat.le_of_ble_eq_true rfl) rfl (fun v hv => c_X8_outcome a0 F μ t p1 p2 p3 hk0 hv) dX8_meeting_35 (fun v_10 hv_12 => ?_)
          exact Ex_iret dX8_meeting_38 rfl (fun ty h => by cases h; rfl)
        · refine Ex_iconst (v := (-1)) dX8_meeting_29 (by decide) ?_
          exact Ex_iret dX8_meeting_30 rfl (fun ty h => by cases h; rfl)

def f_X8_moveOrYield (F : Nat) (μ : Mem) (t : Nat) (p1 : Int32) (p2 : Int32) (p3 : Int32) : Option (Mem) := (if p3 = 0 then if ix p1 5 = true then if ix p1 5 = true then lt (sI μ (((t + 16) + 1) + 3) p1.toNatClampNeg ((gI μ (((t + 16) + 1) + 3) p1.toNatClampNeg) + 1)) (fun μ_1 => some μ_1) else none else none else (f_X8_cross F μ t p1 p2).bind (fun μ_3 => some μ_3))
set_option maxRecDepth 100000 in
set_option maxHeartbeats 4000000 in
theorem c_X8_moveOrYield (a0 F : Nat) (μ : Mem) (t : Nat) (p1 : Int32) (p2 : Int32) (p3 : Int32) (hk0 : kd t = 8) {μ2 : Mem} (hr : f_X8_moveOrYield F μ t p1 p2 p3 = some μ2) : Ct a0 yX8_moveOrYield cX8_moveOrYield 4 none 1 [.ref (a0 + t), .int p1, .int p2, .int p3] μ none μ2 := by
  refine Ct_of (own := RX8) (ι := (fun m => (none, m))) (o := f_X8_moveOrYield F μ t p1 p2 p3) (by decide +kernel) rfl (Nat.le_of_ble_eq_true rfl) ?_ hr rfl rfl
  show Ex a0 RX8 cX8_moveOrYield 4 none 1 none (fun m => (none, m)) 0 [(0, .ref (a0 + t)), (1, .int p1), (2, .int p2), (3, .int p3)] [] μ (f_X8_moveOrYield F μ t p1 p2 p3)
  unfold f_X8_moveOrYield
  refine Ex_iload_n dX8_moveOrYield_0 rfl 3 rfl ?_
  refine Ex_if_eq (tgt := 13) dX8_moveOrYield_1 (by decide) ?_ ?_
  · refine Ex_aload_n dX8_moveOrYield_13 rfl 0 rfl ?_
    refine Ex_get (v := .ref (a0 + (t + 16))) fgX8_29 hk0 (by decide) rfl dX8_moveOrYield_14 ?_
    refine Ex_get (v := .ref (a0 + ((t + 16) + 1))) fgX8_113 (kn_8_16 hk0) (by decide) rfl dX8_moveOrYield_17 ?_
    refine Ex_get (v := .ref (a0 + (((t + 16) + 1) + 3))) fgX8_129 (kn_0_1 (kn_8_16 hk0)) (by decide) rfl dX8_moveOrYield_20 ?_
    refine Ex_iload_n dX8_moveOrYield_23 rfl 1 rfl ?_
    refine Ex_dup2 dX8_moveOrYield_24 rfl rfl ?_
    refine Ex_iald 5 (kn_3_3 (kn_0_1 (kn_8_16 hk0))) (by decide) dX8_moveOrYield_25 ?_
    refine Ex_iconst (v := 1) dX8_moveOrYield_26 (by decide) ?_
    refine Ex_iadd dX8_moveOrYield_27 ?_
    refine Ex_iast 5 (kn_3_3 (kn_0_1 (kn_8_16 hk0))) (by decide) dX8_moveOrYield_28 (fun μ_1 => ?_)
    exact Ex_vret dX8_moveOrYield_29 rfl
  · refine Ex_aload_n dX8_moveOrYield_4 rfl 0 rfl ?_
    refine Ex_iload_n dX8_moveOrYield_5 rfl 1 rfl ?_
    refine Ex_iload_n dX8_moveOrYield_6 rfl 2 rfl ?_
    refine Ex_callVV (n := 2) (dp2 := 0) [.int p1, .int p2] cvX8_145 hk0 rfl rfl (by decide) (by decide) (Nat.le_of_ble_eq_true rfl) rfl (fun μ2 hv => c_X8_cross a0 F μ t p1 p2 hk0 hv) dX8_moveOrYield_7 (fun μ_3 hv_4 => ?_)
    refine Ex_goto (tgt := 29) dX8_moveOrYield_10 (by decide) ?_
    exact Ex_vret dX8_moveOrYield_29 rfl

def f_X8_meets (F : Nat) (μ : Mem) (t : Nat) (p1 : Int32) (p2 : Int32) (p3 : Int32) : Option (Int32 × Mem) := (f_X8_noPerson F μ t p1).bind (fun v_1 => (if v_1 = 0 then (f_X8_noPerson F μ t p2).bind (fun v_4 => (if v_4 = 0 then (if p1 = p2 then some ((-1), μ) else (f_X8_noLane F μ t p3).bind (fun v_7 => (if v_7 = 0 then (f_X8_outcome F μ t p1 p2 p3).bind (fun v_10 => (if 3 < v_10 then some ((-2), μ) else (f_X8_areAtBothEnds F μ t p1 p2 p3).bind (fun v_13 => (if v_13 = 0 then some ((-2), μ) else (f_X0_remember F μ (t + 16)).bind (fun μ_17 => (if v_10 = 3 then (f_X3_close F μ_17 ((t + 16) + 1) p3).bind (fun μ_38 => some (v_10, μ_38)) else (if v_10 = 2 then (f_X8_moveOrYield F μ_17 t p1 p3 0).bind (fun μ_20 => (if v_10 = 1 then (f_X8_moveOrYield F μ_20 t p2 p3 0).bind (fun μ_23 => some (v_10, μ_23)) else (f_X8_moveOrYield F μ_20 t p2 p3 1).bind (fun μ_26 => some (v_10, μ_26)))) else (f_X8_moveOrYield F μ_17 t p1 p3 1).bind (fun μ_29 => (if v_10 = 1 then (f_X8_moveOrYield F μ_29 t p2 p3 0).bind (fun μ_32 => some (v_10, μ_32)) else (f_X8_moveOrYield F μ_29 t p2 p3 1).bind (fun μ_35 => some (v_10, μ_35))))))))))) else some ((-1), μ)))) else some ((-1), μ))) else some ((-1), μ)))
set_option maxRecDepth 100000 in
set_option maxHeartbeats 4000000 in
theorem c_X8_meets (a0 F : Nat) (μ : Mem) (t : Nat) (p1 : Int32) (p2 : Int32) (p3 : Int32) (hk0 : kd t = 8) {v : Int32} {μ2 : Mem} (hr : f_X8_meets F μ t p1 p2 p3 = some (v, μ2)) : Ct a0 yX8_meets cX8_meets 5 (some .int) 3 [.ref (a0 + t), .int p1, .int p2, .int p3] μ (some (.int v)) μ2 := by
  refine Ct_of (own := RX8) (ι := (fun x => (some (.int x.1), x.2))) (o := f_X8_meets F μ t p1 p2 p3) (by decide +kernel) rfl (Nat.le_of_ble_eq_true rfl) ?_ hr rfl ⟨_, rfl⟩
  show Ex a0 RX8 cX8_meets 5 (some .int) 3 none (fun x => (some (.int x.1), x.2)) 0 [(0, .ref (a0 + t)), (1, .int p1), (2, .int p2), (3, .int p3)] [] μ (f_X8_meets F μ t p1 p2 p3)
  unfold f_X8_meets
  refine Ex_aload_n dX8_meets_0 rfl 0 rfl ?_
  refine Ex_iload_n dX8_meets_1 rfl 1 rfl ?_
  refine Ex_callVR (n := 1) (dp2 := 0) [.int p1] cvX8_110 hk0 rfl rfl (by decide) (by decide) (Nat.le_of_ble_eq_true rfl) rfl (fun v hv => c_X8_noPerson a0 F μ t p1 hk0 hv) dX8_meets_2 (fun v_1 hv_3 => ?_)
  refine Ex_if_ne (tgt := 29) dX8_meets_5 (by decide) ?_ ?_
  · refine Ex_iconst (v := (-1)) dX8_meets_29 (by decide) ?_
    exact Ex_iret dX8_meets_30 rfl (fun ty h => by cases h; rfl)
  · refine Ex_aload_n dX8_meets_8 rfl 0 rfl ?_
    refine Ex_iload_n dX8_meets_9 rfl 2 rfl ?_
    refine Ex_callVR (n := 1) (dp2 := 0) [.int p2] cvX8_110 hk0 rfl rfl (by decide) (by decide) (Nat.le_of_ble_eq_true rfl) rfl (fun v hv => c_X8_noPerson a0 F μ t p2 hk0 hv) dX8_meets_10 (fun v_4 hv_6 => ?_)
    refine Ex_if_ne (tgt := 29) dX8_meets_13 (by decide) ?_ ?_
    · refine Ex_iconst (v := (-1)) dX8_meets_29 (by decide) ?_
      exact Ex_iret dX8_meets_30 rfl (fun ty h => by cases h; rfl)
    · refine Ex_iload_n dX8_meets_16 rfl 1 rfl ?_
      refine Ex_iload_n dX8_meets_17 rfl 2 rfl ?_
      refine Ex_icmp_eq (tgt := 29) dX8_meets_18 (by decide) ?_ ?_
      · refine Ex_iconst (v := (-1)) dX8_meets_29 (by decide) ?_
        exact Ex_iret dX8_meets_30 rfl (fun ty h => by cases h; rfl)
      · refine Ex_aload_n dX8_meets_21 rfl 0 rfl ?_
        refine Ex_iload_n dX8_meets_22 rfl 3 rfl ?_
        refine Ex_callVR (n := 1) (dp2 := 0) [.int p3] cvX8_94 hk0 rfl rfl (by decide) (by decide) (Nat.le_of_ble_eq_true rfl) rfl (fun v hv => c_X8_noLane a0 F μ t p3 hk0 hv) dX8_meets_23 (fun v_7 hv_9 => ?_)
        refine Ex_if_eq (tgt := 31) dX8_meets_26 (by decide) ?_ ?_
        · refine Ex_aload_n dX8_meets_31 rfl 0 rfl ?_
          refine Ex_iload_n dX8_meets_32 rfl 1 rfl ?_
          refine Ex_iload_n dX8_meets_33 rfl 2 rfl ?_
          refine Ex_iload_n dX8_meets_34 rfl 3 rfl ?_
          refine Ex_callVR (n := 3) (dp2 := 2) [.int p1, .int p2, .int p3] cvX8_149 hk0 rfl rfl (by decide) (by decide) (Nat.le_of_ble_eq_true rfl) rfl (fun v hv => c_X8_outcome a0 F μ t p1 p2 p3 hk0 hv) dX8_meets_35 (fun v_10 hv_12 => ?_)
          refine Ex_istore (L2 := [(4, .int v_10), (0, .ref (a0 + t)), (1, .int p1), (2, .int p2), (3, .int p3)]) dX8_meets_38 (by decide) rfl ?_
          refine Ex_iload dX8_meets_40 0 rfl ?_
          refine Ex_iconst (v := 3) dX8_meets_42 (by decide) ?_
          refine Ex_icmp_gt (tgt := 56) dX8_meets_43 (by decide) ?_ ?_
          · refine Ex_bipush (v := (-2)) dX8_meets_56 (by decide) ?_
            exact Ex_iret dX8_meets_58 rfl (fun ty h => by cases h; rfl)
          · refine Ex_aload_n dX8_meets_46 rfl 1 rfl ?_
            refine Ex_iload_n dX8_meets_47 rfl 2 rfl ?_
            refine Ex_iload_n dX8_meets_48 rfl 3 rfl ?_
            refine Ex_iload_n dX8_meets_49 rfl 4 rfl ?_
            refine Ex_callVR (n := 3) (dp2 := 1) [.int p1, .int p2, .int p3] cvX8_153 hk0 rfl rfl (by decide) (by decide) (Nat.le_of_ble_eq_true rfl) rfl (fun v hv => c_X8_areAtBothEnds a0 F μ t p1 p2 p3 hk0 hv) dX8_meets_50 (fun v_13 hv_15 => ?_)
            refine Ex_if_ne (tgt := 59) dX8_meets_53 (by decide) ?_ ?_
            · refine Ex_aload_n dX8_meets_59 rfl 1 rfl ?_
              refine Ex_get (v := .ref (a0 + (t + 16))) fgX8_29 hk0 (by decide) rfl dX8_meets_60 ?_
              refine Ex_callVV (n := 0) (dp2 := 1) [] cvX8_142 (kn_8_16 hk0) rfl rfl (by decide) (by decide) (Nat.le_of_ble_eq_true rfl) rfl (fun μ2 hv => c_X0_remember a0 F μ (t + 16) (kn_8_16 hk0) hv) dX8_meets_63 (fun μ_17 hv_18 => ?_)
              refine Ex_iload dX8_meets_66 0 rfl ?_
              refine Ex_iconst (v := 3) dX8_meets_68 (by decide) ?_
              refine Ex_icmp_ne (tgt := 86) dX8_meets_69 (by decide) ?_ ?_
              · refine Ex_aload_n dX8_meets_86 rfl 1 rfl ?_
                refine Ex_iload_n dX8_meets_87 rfl 2 rfl ?_
                refine Ex_iload_n dX8_meets_88 rfl 4 rfl ?_
                refine Ex_iload dX8_meets_89 0 rfl ?_
                refine Ex_iconst (v := 2) dX8_meets_91 (by decide) ?_
                refine Ex_icmp_eq (tgt := 99) dX8_meets_92 (by decide) ?_ ?_
                · refine Ex_iconst (v := 0) dX8_meets_99 (by decide) ?_
                  refine Ex_callVV (n := 3) (dp2 := 1) [.int p1, .int p3, .int 0] cvX8_161 hk0 rfl rfl (by decide) (by decide) (Nat.le_of_ble_eq_true rfl) rfl (fun μ2 hv => c_X8_moveOrYield a0 F μ_17 t p1 p3 0 hk0 hv) dX8_meets_100 (fun μ_20 hv_21 => ?_)
                  refine Ex_aload_n dX8_meets_103 rfl 1 rfl ?_
                  refine Ex_iload_n dX8_meets_104 rfl 3 rfl ?_
                  refine Ex_iload_n dX8_meets_105 rfl 4 rfl ?_
                  refine Ex_iload dX8_meets_106 0 rfl ?_
                  refine Ex_iconst (v := 1) dX8_meets_108 (by decide) ?_
                  refine Ex_icmp_eq (tgt := 116) dX8_meets_109 (by decide) ?_ ?_
                  · refine Ex_iconst (v := 0) dX8_meets_116 (by decide) ?_
                    refine Ex_callVV (n := 3) (dp2 := 1) [.int p2, .int p3, .int 0] cvX8_161 hk0 rfl rfl (by decide) (by decide) (Nat.le_of_ble_eq_true rfl) rfl (fun μ2 hv => c_X8_moveOrYield a0 F μ_20 t p2 p3 0 hk0 hv) dX8_meets_117 (fun μ_23 hv_24 => ?_)
                    refine Ex_iload dX8_meets_120 0 rfl ?_
                    exact Ex_iret dX8_meets_122 rfl (fun ty h => by cases h; rfl)
                  · refine Ex_iconst (v := 1) dX8_meets_112 (by decide) ?_
                    refine Ex_goto (tgt := 117) dX8_meets_113 (by decide) ?_
                    refine Ex_callVV (n := 3) (dp2 := 1) [.int p2, .int p3, .int 1] cvX8_161 hk0 rfl rfl (by decide) (by decide) (Nat.le_of_ble_eq_true rfl) rfl (fun μ2 hv => c_X8_moveOrYield a0 F μ_20 t p2 p3 1 hk0 hv) dX8_meets_117 (fun μ_26 hv_27 => ?_)
                    refine Ex_iload dX8_meets_120 0 rfl ?_
                    exact Ex_iret dX8_meets_122 rfl (fun ty h => by cases h; rfl)
                · refine Ex_iconst (v := 1) dX8_meets_95 (by decide) ?_
                  refine Ex_goto (tgt := 100) dX8_meets_96 (by decide) ?_
                  refine Ex_callVV (n := 3) (dp2 := 1) [.int p1, .int p3, .int 1] cvX8_161 hk0 rfl rfl (by decide) (by decide) (Nat.le_of_ble_eq_true rfl) rfl (fun μ2 hv => c_X8_moveOrYield a0 F μ_17 t p1 p3 1 hk0 hv) dX8_meets_100 (fun μ_29 hv_30 => ?_)
                  refine Ex_aload_n dX8_meets_103 rfl 1 rfl ?_
                  refine Ex_iload_n dX8_meets_104 rfl 3 rfl ?_
                  refine Ex_iload_n dX8_meets_105 rfl 4 rfl ?_
                  refine Ex_iload dX8_meets_106 0 rfl ?_
                  refine Ex_iconst (v := 1) dX8_meets_108 (by decide) ?_
                  refine Ex_icmp_eq (tgt := 116) dX8_meets_109 (by decide) ?_ ?_
                  · refine Ex_iconst (v := 0) dX8_meets_116 (by decide) ?_
                    refine Ex_callVV (n := 3) (dp2 := 1) [.int p2, .int p3, .int 0] cvX8_161 hk0 rfl rfl (by decide) (by decide) (Nat.le_of_ble_eq_true rfl) rfl (fun μ2 hv => c_X8_moveOrYield a0 F μ_29 t p2 p3 0 hk0 hv) dX8_meets_117 (fun μ_32 hv_33 => ?_)
                    refine Ex_iload dX8_meets_120 0 rfl ?_
                    exact Ex_iret dX8_meets_122 rfl (fun ty h => by cases h; rfl)
                  · refine Ex_iconst (v := 1) dX8_meets_112 (by decide) ?_
                    refine Ex_goto (tgt := 117) dX8_meets_113 (by decide) ?_
                    refine Ex_callVV (n := 3) (dp2 := 1) [.int p2, .int p3, .int 1] cvX8_161 hk0 rfl rfl (by decide) (by decide) (Nat.le_of_ble_eq_true rfl) rfl (fun μ2 hv => c_X8_moveOrYield a0 F μ_29 t p2 p3 1 hk0 hv) dX8_meets_117 (fun μ_35 hv_36 => ?_)
                    refine Ex_iload dX8_meets_120 0 rfl ?_
                    exact Ex_iret dX8_meets_122 rfl (fun ty h => by cases h; rfl)
              · refine Ex_aload_n dX8_meets_72 rfl 1 rfl ?_
                refine Ex_get (v := .ref (a0 + (t + 16))) fgX8_29 hk0 (by decide) rfl dX8_meets_73 ?_
                refine Ex_get (v := .ref (a0 + ((t + 16) + 1))) fgX8_113 (kn_8_16 hk0) (by decide) rfl dX8_meets_76 ?_
                refine Ex_iload_n dX8_meets_79 rfl 4 rfl ?_
                refine Ex_callVV (n := 1) (dp2 := 0) [.int p3] cvX8_157 (kn_0_1 (kn_8_16 hk0)) rfl rfl (by decide) (by decide) (Nat.le_of_ble_eq_true rfl) rfl (fun μ2 hv => c_X3_close a0 F μ_17 ((t + 16) + 1) p3 (kn_0_1 (kn_8_16 hk0)) hv) dX8_meets_80 (fun μ_38 hv_39 => ?_)
                refine Ex_goto (tgt := 120) dX8_meets_83 (by decide) ?_
                refine Ex_iload dX8_meets_120 0 rfl ?_
                exact Ex_iret dX8_meets_122 rfl (fun ty h => by cases h; rfl)
            · refine Ex_bipush (v := (-2)) dX8_meets_56 (by decide) ?_
              exact Ex_iret dX8_meets_58 rfl (fun ty h => by cases h; rfl)
        · refine Ex_iconst (v := (-1)) dX8_meets_29 (by decide) ?_
          exact Ex_iret dX8_meets_30 rfl (fun ty h => by cases h; rfl)

def f_X8_must_L60 (F : Nat) (μ : Mem) (q0 : Nat) (x2 : Int32) (x3 : Int32) (x4 : Int32) (k : Int32 → Int32 → Option (Int32)) : Nat → Int32 → Int32 → Option (Int32)
  | 0, _, _ => none
  | n + 1, x5, x6 => (if x6 < (gI μ (gR μ q0 1) 1) then (f_X7_joins F μ (gR μ q0 1) (x4 &&& ((1 <<< (x6 &&& 31)) ^^^ (-1))) x3 x2).bind (fun v_17 => (if v_17 = 0 then f_X8_must_L60 F μ q0 x2 x3 x4 k n (x5 ||| (1 <<< (x6 &&& 31))) (x6 + 1) else f_X8_must_L60 F μ q0 x2 x3 x4 k n x5 (x6 + 1))) else k x5 x6)
set_option maxRecDepth 100000 in
set_option maxHeartbeats 4000000 in
theorem c_X8_must_L60 (a0 : Nat) (F : Nat) (μ : Mem) (q0 : Nat) (x2 : Int32) (x3 : Int32) (x4 : Int32) (k : Int32 → Int32 → Option (Int32)) (hq0 : kd q0 = 8) (hk : ∀ (x5 : Int32) (x6 : Int32), Ex a0 RX8 cX8_must 7 (some .int) 3 none (fun v => (some (.int v), μ)) 108 [(5, .int x5)] [] μ (k x5 x6)) : ∀ (n : Nat) (x5 : Int32) (x6 : Int32), Ex a0 RX8 cX8_must 7 (some .int) 3 none (fun v => (some (.int v), μ)) 60 [(0, .ref (a0 + q0)), (2, .int x2), (3, .int x3), (4, .int x4), (5, .int x5), (6, .int x6)] [] μ (f_X8_must_L60 F μ q0 x2 x3 x4 k n x5 x6) := by
  intro n
  induction n with
  | zero => intro x5 x6; exact Ex_none
  | succ n ih =>
    intro x5 x6
    rw [f_X8_must_L60]
    refine Ex_iload dX8_must_60 5 rfl ?_
    refine Ex_aload_n dX8_must_62 rfl 0 rfl ?_
    refine Ex_wt (fun hw_15 => ?_)
    refine Ex_get (v := .ref (a0 + (gR μ q0 1))) fgX8_19 hq0 (by decide) rfl dX8_must_63 ?_
    refine Ex_get (v := .int (gI μ (gR μ q0 1) 1)) fgX8_216 (WT_k hw_15 hq0 (K := 8) rfl (by decide)) (by decide) rfl dX8_must_66 ?_
    refine Ex_icmp_ge (tgt := 108) dX8_must_69 (by decide) ?_ ?_
    · refine Ex_perm [4] rfl ?_
      exact hk x5 x6
    · refine Ex_aload_n dX8_must_72 rfl 0 rfl ?_
      refine Ex_wt (fun hw_16 => ?_)
      refine Ex_get (v := .ref (a0 + (gR μ q0 1))) fgX8_19 hq0 (by decide) rfl dX8_must_73 ?_
      refine Ex_iload dX8_must_76 3 rfl ?_
      refine Ex_iconst (v := 1) dX8_must_78 (by decide) ?_
      refine Ex_iload dX8_must_79 5 rfl ?_
      refine Ex_ishl dX8_must_81 ?_
      refine Ex_iconst (v := (-1)) dX8_must_82 (by decide) ?_
      refine Ex_ixor dX8_must_83 ?_
      refine Ex_iand dX8_must_84 ?_
      refine Ex_iload_n dX8_must_85 rfl 2 rfl ?_
      refine Ex_iload_n dX8_must_86 rfl 1 rfl ?_
      refine Ex_callVR (n := 3) (dp2 := 2) [.int (x4 &&& ((1 <<< (x6 &&& 31)) ^^^ (-1))), .int x3, .int x2] cvX8_213 (WT_k hw_16 hq0 (K := 8) rfl (by decide)) rfl rfl (by decide) (by decide) (Nat.le_of_ble_eq_true rfl) rfl (fun v hv => c_X7_joins a0 F μ (gR μ q0 1) (x4 &&& ((1 <<< (x6 &&& 31)) ^^^ (-1))) x3 x2 (WT_k hw_16 hq0 (K := 8) rfl (by decide)) hv) dX8_must_87 (fun v_17 hv_19 => ?_)
      refine Ex_if_ne (tgt := 102) dX8_must_90 (by decide) ?_ ?_
      · refine Ex_iinc (v := x6 + 1) (L2 := [(6, .int (x6 + 1)), (0, .ref (a0 + q0)), (2, .int x2), (3, .int x3), (4, .int x4), (5, .int x5)]) dX8_must_102 5 rfl rfl (by decide) rfl ?_
        refine Ex_goto (tgt := 60) dX8_must_105 (by decide) ?_
        refine Ex_perm [1, 2, 3, 4, 5, 0] rfl ?_
        exact ih x5 (x6 + 1)
      · refine Ex_iload dX8_must_93 4 rfl ?_
        refine Ex_iconst (v := 1) dX8_must_95 (by decide) ?_
        refine Ex_iload dX8_must_96 5 rfl ?_
        refine Ex_ishl dX8_must_98 ?_
        refine Ex_ior dX8_must_99 ?_
        refine Ex_istore (L2 := [(5, .int (x5 ||| (1 <<< (x6 &&& 31)))), (0, .ref (a0 + q0)), (2, .int x2), (3, .int x3), (4, .int x4), (6, .int x6)]) dX8_must_100 (by decide) rfl ?_
        refine Ex_iinc (v := x6 + 1) (L2 := [(6, .int (x6 + 1)), (5, .int (x5 ||| (1 <<< (x6 &&& 31)))), (0, .ref (a0 + q0)), (2, .int x2), (3, .int x3), (4, .int x4)]) dX8_must_102 5 rfl rfl (by decide) rfl ?_
        refine Ex_goto (tgt := 60) dX8_must_105 (by decide) ?_
        refine Ex_perm [2, 3, 4, 5, 1, 0] rfl ?_
        exact ih (x5 ||| (1 <<< (x6 &&& 31))) (x6 + 1)
def f_X8_must (F : Nat) (μ : Mem) (t : Nat) (p1 : Int32) (p2 : Int32) : Option (Int32) := (f_X8_noPerson F μ t p1).bind (fun v_1 => (if v_1 = 0 then (f_X8_noPlace F μ t p2).bind (fun v_4 => (if v_4 = 0 then if ix p1 5 = true then lt (gI μ (((t + 16) + 1) + 2) p1.toNatClampNeg) (fun x3_7 => (f_X8_passable F μ t p1).bind (fun v_8 => (f_X7_joins F μ (gR μ t 1) v_8 x3_7 p2).bind (fun v_12 => (if v_12 = 0 then some 0 else f_X8_must_L60 F μ t p2 x3_7 v_8 (fun x5_20 x6_21 => some x5_20) F 0 0)))) else none else some (-1))) else some (-1)))
set_option maxRecDepth 100000 in
set_option maxHeartbeats 4000000 in
theorem c_X8_must (a0 F : Nat) (μ : Mem) (t : Nat) (p1 : Int32) (p2 : Int32) (hk0 : kd t = 8) {v : Int32} (hr : f_X8_must F μ t p1 p2 = some v) : Ct a0 yX8_must cX8_must 7 (some .int) 3 [.ref (a0 + t), .int p1, .int p2] μ (some (.int v)) μ := by
  refine Ct_of (own := RX8) (ι := (fun v => (some (.int v), μ))) (o := f_X8_must F μ t p1 p2) (by decide +kernel) rfl (Nat.le_of_ble_eq_true rfl) ?_ hr rfl ⟨_, rfl⟩
  show Ex a0 RX8 cX8_must 7 (some .int) 3 none (fun v => (some (.int v), μ)) 0 [(0, .ref (a0 + t)), (1, .int p1), (2, .int p2)] [] μ (f_X8_must F μ t p1 p2)
  unfold f_X8_must
  refine Ex_aload_n dX8_must_0 rfl 0 rfl ?_
  refine Ex_iload_n dX8_must_1 rfl 1 rfl ?_
  refine Ex_callVR (n := 1) (dp2 := 0) [.int p1] cvX8_110 hk0 rfl rfl (by decide) (by decide) (Nat.le_of_ble_eq_true rfl) rfl (fun v hv => c_X8_noPerson a0 F μ t p1 hk0 hv) dX8_must_2 (fun v_1 hv_3 => ?_)
  refine Ex_if_ne (tgt := 16) dX8_must_5 (by decide) ?_ ?_
  · refine Ex_iconst (v := (-1)) dX8_must_16 (by decide) ?_
    exact Ex_iret dX8_must_17 rfl (fun ty h => by cases h; rfl)
  · refine Ex_aload_n dX8_must_8 rfl 0 rfl ?_
    refine Ex_iload_n dX8_must_9 rfl 2 rfl ?_
    refine Ex_callVR (n := 1) (dp2 := 0) [.int p2] cvX8_189 hk0 rfl rfl (by decide) (by decide) (Nat.le_of_ble_eq_true rfl) rfl (fun v hv => c_X8_noPlace a0 F μ t p2 hk0 hv) dX8_must_10 (fun v_4 hv_6 => ?_)
    refine Ex_if_eq (tgt := 18) dX8_must_13 (by decide) ?_ ?_
    · refine Ex_aload_n dX8_must_18 rfl 0 rfl ?_
      refine Ex_get (v := .ref (a0 + (t + 16))) fgX8_29 hk0 (by decide) rfl dX8_must_19 ?_
      refine Ex_get (v := .ref (a0 + ((t + 16) + 1))) fgX8_113 (kn_8_16 hk0) (by decide) rfl dX8_must_22 ?_
      refine Ex_get (v := .ref (a0 + (((t + 16) + 1) + 2))) fgX8_122 (kn_0_1 (kn_8_16 hk0)) (by decide) rfl dX8_must_25 ?_
      refine Ex_iload_n dX8_must_28 rfl 1 rfl ?_
      refine Ex_iald 5 (kn_3_2 (kn_0_1 (kn_8_16 hk0))) (by decide) dX8_must_29 ?_
      refine Ex_top (fun x3_7 => ?_)
      refine Ex_istore_n (L2 := [(3, .int x3_7), (0, .ref (a0 + t)), (1, .int p1), (2, .int p2)]) dX8_must_30 rfl (by decide) rfl ?_
      refine Ex_aload_n dX8_must_31 rfl 1 rfl ?_
      refine Ex_iload_n dX8_must_32 rfl 2 rfl ?_
      refine Ex_callVR (n := 1) (dp2 := 2) [.int p1] cvX8_192 hk0 rfl rfl (by decide) (by decide) (Nat.le_of_ble_eq_true rfl) rfl (fun v hv => c_X8_passable a0 F μ t p1 hk0 hv) dX8_must_33 (fun v_8 hv_10 => ?_)
      refine Ex_istore (L2 := [(4, .int v_8), (3, .int x3_7), (0, .ref (a0 + t)), (1, .int p1), (2, .int p2)]) dX8_must_36 (by decide) rfl ?_
      refine Ex_aload_n dX8_must_38 rfl 2 rfl ?_
      refine Ex_wt (fun hw_11 => ?_)
      refine Ex_get (v := .ref (a0 + (gR μ t 1))) fgX8_19 hk0 (by decide) rfl dX8_must_39 ?_
      refine Ex_iload dX8_must_42 0 rfl ?_
      refine Ex_iload_n dX8_must_44 rfl 1 rfl ?_
      refine Ex_iload_n dX8_must_45 rfl 4 rfl ?_
      refine Ex_callVR (n := 3) (dp2 := 2) [.int v_8, .int x3_7, .int p2] cvX8_213 (WT_k hw_11 hk0 (K := 8) rfl (by decide)) rfl rfl (by decide) (by decide) (Nat.le_of_ble_eq_true rfl) rfl (fun v hv => c_X7_joins a0 F μ (gR μ t 1) v_8 x3_7 p2 (WT_k hw_11 hk0 (K := 8) rfl (by decide)) hv) dX8_must_46 (fun v_12 hv_14 => ?_)
      refine Ex_if_ne (tgt := 54) dX8_must_49 (by decide) ?_ ?_
      · refine Ex_iconst (v := 0) dX8_must_54 (by decide) ?_
        refine Ex_istore (L2 := [(5, .int 0), (4, .int v_8), (3, .int x3_7), (0, .ref (a0 + t)), (1, .int p1), (2, .int p2)]) dX8_must_55 (by decide) rfl ?_
        refine Ex_iconst (v := 0) dX8_must_57 (by decide) ?_
        refine Ex_istore (L2 := [(6, .int 0), (5, .int 0), (4, .int v_8), (3, .int x3_7), (0, .ref (a0 + t)), (1, .int p1), (2, .int p2)]) dX8_must_58 (by decide) rfl ?_
        refine Ex_perm [4, 6, 3, 2, 1, 0] rfl ?_
        refine c_X8_must_L60 a0 F μ t p2 x3_7 v_8 _ hk0 (fun x5_20 x6_21 => ?_) F 0 0
        refine Ex_iload dX8_must_108 0 rfl ?_
        exact Ex_iret dX8_must_110 rfl (fun ty h => by cases h; rfl)
      · refine Ex_iconst (v := 0) dX8_must_52 (by decide) ?_
        exact Ex_iret dX8_must_53 rfl (fun ty h => by cases h; rfl)
    · refine Ex_iconst (v := (-1)) dX8_must_16 (by decide) ?_
      exact Ex_iret dX8_must_17 rfl (fun ty h => by cases h; rfl)

def f_X8_widenessWithout_L4 (F : Nat) (μ : Mem) (q0 : Nat) (x1 : Int32) (k : Int32 → Int32 → Option (Int32)) : Nat → Int32 → Int32 → Option (Int32)
  | 0, _, _ => none
  | n + 1, x2, x3 => (if x3 < (gI μ (gR μ q0 1) 5) then (if ((x1 >>> (x3 &&& 31)) &&& 1) = 0 then (f_X8_wideness F μ q0 x3).bind (fun v_2 => f_X8_widenessWithout_L4 F μ q0 x1 k n (x2 + v_2) (x3 + 1)) else f_X8_widenessWithout_L4 F μ q0 x1 k n (x2 + (gI μ (gR μ q0 1) 8)) (x3 + 1)) else k x2 x3)
set_option maxRecDepth 100000 in
set_option maxHeartbeats 4000000 in
theorem c_X8_widenessWithout_L4 (a0 : Nat) (F : Nat) (μ : Mem) (q0 : Nat) (x1 : Int32) (k : Int32 → Int32 → Option (Int32)) (hq0 : kd q0 = 8) (hk : ∀ (x2 : Int32) (x3 : Int32), Ex a0 RX8 cX8_widenessWithout 4 (some .int) 1 none (fun v => (some (.int v), μ)) 47 [(2, .int x2)] [] μ (k x2 x3)) : ∀ (n : Nat) (x2 : Int32) (x3 : Int32), Ex a0 RX8 cX8_widenessWithout 4 (some .int) 1 none (fun v => (some (.int v), μ)) 4 [(0, .ref (a0 + q0)), (1, .int x1), (2, .int x2), (3, .int x3)] [] μ (f_X8_widenessWithout_L4 F μ q0 x1 k n x2 x3) := by
  intro n
  induction n with
  | zero => intro x2 x3; exact Ex_none
  | succ n ih =>
    intro x2 x3
    rw [f_X8_widenessWithout_L4]
    refine Ex_iload_n dX8_widenessWithout_4 rfl 3 rfl ?_
    refine Ex_aload_n dX8_widenessWithout_5 rfl 0 rfl ?_
    refine Ex_wt (fun hw_1 => ?_)
    refine Ex_get (v := .ref (a0 + (gR μ q0 1))) fgX8_19 hq0 (by decide) rfl dX8_widenessWithout_6 ?_
    refine Ex_get (v := .int (gI μ (gR μ q0 1) 5)) fgX8_232 (WT_k hw_1 hq0 (K := 8) rfl (by decide)) (by decide) rfl dX8_widenessWithout_9 ?_
    refine Ex_icmp_ge (tgt := 47) dX8_widenessWithout_12 (by decide) ?_ ?_
    · refine Ex_perm [2] rfl ?_
      exact hk x2 x3
    · refine Ex_iload_n dX8_widenessWithout_15 rfl 2 rfl ?_
      refine Ex_iload_n dX8_widenessWithout_16 rfl 1 rfl ?_
      refine Ex_iload_n dX8_widenessWithout_17 rfl 3 rfl ?_
      refine Ex_ishr dX8_widenessWithout_18 ?_
      refine Ex_iconst (v := 1) dX8_widenessWithout_19 (by decide) ?_
      refine Ex_iand dX8_widenessWithout_20 ?_
      refine Ex_if_eq (tgt := 34) dX8_widenessWithout_21 (by decide) ?_ ?_
      · refine Ex_aload_n dX8_widenessWithout_34 rfl 0 rfl ?_
        refine Ex_iload_n dX8_widenessWithout_35 rfl 3 rfl ?_
        refine Ex_callVR (n := 1) (dp2 := 0) [.int x3] cvX8_125 hq0 rfl rfl (by decide) (by decide) (Nat.le_of_ble_eq_true rfl) rfl (fun v hv => c_X8_wideness a0 F μ q0 x3 hq0 hv) dX8_widenessWithout_36 (fun v_2 hv_4 => ?_)
        refine Ex_iadd dX8_widenessWithout_39 ?_
        refine Ex_istore_n (L2 := [(2, .int (x2 + v_2)), (0, .ref (a0 + q0)), (1, .int x1), (3, .int x3)]) dX8_widenessWithout_40 rfl (by decide) rfl ?_
        refine Ex_iinc (v := x3 + 1) (L2 := [(3, .int (x3 + 1)), (2, .int (x2 + v_2)), (0, .ref (a0 + q0)), (1, .int x1)]) dX8_widenessWithout_41 3 rfl rfl (by decide) rfl ?_
        refine Ex_goto (tgt := 4) dX8_widenessWithout_44 (by decide) ?_
        refine Ex_perm [2, 3, 1, 0] rfl ?_
        exact ih (x2 + v_2) (x3 + 1)
      · refine Ex_aload_n dX8_widenessWithout_24 rfl 0 rfl ?_
        refine Ex_wt (fun hw_5 => ?_)
        refine Ex_get (v := .ref (a0 + (gR μ q0 1))) fgX8_19 hq0 (by decide) rfl dX8_widenessWithout_25 ?_
        refine Ex_get (v := .int (gI μ (gR μ q0 1) 8)) fgX8_283 (WT_k hw_5 hq0 (K := 8) rfl (by decide)) (by decide) rfl dX8_widenessWithout_28 ?_
        refine Ex_goto (tgt := 39) dX8_widenessWithout_31 (by decide) ?_
        refine Ex_iadd dX8_widenessWithout_39 ?_
        refine Ex_istore_n (L2 := [(2, .int (x2 + (gI μ (gR μ q0 1) 8))), (0, .ref (a0 + q0)), (1, .int x1), (3, .int x3)]) dX8_widenessWithout_40 rfl (by decide) rfl ?_
        refine Ex_iinc (v := x3 + 1) (L2 := [(3, .int (x3 + 1)), (2, .int (x2 + (gI μ (gR μ q0 1) 8))), (0, .ref (a0 + q0)), (1, .int x1)]) dX8_widenessWithout_41 3 rfl rfl (by decide) rfl ?_
        refine Ex_goto (tgt := 4) dX8_widenessWithout_44 (by decide) ?_
        refine Ex_perm [2, 3, 1, 0] rfl ?_
        exact ih (x2 + (gI μ (gR μ q0 1) 8)) (x3 + 1)
def f_X8_widenessWithout (F : Nat) (μ : Mem) (t : Nat) (p1 : Int32) : Option (Int32) := f_X8_widenessWithout_L4 F μ t p1 (fun x2_6 x3_7 => some x2_6) F 0 0
set_option maxRecDepth 100000 in
set_option maxHeartbeats 4000000 in
theorem c_X8_widenessWithout (a0 F : Nat) (μ : Mem) (t : Nat) (p1 : Int32) (hk0 : kd t = 8) {v : Int32} (hr : f_X8_widenessWithout F μ t p1 = some v) : Ct a0 yX8_widenessWithout cX8_widenessWithout 4 (some .int) 1 [.ref (a0 + t), .int p1] μ (some (.int v)) μ := by
  refine Ct_of (own := RX8) (ι := (fun v => (some (.int v), μ))) (o := f_X8_widenessWithout F μ t p1) (by decide +kernel) rfl (Nat.le_of_ble_eq_true rfl) ?_ hr rfl ⟨_, rfl⟩
  show Ex a0 RX8 cX8_widenessWithout 4 (some .int) 1 none (fun v => (some (.int v), μ)) 0 [(0, .ref (a0 + t)), (1, .int p1)] [] μ (f_X8_widenessWithout F μ t p1)
  unfold f_X8_widenessWithout
  refine Ex_iconst (v := 0) dX8_widenessWithout_0 (by decide) ?_
  refine Ex_istore_n (L2 := [(2, .int 0), (0, .ref (a0 + t)), (1, .int p1)]) dX8_widenessWithout_1 rfl (by decide) rfl ?_
  refine Ex_iconst (v := 0) dX8_widenessWithout_2 (by decide) ?_
  refine Ex_istore_n (L2 := [(3, .int 0), (2, .int 0), (0, .ref (a0 + t)), (1, .int p1)]) dX8_widenessWithout_3 rfl (by decide) rfl ?_
  refine Ex_perm [2, 3, 1, 0] rfl ?_
  refine c_X8_widenessWithout_L4 a0 F μ t p1 _ hk0 (fun x2_6 x3_7 => ?_) F 0 0
  refine Ex_iload_n dX8_widenessWithout_47 rfl 0 rfl ?_
  exact Ex_iret dX8_widenessWithout_48 rfl (fun ty h => by cases h; rfl)

def f_X8_narrow_L15 (F : Nat) (μ : Mem) (q0 : Nat) (x1 : Int32) (k : Int32 → Int32 → Option (Int32)) : Nat → Int32 → Int32 → Option (Int32)
  | 0, _, _ => none
  | n + 1, x2, x3 => (if x3 < (1 <<< ((gI μ (gR μ q0 1) 5) &&& 31)) then (if x2 = (-9) then (f_X8_widenessWithout F μ q0 x3).bind (fun v_5 => if ix x1 8 = true then (if (gI μ ((gR μ q0 1) + 3) x1.toNatClampNeg) < v_5 then f_X8_narrow_L15 F μ q0 x1 k n x2 (x3 + 1) else f_X8_narrow_L15 F μ q0 x1 k n x3 (x3 + 1)) else none) else (f_J_bitCount F μ x3).bind (fun v_9 => (f_J_bitCount F μ x2).bind (fun v_12 => (if v_9 < v_12 then (f_X8_widenessWithout F μ q0 x3).bind (fun v_15 => if ix x1 8 = true then (if (gI μ ((gR μ q0 1) + 3) x1.toNatClampNeg) < v_15 then f_X8_narrow_L15 F μ q0 x1 k n x2 (x3 + 1) else f_X8_narrow_L15 F μ q0 x1 k n x3 (x3 + 1)) else none) else f_X8_narrow_L15 F μ q0 x1 k n x2 (x3 + 1))))) else k x2 x3)
set_option maxRecDepth 100000 in
set_option maxHeartbeats 4000000 in
theorem c_X8_narrow_L15 (a0 : Nat) (F : Nat) (μ : Mem) (q0 : Nat) (x1 : Int32) (k : Int32 → Int32 → Option (Int32)) (hq0 : kd q0 = 8) (hk : ∀ (x2 : Int32) (x3 : Int32), Ex a0 RX8 cX8_narrow 5 (some .int) 2 none (fun v => (some (.int v), μ)) 82 [(2, .int x2)] [] μ (k x2 x3)) : ∀ (n : Nat) (x2 : Int32) (x3 : Int32), Ex a0 RX8 cX8_narrow 5 (some .int) 2 none (fun v => (some (.int v), μ)) 15 [(0, .ref (a0 + q0)), (1, .int x1), (2, .int x2), (3, .int x3)] [] μ (f_X8_narrow_L15 F μ q0 x1 k n x2 x3) := by
  intro n
  induction n with
  | zero => intro x2 x3; exact Ex_none
  | succ n ih =>
    intro x2 x3
    rw [f_X8_narrow_L15]
    refine Ex_iload_n dX8_narrow_15 rfl 3 rfl ?_
    refine Ex_iconst (v := 1) dX8_narrow_16 (by decide) ?_
    refine Ex_aload_n dX8_narrow_17 rfl 0 rfl ?_
    refine Ex_wt (fun hw_4 => ?_)
    refine Ex_get (v := .ref (a0 + (gR μ q0 1))) fgX8_19 hq0 (by decide) rfl dX8_narrow_18 ?_
    refine Ex_get (v := .int (gI μ (gR μ q0 1) 5)) fgX8_232 (WT_k hw_4 hq0 (K := 8) rfl (by decide)) (by decide) rfl dX8_narrow_21 ?_
    refine Ex_ishl dX8_narrow_24 ?_
    refine Ex_icmp_ge (tgt := 82) dX8_narrow_25 (by decide) ?_ ?_
    · refine Ex_perm [2] rfl ?_
      exact hk x2 x3
    · refine Ex_iload_n dX8_narrow_28 rfl 2 rfl ?_
      refine Ex_bipush (v := (-9)) dX8_narrow_29 (by decide) ?_
      refine Ex_icmp_eq (tgt := 45) dX8_narrow_31 (by decide) ?_ ?_
      · refine Ex_iconst (v := 1) dX8_narrow_45 (by decide) ?_
        refine Ex_goto (tgt := 50) dX8_narrow_46 (by decide) ?_
        refine Ex_istore (L2 := [(4, .int 1), (0, .ref (a0 + q0)), (1, .int x1), (2, .int x2), (3, .int x3)]) dX8_narrow_50 (by decide) rfl ?_
        refine Ex_iload dX8_narrow_52 0 rfl ?_
        refine Ex_if_eqF (tgt := 76) dX8_narrow_54 (by decide) (by decide) ?_
        refine Ex_aload_n dX8_narrow_57 rfl 1 rfl ?_
        refine Ex_iload_n dX8_narrow_58 rfl 4 rfl ?_
        refine Ex_callVR (n := 1) (dp2 := 1) [.int x3] cvX8_246 hq0 rfl rfl (by decide) (by decide) (Nat.le_of_ble_eq_true rfl) rfl (fun v hv => c_X8_widenessWithout a0 F μ q0 x3 hq0 hv) dX8_narrow_59 (fun v_5 hv_7 => ?_)
        refine Ex_aload_n dX8_narrow_62 rfl 1 rfl ?_
        refine Ex_wt (fun hw_8 => ?_)
        refine Ex_get (v := .ref (a0 + (gR μ q0 1))) fgX8_19 hq0 (by decide) rfl dX8_narrow_63 ?_
        refine Ex_get (v := .ref (a0 + ((gR μ q0 1) + 3))) fgX8_104 (WT_k hw_8 hq0 (K := 8) rfl (by decide)) (by decide) rfl dX8_narrow_66 ?_
        refine Ex_iload_n dX8_narrow_69 rfl 2 rfl ?_
        refine Ex_iald 8 (kn_7_3 (WT_k hw_8 hq0 (K := 8) rfl (by decide))) (by decide) dX8_narrow_70 ?_
        refine Ex_icmp_gt (tgt := 76) dX8_narrow_71 (by decide) ?_ ?_
        · refine Ex_iinc (v := x3 + 1) (L2 := [(3, .int (x3 + 1)), (4, .int 1), (0, .ref (a0 + q0)), (1, .int x1), (2, .int x2)]) dX8_narrow_76 4 rfl rfl (by decide) rfl ?_
          refine Ex_goto (tgt := 15) dX8_narrow_79 (by decide) ?_
          refine Ex_perm [2, 3, 4, 0] rfl ?_
          exact ih x2 (x3 + 1)
        · refine Ex_iload_n dX8_narrow_74 rfl 4 rfl ?_
          refine Ex_istore_n (L2 := [(2, .int x3), (4, .int 1), (0, .ref (a0 + q0)), (1, .int x1), (3, .int x3)]) dX8_narrow_75 rfl (by decide) rfl ?_
          refine Ex_iinc (v := x3 + 1) (L2 := [(3, .int (x3 + 1)), (2, .int x3), (4, .int 1), (0, .ref (a0 + q0)), (1, .int x1)]) dX8_narrow_76 4 rfl rfl (by decide) rfl ?_
          refine Ex_goto (tgt := 15) dX8_narrow_79 (by decide) ?_
          refine Ex_perm [3, 4, 1, 0] rfl ?_
          exact ih x3 (x3 + 1)
      · refine Ex_iload_n dX8_narrow_34 rfl 3 rfl ?_
        refine Ex_callSR (n := 1) (dp2 := 0) [.int x3] cvX8_219 rfl (by decide) (by decide) (Nat.le_of_ble_eq_true rfl) rfl (fun v hv => c_J_bitCount a0 F μ x3 hv) dX8_narrow_35 (fun v_9 hv_11 => ?_)
        refine Ex_iload_n dX8_narrow_38 rfl 2 rfl ?_
        refine Ex_callSR (n := 1) (dp2 := 0) [.int x2] cvX8_219 rfl (by decide) (by decide) (Nat.le_of_ble_eq_true rfl) rfl (fun v hv => c_J_bitCount a0 F μ x2 hv) dX8_narrow_39 (fun v_12 hv_14 => ?_)
        refine Ex_icmp_ge (tgt := 49) dX8_narrow_42 (by decide) ?_ ?_
        · refine Ex_iconst (v := 0) dX8_narrow_49 (by decide) ?_
          refine Ex_istore (L2 := [(4, .int 0), (0, .ref (a0 + q0)), (1, .int x1), (2, .int x2), (3, .int x3)]) dX8_narrow_50 (by decide) rfl ?_
          refine Ex_iload dX8_narrow_52 0 rfl ?_
          refine Ex_if_eqT (tgt := 76) dX8_narrow_54 (by decide) (by decide) ?_
          refine Ex_iinc (v := x3 + 1) (L2 := [(3, .int (x3 + 1)), (4, .int 0), (0, .ref (a0 + q0)), (1, .int x1), (2, .int x2)]) dX8_narrow_76 4 rfl rfl (by decide) rfl ?_
          refine Ex_goto (tgt := 15) dX8_narrow_79 (by decide) ?_
          refine Ex_perm [2, 3, 4, 0] rfl ?_
          exact ih x2 (x3 + 1)
        · refine Ex_iconst (v := 1) dX8_narrow_45 (by decide) ?_
          refine Ex_goto (tgt := 50) dX8_narrow_46 (by decide) ?_
          refine Ex_istore (L2 := [(4, .int 1), (0, .ref (a0 + q0)), (1, .int x1), (2, .int x2), (3, .int x3)]) dX8_narrow_50 (by decide) rfl ?_
          refine Ex_iload dX8_narrow_52 0 rfl ?_
          refine Ex_if_eqF (tgt := 76) dX8_narrow_54 (by decide) (by decide) ?_
          refine Ex_aload_n dX8_narrow_57 rfl 1 rfl ?_
          refine Ex_iload_n dX8_narrow_58 rfl 4 rfl ?_
          refine Ex_callVR (n := 1) (dp2 := 1) [.int x3] cvX8_246 hq0 rfl rfl (by decide) (by decide) (Nat.le_of_ble_eq_true rfl) rfl (fun v hv => c_X8_widenessWithout a0 F μ q0 x3 hq0 hv) dX8_narrow_59 (fun v_15 hv_17 => ?_)
          refine Ex_aload_n dX8_narrow_62 rfl 1 rfl ?_
          refine Ex_wt (fun hw_18 => ?_)
          refine Ex_get (v := .ref (a0 + (gR μ q0 1))) fgX8_19 hq0 (by decide) rfl dX8_narrow_63 ?_
          refine Ex_get (v := .ref (a0 + ((gR μ q0 1) + 3))) fgX8_104 (WT_k hw_18 hq0 (K := 8) rfl (by decide)) (by decide) rfl dX8_narrow_66 ?_
          refine Ex_iload_n dX8_narrow_69 rfl 2 rfl ?_
          refine Ex_iald 8 (kn_7_3 (WT_k hw_18 hq0 (K := 8) rfl (by decide))) (by decide) dX8_narrow_70 ?_
          refine Ex_icmp_gt (tgt := 76) dX8_narrow_71 (by decide) ?_ ?_
          · refine Ex_iinc (v := x3 + 1) (L2 := [(3, .int (x3 + 1)), (4, .int 1), (0, .ref (a0 + q0)), (1, .int x1), (2, .int x2)]) dX8_narrow_76 4 rfl rfl (by decide) rfl ?_
            refine Ex_goto (tgt := 15) dX8_narrow_79 (by decide) ?_
            refine Ex_perm [2, 3, 4, 0] rfl ?_
            exact ih x2 (x3 + 1)
          · refine Ex_iload_n dX8_narrow_74 rfl 4 rfl ?_
            refine Ex_istore_n (L2 := [(2, .int x3), (4, .int 1), (0, .ref (a0 + q0)), (1, .int x1), (3, .int x3)]) dX8_narrow_75 rfl (by decide) rfl ?_
            refine Ex_iinc (v := x3 + 1) (L2 := [(3, .int (x3 + 1)), (2, .int x3), (4, .int 1), (0, .ref (a0 + q0)), (1, .int x1)]) dX8_narrow_76 4 rfl rfl (by decide) rfl ?_
            refine Ex_goto (tgt := 15) dX8_narrow_79 (by decide) ?_
            refine Ex_perm [3, 4, 1, 0] rfl ?_
            exact ih x3 (x3 + 1)
def f_X8_narrow (F : Nat) (μ : Mem) (t : Nat) (p1 : Int32) : Option (Int32) := (f_X8_noLane F μ t p1).bind (fun v_1 => (if v_1 = 0 then f_X8_narrow_L15 F μ t p1 (fun x2_19 x3_20 => some x2_19) F (-9) 0 else some (-1)))
set_option maxRecDepth 100000 in
set_option maxHeartbeats 4000000 in
theorem c_X8_narrow (a0 F : Nat) (μ : Mem) (t : Nat) (p1 : Int32) (hk0 : kd t = 8) {v : Int32} (hr : f_X8_narrow F μ t p1 = some v) : Ct a0 yX8_narrow cX8_narrow 5 (some .int) 2 [.ref (a0 + t), .int p1] μ (some (.int v)) μ := by
  refine Ct_of (own := RX8) (ι := (fun v => (some (.int v), μ))) (o := f_X8_narrow F μ t p1) (by decide +kernel) rfl (Nat.le_of_ble_eq_true rfl) ?_ hr rfl ⟨_, rfl⟩
  show Ex a0 RX8 cX8_narrow 5 (some .int) 2 none (fun v => (some (.int v), μ)) 0 [(0, .ref (a0 + t)), (1, .int p1)] [] μ (f_X8_narrow F μ t p1)
  unfold f_X8_narrow
  refine Ex_aload_n dX8_narrow_0 rfl 0 rfl ?_
  refine Ex_iload_n dX8_narrow_1 rfl 1 rfl ?_
  refine Ex_callVR (n := 1) (dp2 := 0) [.int p1] cvX8_94 hk0 rfl rfl (by decide) (by decide) (Nat.le_of_ble_eq_true rfl) rfl (fun v hv => c_X8_noLane a0 F μ t p1 hk0 hv) dX8_narrow_2 (fun v_1 hv_3 => ?_)
  refine Ex_if_eq (tgt := 10) dX8_narrow_5 (by decide) ?_ ?_
  · refine Ex_bipush (v := (-9)) dX8_narrow_10 (by decide) ?_
    refine Ex_istore_n (L2 := [(2, .int (-9)), (0, .ref (a0 + t)), (1, .int p1)]) dX8_narrow_12 rfl (by decide) rfl ?_
    refine Ex_iconst (v := 0) dX8_narrow_13 (by decide) ?_
    refine Ex_istore_n (L2 := [(3, .int 0), (2, .int (-9)), (0, .ref (a0 + t)), (1, .int p1)]) dX8_narrow_14 rfl (by decide) rfl ?_
    refine Ex_perm [2, 3, 1, 0] rfl ?_
    refine c_X8_narrow_L15 a0 F μ t p1 _ hk0 (fun x2_19 x3_20 => ?_) F (-9) 0
    refine Ex_iload_n dX8_narrow_82 rfl 0 rfl ?_
    exact Ex_iret dX8_narrow_83 rfl (fun ty h => by cases h; rfl)
  · refine Ex_iconst (v := (-1)) dX8_narrow_8 (by decide) ?_
    exact Ex_iret dX8_narrow_9 rfl (fun ty h => by cases h; rfl)

def f_X8_sum_L4 (F : Nat) (μ : Mem) (q0 : Nat) (q1 : Nat) (k : Int32 → Int32 → Option (Int32)) : Nat → Int32 → Int32 → Option (Int32)
  | 0, _, _ => none
  | n + 1, x2, x3 => (if x3 < (gI μ (gR μ q0 1) 5) then if ix x3 5 = true then lt (x2 + (gI μ q1 x3.toNatClampNeg)) (fun x2_2 => f_X8_sum_L4 F μ q0 q1 k n x2_2 (x3 + 1)) else none else k x2 x3)
set_option maxRecDepth 100000 in
set_option maxHeartbeats 4000000 in
theorem c_X8_sum_L4 (a0 : Nat) (F : Nat) (μ : Mem) (q0 : Nat) (q1 : Nat) (k : Int32 → Int32 → Option (Int32)) (hq0 : kd q0 = 8) (hq1 : kd q1 = 1005) (hk : ∀ (x2 : Int32) (x3 : Int32), Ex a0 RX8 cX8_sum 4 (some .int) 0 none (fun v => (some (.int v), μ)) 27 [(2, .int x2)] [] μ (k x2 x3)) : ∀ (n : Nat) (x2 : Int32) (x3 : Int32), Ex a0 RX8 cX8_sum 4 (some .int) 0 none (fun v => (some (.int v), μ)) 4 [(0, .ref (a0 + q0)), (1, .ref (a0 + q1)), (2, .int x2), (3, .int x3)] [] μ (f_X8_sum_L4 F μ q0 q1 k n x2 x3) := by
  intro n
  induction n with
  | zero => intro x2 x3; exact Ex_none
  | succ n ih =>
    intro x2 x3
    rw [f_X8_sum_L4]
    refine Ex_iload_n dX8_sum_4 rfl 3 rfl ?_
    refine Ex_aload_n dX8_sum_5 rfl 0 rfl ?_
    refine Ex_wt (fun hw_1 => ?_)
    refine Ex_get (v := .ref (a0 + (gR μ q0 1))) fgX8_19 hq0 (by decide) rfl dX8_sum_6 ?_
    refine Ex_get (v := .int (gI μ (gR μ q0 1) 5)) fgX8_232 (WT_k hw_1 hq0 (K := 8) rfl (by decide)) (by decide) rfl dX8_sum_9 ?_
    refine Ex_icmp_ge (tgt := 27) dX8_sum_12 (by decide) ?_ ?_
    · refine Ex_perm [2] rfl ?_
      exact hk x2 x3
    · refine Ex_iload_n dX8_sum_15 rfl 2 rfl ?_
      refine Ex_aload_n dX8_sum_16 rfl 1 rfl ?_
      refine Ex_iload_n dX8_sum_17 rfl 3 rfl ?_
      refine Ex_iald 5 hq1 (by decide) dX8_sum_18 ?_
      refine Ex_iadd dX8_sum_19 ?_
      refine Ex_top (fun x2_2 => ?_)
      refine Ex_istore_n (L2 := [(2, .int x2_2), (0, .ref (a0 + q0)), (1, .ref (a0 + q1)), (3, .int x3)]) dX8_sum_20 rfl (by decide) rfl ?_
      refine Ex_iinc (v := x3 + 1) (L2 := [(3, .int (x3 + 1)), (2, .int x2_2), (0, .ref (a0 + q0)), (1, .ref (a0 + q1))]) dX8_sum_21 3 rfl rfl (by decide) rfl ?_
      refine Ex_goto (tgt := 4) dX8_sum_24 (by decide) ?_
      refine Ex_perm [2, 3, 1, 0] rfl ?_
      exact ih x2_2 (x3 + 1)
def f_X8_sum (F : Nat) (μ : Mem) (t : Nat) (p1 : Nat) : Option (Int32) := f_X8_sum_L4 F μ t p1 (fun x2_3 x3_4 => some x2_3) F 0 0
set_option maxRecDepth 100000 in
set_option maxHeartbeats 4000000 in
theorem c_X8_sum (a0 F : Nat) (μ : Mem) (t : Nat) (p1 : Nat) (hk0 : kd t = 8) (hk1 : kd p1 = 1005) {v : Int32} (hr : f_X8_sum F μ t p1 = some v) : Ct a0 yX8_sum cX8_sum 4 (some .int) 0 [.ref (a0 + t), .ref (a0 + p1)] μ (some (.int v)) μ := by
  refine Ct_of (own := RX8) (ι := (fun v => (some (.int v), μ))) (o := f_X8_sum F μ t p1) (by decide +kernel) rfl (Nat.le_of_ble_eq_true rfl) ?_ hr rfl ⟨_, rfl⟩
  show Ex a0 RX8 cX8_sum 4 (some .int) 0 none (fun v => (some (.int v), μ)) 0 [(0, .ref (a0 + t)), (1, .ref (a0 + p1))] [] μ (f_X8_sum F μ t p1)
  unfold f_X8_sum
  refine Ex_iconst (v := 0) dX8_sum_0 (by decide) ?_
  refine Ex_istore_n (L2 := [(2, .int 0), (0, .ref (a0 + t)), (1, .ref (a0 + p1))]) dX8_sum_1 rfl (by decide) rfl ?_
  refine Ex_iconst (v := 0) dX8_sum_2 (by decide) ?_
  refine Ex_istore_n (L2 := [(3, .int 0), (2, .int 0), (0, .ref (a0 + t)), (1, .ref (a0 + p1))]) dX8_sum_3 rfl (by decide) rfl ?_
  refine Ex_perm [2, 3, 1, 0] rfl ?_
  refine c_X8_sum_L4 a0 F μ t p1 _ hk0 hk1 (fun x2_3 x3_4 => ?_) F 0 0
  refine Ex_iload_n dX8_sum_27 rfl 0 rfl ?_
  exact Ex_iret dX8_sum_28 rfl (fun ty h => by cases h; rfl)

def f_X8_padded_L4 (F : Nat) (μ : Mem) (q0 : Nat) (k : Int32 → Int32 → Option (Int32)) : Nat → Int32 → Int32 → Option (Int32)
  | 0, _, _ => none
  | n + 1, x1, x2 => (if x2 < (gI μ (gR μ q0 1) 5) then (f_X8_fitting F μ q0 x2).bind (fun v_2 => if ix x2 5 = true then (if ((v_2 >>> ((gI μ (((q0 + 16) + 1) + 1) x2.toNatClampNeg) &&& 31)) &&& 1) = 0 then f_X8_padded_L4 F μ q0 k n (x1 ||| (1 <<< (x2 &&& 31))) (x2 + 1) else f_X8_padded_L4 F μ q0 k n x1 (x2 + 1)) else none) else k x1 x2)
set_option maxRecDepth 100000 in
set_option maxHeartbeats 4000000 in
theorem c_X8_padded_L4 (a0 : Nat) (F : Nat) (μ : Mem) (q0 : Nat) (k : Int32 → Int32 → Option (Int32)) (hq0 : kd q0 = 8) (hk : ∀ (x1 : Int32) (x2 : Int32), Ex a0 RX8 cX8_padded 3 (some .int) 3 none (fun v => (some (.int v), μ)) 50 [(1, .int x1)] [] μ (k x1 x2)) : ∀ (n : Nat) (x1 : Int32) (x2 : Int32), Ex a0 RX8 cX8_padded 3 (some .int) 3 none (fun v => (some (.int v), μ)) 4 [(0, .ref (a0 + q0)), (1, .int x1), (2, .int x2)] [] μ (f_X8_padded_L4 F μ q0 k n x1 x2) := by
  intro n
  induction n with
  | zero => intro x1 x2; exact Ex_none
  | succ n ih =>
    intro x1 x2
    rw [f_X8_padded_L4]
    refine Ex_iload_n dX8_padded_4 rfl 2 rfl ?_
    refine Ex_aload_n dX8_padded_5 rfl 0 rfl ?_
    refine Ex_wt (fun hw_1 => ?_)
    refine Ex_get (v := .ref (a0 + (gR μ q0 1))) fgX8_19 hq0 (by decide) rfl dX8_padded_6 ?_
    refine Ex_get (v := .int (gI μ (gR μ q0 1) 5)) fgX8_232 (WT_k hw_1 hq0 (K := 8) rfl (by decide)) (by decide) rfl dX8_padded_9 ?_
    refine Ex_icmp_ge (tgt := 50) dX8_padded_12 (by decide) ?_ ?_
    · refine Ex_perm [1] rfl ?_
      exact hk x1 x2
    · refine Ex_aload_n dX8_padded_15 rfl 0 rfl ?_
      refine Ex_iload_n dX8_padded_16 rfl 2 rfl ?_
      refine Ex_callVR (n := 1) (dp2 := 2) [.int x2] cvX8_254 hq0 rfl rfl (by decide) (by decide) (Nat.le_of_ble_eq_true rfl) rfl (fun v hv => c_X8_fitting a0 F μ q0 x2 hq0 hv) dX8_padded_17 (fun v_2 hv_4 => ?_)
      refine Ex_aload_n dX8_padded_20 rfl 0 rfl ?_
      refine Ex_get (v := .ref (a0 + (q0 + 16))) fgX8_29 hq0 (by decide) rfl dX8_padded_21 ?_
      refine Ex_get (v := .ref (a0 + ((q0 + 16) + 1))) fgX8_113 (kn_8_16 hq0) (by decide) rfl dX8_padded_24 ?_
      refine Ex_get (v := .ref (a0 + (((q0 + 16) + 1) + 1))) fgX8_117 (kn_0_1 (kn_8_16 hq0)) (by decide) rfl dX8_padded_27 ?_
      refine Ex_iload_n dX8_padded_30 rfl 2 rfl ?_
      refine Ex_iald 5 (kn_3_1 (kn_0_1 (kn_8_16 hq0))) (by decide) dX8_padded_31 ?_
      refine Ex_ishr dX8_padded_32 ?_
      refine Ex_iconst (v := 1) dX8_padded_33 (by decide) ?_
      refine Ex_iand dX8_padded_34 ?_
      refine Ex_if_ne (tgt := 44) dX8_padded_35 (by decide) ?_ ?_
      · refine Ex_iinc (v := x2 + 1) (L2 := [(2, .int (x2 + 1)), (0, .ref (a0 + q0)), (1, .int x1)]) dX8_padded_44 2 rfl rfl (by decide) rfl ?_
        refine Ex_goto (tgt := 4) dX8_padded_47 (by decide) ?_
        refine Ex_perm [1, 2, 0] rfl ?_
        exact ih x1 (x2 + 1)
      · refine Ex_iload_n dX8_padded_38 rfl 1 rfl ?_
        refine Ex_iconst (v := 1) dX8_padded_39 (by decide) ?_
        refine Ex_iload_n dX8_padded_40 rfl 2 rfl ?_
        refine Ex_ishl dX8_padded_41 ?_
        refine Ex_ior dX8_padded_42 ?_
        refine Ex_istore_n (L2 := [(1, .int (x1 ||| (1 <<< (x2 &&& 31)))), (0, .ref (a0 + q0)), (2, .int x2)]) dX8_padded_43 rfl (by decide) rfl ?_
        refine Ex_iinc (v := x2 + 1) (L2 := [(2, .int (x2 + 1)), (1, .int (x1 ||| (1 <<< (x2 &&& 31)))), (0, .ref (a0 + q0))]) dX8_padded_44 2 rfl rfl (by decide) rfl ?_
        refine Ex_goto (tgt := 4) dX8_padded_47 (by decide) ?_
        refine Ex_perm [2, 1, 0] rfl ?_
        exact ih (x1 ||| (1 <<< (x2 &&& 31))) (x2 + 1)
def f_X8_padded (F : Nat) (μ : Mem) (t : Nat) : Option (Int32) := f_X8_padded_L4 F μ t (fun x1_5 x2_6 => some x1_5) F 0 0
set_option maxRecDepth 100000 in
set_option maxHeartbeats 4000000 in
theorem c_X8_padded (a0 F : Nat) (μ : Mem) (t : Nat) (hk0 : kd t = 8) {v : Int32} (hr : f_X8_padded F μ t = some v) : Ct a0 yX8_padded cX8_padded 3 (some .int) 3 [.ref (a0 + t)] μ (some (.int v)) μ := by
  refine Ct_of (own := RX8) (ι := (fun v => (some (.int v), μ))) (o := f_X8_padded F μ t) (by decide +kernel) rfl (Nat.le_of_ble_eq_true rfl) ?_ hr rfl ⟨_, rfl⟩
  show Ex a0 RX8 cX8_padded 3 (some .int) 3 none (fun v => (some (.int v), μ)) 0 [(0, .ref (a0 + t))] [] μ (f_X8_padded F μ t)
  unfold f_X8_padded
  refine Ex_iconst (v := 0) dX8_padded_0 (by decide) ?_
  refine Ex_istore_n (L2 := [(1, .int 0), (0, .ref (a0 + t))]) dX8_padded_1 rfl (by decide) rfl ?_
  refine Ex_iconst (v := 0) dX8_padded_2 (by decide) ?_
  refine Ex_istore_n (L2 := [(2, .int 0), (1, .int 0), (0, .ref (a0 + t))]) dX8_padded_3 rfl (by decide) rfl ?_
  refine Ex_perm [2, 1, 0] rfl ?_
  refine c_X8_padded_L4 a0 F μ t _ hk0 (fun x1_5 x2_6 => ?_) F 0 0
  refine Ex_iload_n dX8_padded_50 rfl 0 rfl ?_
  exact Ex_iret dX8_padded_51 rfl (fun ty h => by cases h; rfl)

def f_X8_now (F : Nat) (μ : Mem) (t : Nat) (p1 : Int32) : Option (Int32) := (if p1 = 0 then some (gI μ ((t + 16) + 1) 3) else (if p1 = 1 then (f_X8_sum F μ t (((t + 16) + 1) + 3)).bind (fun v_3 => some v_3) else (if p1 = 2 then (f_X8_sum F μ t (((t + 16) + 1) + 1)).bind (fun v_7 => some v_7) else (if p1 = 3 then (f_X8_padded F μ t).bind (fun v_11 => some v_11) else some (-1)))))
set_option maxRecDepth 100000 in
set_option maxHeartbeats 4000000 in
theorem c_X8_now (a0 F : Nat) (μ : Mem) (t : Nat) (p1 : Int32) (hk0 : kd t = 8) {v : Int32} (hr : f_X8_now F μ t p1 = some v) : Ct a0 yX8_now cX8_now 2 (some .int) 4 [.ref (a0 + t), .int p1] μ (some (.int v)) μ := by
  refine Ct_of (own := RX8) (ι := (fun v => (some (.int v), μ))) (o := f_X8_now F μ t p1) (by decide +kernel) rfl (Nat.le_of_ble_eq_true rfl) ?_ hr rfl ⟨_, rfl⟩
  show Ex a0 RX8 cX8_now 2 (some .int) 4 none (fun v => (some (.int v), μ)) 0 [(0, .ref (a0 + t)), (1, .int p1)] [] μ (f_X8_now F μ t p1)
  unfold f_X8_now
  refine Ex_iload_n dX8_now_0 rfl 1 rfl ?_
  refine Ex_if (p1 = 0) (fun hc_1 => ?_) (fun hc_1 => ?_)
  · refine Ex_tblC (tgt := 32) dX8_now_1 (i := 0) (by rw [hc_1]; rfl) (by decide) (by decide) (off := 31) rfl (by decide) ?_
    refine Ex_aload_n dX8_now_32 rfl 0 rfl ?_
    refine Ex_get (v := .ref (a0 + (t + 16))) fgX8_29 hk0 (by decide) rfl dX8_now_33 ?_
    refine Ex_get (v := .ref (a0 + ((t + 16) + 1))) fgX8_113 (kn_8_16 hk0) (by decide) rfl dX8_now_36 ?_
    refine Ex_get (v := .int (gI μ ((t + 16) + 1) 3)) fgX8_179 (kn_0_1 (kn_8_16 hk0)) (by decide) rfl dX8_now_39 ?_
    exact Ex_iret dX8_now_42 rfl (fun ty h => by cases h; rfl)
  · refine Ex_if (p1 = 1) (fun hc_2 => ?_) (fun hc_2 => ?_)
    · refine Ex_tblC (tgt := 43) dX8_now_1 (i := 1) (by rw [hc_2]; rfl) (by decide) (by decide) (off := 42) rfl (by decide) ?_
      refine Ex_aload_n dX8_now_43 rfl 0 rfl ?_
      refine Ex_aload_n dX8_now_44 rfl 0 rfl ?_
      refine Ex_get (v := .ref (a0 + (t + 16))) fgX8_29 hk0 (by decide) rfl dX8_now_45 ?_
      refine Ex_get (v := .ref (a0 + ((t + 16) + 1))) fgX8_113 (kn_8_16 hk0) (by decide) rfl dX8_now_48 ?_
      refine Ex_get (v := .ref (a0 + (((t + 16) + 1) + 3))) fgX8_129 (kn_0_1 (kn_8_16 hk0)) (by decide) rfl dX8_now_51 ?_
      refine Ex_callVR (n := 1) (dp2 := 0) [.ref (a0 + (((t + 16) + 1) + 3))] cvX8_182 hk0 rfl rfl (by decide) (by decide) (Nat.le_of_ble_eq_true rfl) rfl (fun v hv => c_X8_sum a0 F μ t (((t + 16) + 1) + 3) hk0 (kn_3_3 (kn_0_1 (kn_8_16 hk0))) hv) dX8_now_54 (fun v_3 hv_5 => ?_)
      exact Ex_iret dX8_now_57 rfl (fun ty h => by cases h; rfl)
    · refine Ex_if (p1 = 2) (fun hc_6 => ?_) (fun hc_6 => ?_)
      · refine Ex_tblC (tgt := 58) dX8_now_1 (i := 2) (by rw [hc_6]; rfl) (by decide) (by decide) (off := 57) rfl (by decide) ?_
        refine Ex_aload_n dX8_now_58 rfl 0 rfl ?_
        refine Ex_aload_n dX8_now_59 rfl 0 rfl ?_
        refine Ex_get (v := .ref (a0 + (t + 16))) fgX8_29 hk0 (by decide) rfl dX8_now_60 ?_
        refine Ex_get (v := .ref (a0 + ((t + 16) + 1))) fgX8_113 (kn_8_16 hk0) (by decide) rfl dX8_now_63 ?_
        refine Ex_get (v := .ref (a0 + (((t + 16) + 1) + 1))) fgX8_117 (kn_0_1 (kn_8_16 hk0)) (by decide) rfl dX8_now_66 ?_
        refine Ex_callVR (n := 1) (dp2 := 0) [.ref (a0 + (((t + 16) + 1) + 1))] cvX8_182 hk0 rfl rfl (by decide) (by decide) (Nat.le_of_ble_eq_true rfl) rfl (fun v hv => c_X8_sum a0 F μ t (((t + 16) + 1) + 1) hk0 (kn_3_1 (kn_0_1 (kn_8_16 hk0))) hv) dX8_now_69 (fun v_7 hv_9 => ?_)
        exact Ex_iret dX8_now_72 rfl (fun ty h => by cases h; rfl)
      · refine Ex_if (p1 = 3) (fun hc_10 => ?_) (fun hc_10 => ?_)
        · refine Ex_tblC (tgt := 73) dX8_now_1 (i := 3) (by rw [hc_10]; rfl) (by decide) (by decide) (off := 72) rfl (by decide) ?_
          refine Ex_aload_n dX8_now_73 rfl 0 rfl ?_
          refine Ex_callVR (n := 0) (dp2 := 3) [] cvX8_186 hk0 rfl rfl (by decide) (by decide) (Nat.le_of_ble_eq_true rfl) rfl (fun v hv => c_X8_padded a0 F μ t hk0 hv) dX8_now_74 (fun v_11 hv_13 => ?_)
          exact Ex_iret dX8_now_77 rfl (fun ty h => by cases h; rfl)
        · refine Ex_tblD (tgt := 78) dX8_now_1 (by have q0 := lv_neT hc_1 (show (0 : Int32).toInt = 0 from rfl); have q1 := lv_neT hc_2 (show (1 : Int32).toInt = 1 from rfl); have q2 := lv_neT hc_6 (show (2 : Int32).toInt = 2 from rfl); have q3 := lv_neT hc_10 (show (3 : Int32).toInt = 3 from rfl); omega) (by decide) ?_
          refine Ex_iconst (v := (-1)) dX8_now_78 (by decide) ?_
          exact Ex_iret dX8_now_79 rfl (fun ty h => by cases h; rfl)

def f_X8_odds_L87 (F : Nat) (μ : Mem) (x4 : Int32) (x6 : Int32) (k : Int32 → Int32 → Int32 → Option (Int32)) : Nat → Int32 → Int32 → Int32 → Option (Int32)
  | 0, _, _, _ => none
  | n + 1, x7, x8, x9 => (if x9 < x6 then (if (x7 - x7 / 2 * 2) = 0 then (if (x8 - x8 / 2 * 2) = 0 then (if ((x7 / 2) - (x7 / 2) / 5 * 5) = 0 then (if ((x8 / 2) - (x8 / 2) / 5 * 5) = 0 then f_X8_odds_L87 F μ x4 x6 k n ((x7 / 2) / 5) ((x8 / 2) / 5) (x9 + 1) else f_X8_odds_L87 F μ x4 x6 k n (x7 / 2) (x8 / 2) (x9 + 1)) else f_X8_odds_L87 F μ x4 x6 k n (x7 / 2) (x8 / 2) (x9 + 1)) else (if (x7 - x7 / 5 * 5) = 0 then (if (x8 - x8 / 5 * 5) = 0 then f_X8_odds_L87 F μ x4 x6 k n (x7 / 5) (x8 / 5) (x9 + 1) else f_X8_odds_L87 F μ x4 x6 k n x7 x8 (x9 + 1)) else f_X8_odds_L87 F μ x4 x6 k n x7 x8 (x9 + 1))) else (if (x7 - x7 / 5 * 5) = 0 then (if (x8 - x8 / 5 * 5) = 0 then f_X8_odds_L87 F μ x4 x6 k n (x7 / 5) (x8 / 5) (x9 + 1) else f_X8_odds_L87 F μ x4 x6 k n x7 x8 (x9 + 1)) else f_X8_odds_L87 F μ x4 x6 k n x7 x8 (x9 + 1))) else k x7 x8 x9)
set_option maxRecDepth 100000 in
set_option maxHeartbeats 4000000 in
theorem c_X8_odds_L87 (a0 : Nat) (F : Nat) (μ : Mem) (x4 : Int32) (x6 : Int32) (k : Int32 → Int32 → Int32 → Option (Int32)) (hk : ∀ (x7 : Int32) (x8 : Int32) (x9 : Int32), Ex a0 RX8 cX8_odds 10 (some .int) 4 none (fun v => (some (.int v), μ)) 152 [(4, .int x4), (7, .int x7), (8, .int x8)] [] μ (k x7 x8 x9)) : ∀ (n : Nat) (x7 : Int32) (x8 : Int32) (x9 : Int32), Ex a0 RX8 cX8_odds 10 (some .int) 4 none (fun v => (some (.int v), μ)) 87 [(4, .int x4), (6, .int x6), (7, .int x7), (8, .int x8), (9, .int x9)] [] μ (f_X8_odds_L87 F μ x4 x6 k n x7 x8 x9) := by
  intro n
  induction n with
  | zero => intro x7 x8 x9; exact Ex_none
  | succ n ih =>
    intro x7 x8 x9
    rw [f_X8_odds_L87]
    refine Ex_iload dX8_odds_87 4 rfl ?_
    refine Ex_iload dX8_odds_89 1 rfl ?_
    refine Ex_icmp_ge (tgt := 152) dX8_odds_91 (by decide) ?_ ?_
    · refine Ex_perm [0, 2, 3] rfl ?_
      exact hk x7 x8 x9
    · refine Ex_iload dX8_odds_94 2 rfl ?_
      refine Ex_iconst (v := 2) dX8_odds_96 (by decide) ?_
      refine Ex_iremC dX8_odds_97 (by decide) ?_
      refine Ex_if_ne (tgt := 120) dX8_odds_98 (by decide) ?_ ?_
      · refine Ex_iload dX8_odds_120 2 rfl ?_
        refine Ex_iconst (v := 5) dX8_odds_122 (by decide) ?_
        refine Ex_iremC dX8_odds_123 (by decide) ?_
        refine Ex_if_ne (tgt := 146) dX8_odds_124 (by decide) ?_ ?_
        · refine Ex_iinc (v := x9 + 1) (L2 := [(9, .int (x9 + 1)), (4, .int x4), (6, .int x6), (7, .int x7), (8, .int x8)]) dX8_odds_146 4 rfl rfl (by decide) rfl ?_
          refine Ex_goto (tgt := 87) dX8_odds_149 (by decide) ?_
          refine Ex_perm [1, 2, 3, 4, 0] rfl ?_
          exact ih x7 x8 (x9 + 1)
        · refine Ex_iload dX8_odds_127 3 rfl ?_
          refine Ex_iconst (v := 5) dX8_odds_129 (by decide) ?_
          refine Ex_iremC dX8_odds_130 (by decide) ?_
          refine Ex_if_ne (tgt := 146) dX8_odds_131 (by decide) ?_ ?_
          · refine Ex_iinc (v := x9 + 1) (L2 := [(9, .int (x9 + 1)), (4, .int x4), (6, .int x6), (7, .int x7), (8, .int x8)]) dX8_odds_146 4 rfl rfl (by decide) rfl ?_
            refine Ex_goto (tgt := 87) dX8_odds_149 (by decide) ?_
            refine Ex_perm [1, 2, 3, 4, 0] rfl ?_
            exact ih x7 x8 (x9 + 1)
          · refine Ex_iload dX8_odds_134 2 rfl ?_
            refine Ex_iconst (v := 5) dX8_odds_136 (by decide) ?_
            refine Ex_idivC dX8_odds_137 (by decide) ?_
            refine Ex_istore (L2 := [(7, .int (x7 / 5)), (4, .int x4), (6, .int x6), (8, .int x8), (9, .int x9)]) dX8_odds_138 (by decide) rfl ?_
            refine Ex_iload dX8_odds_140 3 rfl ?_
            refine Ex_iconst (v := 5) dX8_odds_142 (by decide) ?_
            refine Ex_idivC dX8_odds_143 (by decide) ?_
            refine Ex_istore (L2 := [(8, .int (x8 / 5)), (7, .int (x7 / 5)), (4, .int x4), (6, .int x6), (9, .int x9)]) dX8_odds_144 (by decide) rfl ?_
            refine Ex_iinc (v := x9 + 1) (L2 := [(9, .int (x9 + 1)), (8, .int (x8 / 5)), (7, .int (x7 / 5)), (4, .int x4), (6, .int x6)]) dX8_odds_146 4 rfl rfl (by decide) rfl ?_
            refine Ex_goto (tgt := 87) dX8_odds_149 (by decide) ?_
            refine Ex_perm [3, 4, 2, 1, 0] rfl ?_
            exact ih (x7 / 5) (x8 / 5) (x9 + 1)
      · refine Ex_iload dX8_odds_101 3 rfl ?_
        refine Ex_iconst (v := 2) dX8_odds_103 (by decide) ?_
        refine Ex_iremC dX8_odds_104 (by decide) ?_
        refine Ex_if_ne (tgt := 120) dX8_odds_105 (by decide) ?_ ?_
        · refine Ex_iload dX8_odds_120 2 rfl ?_
          refine Ex_iconst (v := 5) dX8_odds_122 (by decide) ?_
          refine Ex_iremC dX8_odds_123 (by decide) ?_
          refine Ex_if_ne (tgt := 146) dX8_odds_124 (by decide) ?_ ?_
          · refine Ex_iinc (v := x9 + 1) (L2 := [(9, .int (x9 + 1)), (4, .int x4), (6, .int x6), (7, .int x7), (8, .int x8)]) dX8_odds_146 4 rfl rfl (by decide) rfl ?_
            refine Ex_goto (tgt := 87) dX8_odds_149 (by decide) ?_
            refine Ex_perm [1, 2, 3, 4, 0] rfl ?_
            exact ih x7 x8 (x9 + 1)
          · refine Ex_iload dX8_odds_127 3 rfl ?_
            refine Ex_iconst (v := 5) dX8_odds_129 (by decide) ?_
            refine Ex_iremC dX8_odds_130 (by decide) ?_
            refine Ex_if_ne (tgt := 146) dX8_odds_131 (by decide) ?_ ?_
            · refine Ex_iinc (v := x9 + 1) (L2 := [(9, .int (x9 + 1)), (4, .int x4), (6, .int x6), (7, .int x7), (8, .int x8)]) dX8_odds_146 4 rfl rfl (by decide) rfl ?_
              refine Ex_goto (tgt := 87) dX8_odds_149 (by decide) ?_
              refine Ex_perm [1, 2, 3, 4, 0] rfl ?_
              exact ih x7 x8 (x9 + 1)
            · refine Ex_iload dX8_odds_134 2 rfl ?_
              refine Ex_iconst (v := 5) dX8_odds_136 (by decide) ?_
              refine Ex_idivC dX8_odds_137 (by decide) ?_
              refine Ex_istore (L2 := [(7, .int (x7 / 5)), (4, .int x4), (6, .int x6), (8, .int x8), (9, .int x9)]) dX8_odds_138 (by decide) rfl ?_
              refine Ex_iload dX8_odds_140 3 rfl ?_
              refine Ex_iconst (v := 5) dX8_odds_142 (by decide) ?_
              refine Ex_idivC dX8_odds_143 (by decide) ?_
              refine Ex_istore (L2 := [(8, .int (x8 / 5)), (7, .int (x7 / 5)), (4, .int x4), (6, .int x6), (9, .int x9)]) dX8_odds_144 (by decide) rfl ?_
              refine Ex_iinc (v := x9 + 1) (L2 := [(9, .int (x9 + 1)), (8, .int (x8 / 5)), (7, .int (x7 / 5)), (4, .int x4), (6, .int x6)]) dX8_odds_146 4 rfl rfl (by decide) rfl ?_
              refine Ex_goto (tgt := 87) dX8_odds_149 (by decide) ?_
              refine Ex_perm [3, 4, 2, 1, 0] rfl ?_
              exact ih (x7 / 5) (x8 / 5) (x9 + 1)
        · refine Ex_iload dX8_odds_108 2 rfl ?_
          refine Ex_iconst (v := 2) dX8_odds_110 (by decide) ?_
          refine Ex_idivC dX8_odds_111 (by decide) ?_
          refine Ex_istore (L2 := [(7, .int (x7 / 2)), (4, .int x4), (6, .int x6), (8, .int x8), (9, .int x9)]) dX8_odds_112 (by decide) rfl ?_
          refine Ex_iload dX8_odds_114 3 rfl ?_
          refine Ex_iconst (v := 2) dX8_odds_116 (by decide) ?_
          refine Ex_idivC dX8_odds_117 (by decide) ?_
          refine Ex_istore (L2 := [(8, .int (x8 / 2)), (7, .int (x7 / 2)), (4, .int x4), (6, .int x6), (9, .int x9)]) dX8_odds_118 (by decide) rfl ?_
          refine Ex_iload dX8_odds_120 1 rfl ?_
          refine Ex_iconst (v := 5) dX8_odds_122 (by decide) ?_
          refine Ex_iremC dX8_odds_123 (by decide) ?_
          refine Ex_if_ne (tgt := 146) dX8_odds_124 (by decide) ?_ ?_
          · refine Ex_iinc (v := x9 + 1) (L2 := [(9, .int (x9 + 1)), (8, .int (x8 / 2)), (7, .int (x7 / 2)), (4, .int x4), (6, .int x6)]) dX8_odds_146 4 rfl rfl (by decide) rfl ?_
            refine Ex_goto (tgt := 87) dX8_odds_149 (by decide) ?_
            refine Ex_perm [3, 4, 2, 1, 0] rfl ?_
            exact ih (x7 / 2) (x8 / 2) (x9 + 1)
          · refine Ex_iload dX8_odds_127 0 rfl ?_
            refine Ex_iconst (v := 5) dX8_odds_129 (by decide) ?_
            refine Ex_iremC dX8_odds_130 (by decide) ?_
            refine Ex_if_ne (tgt := 146) dX8_odds_131 (by decide) ?_ ?_
            · refine Ex_iinc (v := x9 + 1) (L2 := [(9, .int (x9 + 1)), (8, .int (x8 / 2)), (7, .int (x7 / 2)), (4, .int x4), (6, .int x6)]) dX8_odds_146 4 rfl rfl (by decide) rfl ?_
              refine Ex_goto (tgt := 87) dX8_odds_149 (by decide) ?_
              refine Ex_perm [3, 4, 2, 1, 0] rfl ?_
              exact ih (x7 / 2) (x8 / 2) (x9 + 1)
            · refine Ex_iload dX8_odds_134 1 rfl ?_
              refine Ex_iconst (v := 5) dX8_odds_136 (by decide) ?_
              refine Ex_idivC dX8_odds_137 (by decide) ?_
              refine Ex_istore (L2 := [(7, .int ((x7 / 2) / 5)), (8, .int (x8 / 2)), (4, .int x4), (6, .int x6), (9, .int x9)]) dX8_odds_138 (by decide) rfl ?_
              refine Ex_iload dX8_odds_140 1 rfl ?_
              refine Ex_iconst (v := 5) dX8_odds_142 (by decide) ?_
              refine Ex_idivC dX8_odds_143 (by decide) ?_
              refine Ex_istore (L2 := [(8, .int ((x8 / 2) / 5)), (7, .int ((x7 / 2) / 5)), (4, .int x4), (6, .int x6), (9, .int x9)]) dX8_odds_144 (by decide) rfl ?_
              refine Ex_iinc (v := x9 + 1) (L2 := [(9, .int (x9 + 1)), (8, .int ((x8 / 2) / 5)), (7, .int ((x7 / 2) / 5)), (4, .int x4), (6, .int x6)]) dX8_odds_146 4 rfl rfl (by decide) rfl ?_
              refine Ex_goto (tgt := 87) dX8_odds_149 (by decide) ?_
              refine Ex_perm [3, 4, 2, 1, 0] rfl ?_
              exact ih ((x7 / 2) / 5) ((x8 / 2) / 5) (x9 + 1)
def f_X8_odds (F : Nat) (μ : Mem) (t : Nat) (p1 : Int32) (p2 : Int32) (p3 : Int32) (p4 : Int32) : Option (Int32) := (f_X8_noPerson F μ t p1).bind (fun v_1 => (if v_1 = 0 then (f_X8_noPlace F μ t p2).bind (fun v_4 => (if v_4 = 0 then (if p3 < 0 then some (-1) else (if 10 < p3 then some (-1) else (if p4 < 0 then some (-1) else (if 1 < p4 then some (-1) else (f_X8_passable F μ t p1).bind (fun v_7 => (f_J_bitCount F μ v_7).bind (fun v_10 => if ix p1 5 = true then (f_X8_favourable F μ t v_7 (gI μ (((t + 16) + 1) + 2) p1.toNatClampNeg) p2 p3).bind (fun v_13 => (f_X8_power F μ 10 v_10).bind (fun v_16 => f_X8_odds_L87 F μ p4 v_10 (fun x7_19 x8_20 x9_21 => (if p4 = 0 then some x7_19 else some x8_20)) F v_13 v_16 0)) else none)))))) else some (-1))) else some (-1)))
set_option maxRecDepth 100000 in
set_option maxHeartbeats 4000000 in
theorem c_X8_odds (a0 F : Nat) (μ : Mem) (t : Nat) (p1 : Int32) (p2 : Int32) (p3 : Int32) (p4 : Int32) (hk0 : kd t = 8) {v : Int32} (hr : f_X8_odds F μ t p1 p2 p3 p4 = some v) : Ct a0 yX8_odds cX8_odds 10 (some .int) 4 [.ref (a0 + t), .int p1, .int p2, .int p3, .int p4] μ (some (.int v)) μ := by
  refine Ct_of (own := RX8) (ι := (fun v => (some (.int v), μ))) (o := f_X8_odds F μ t p1 p2 p3 p4) (by decide +kernel) rfl (Nat.le_of_ble_eq_true rfl) ?_ hr rfl ⟨_, rfl⟩
  show Ex a0 RX8 cX8_odds 10 (some .int) 4 none (fun v => (some (.int v), μ)) 0 [(0, .ref (a0 + t)), (1, .int p1), (2, .int p2), (3, .int p3), (4, .int p4)] [] μ (f_X8_odds F μ t p1 p2 p3 p4)
  unfold f_X8_odds
  refine Ex_aload_n dX8_odds_0 rfl 0 rfl ?_
  refine Ex_iload_n dX8_odds_1 rfl 1 rfl ?_
  refine Ex_callVR (n := 1) (dp2 := 0) [.int p1] cvX8_110 hk0 rfl rfl (by decide) (by decide) (Nat.le_of_ble_eq_true rfl) rfl (fun v hv => c_X8_noPerson a0 F μ t p1 hk0 hv) dX8_odds_2 (fun v_1 hv_3 => ?_)
  refine Ex_if_ne (tgt := 37) dX8_odds_5 (by decide) ?_ ?_
  · refine Ex_iconst (v := (-1)) dX8_odds_37 (by decide) ?_
    exact Ex_iret dX8_odds_38 rfl (fun ty h => by cases h; rfl)
  · refine Ex_aload_n dX8_odds_8 rfl 0 rfl ?_
    refine Ex_iload_n dX8_odds_9 rfl 2 rfl ?_
    refine Ex_callVR (n := 1) (dp2 := 0) [.int p2] cvX8_189 hk0 rfl rfl (by decide) (by decide) (Nat.le_of_ble_eq_true rfl) rfl (fun v hv => c_X8_noPlace a0 F μ t p2 hk0 hv) dX8_odds_10 (fun v_4 hv_6 => ?_)
    refine Ex_if_ne (tgt := 37) dX8_odds_13 (by decide) ?_ ?_
    · refine Ex_iconst (v := (-1)) dX8_odds_37 (by decide) ?_
      exact Ex_iret dX8_odds_38 rfl (fun ty h => by cases h; rfl)
    · refine Ex_iload_n dX8_odds_16 rfl 3 rfl ?_
      refine Ex_if_lt (tgt := 37) dX8_odds_17 (by decide) ?_ ?_
      · refine Ex_iconst (v := (-1)) dX8_odds_37 (by decide) ?_
        exact Ex_iret dX8_odds_38 rfl (fun ty h => by cases h; rfl)
      · refine Ex_iload_n dX8_odds_20 rfl 3 rfl ?_
        refine Ex_bipush (v := 10) dX8_odds_21 (by decide) ?_
        refine Ex_icmp_gt (tgt := 37) dX8_odds_23 (by decide) ?_ ?_
        · refine Ex_iconst (v := (-1)) dX8_odds_37 (by decide) ?_
          exact Ex_iret dX8_odds_38 rfl (fun ty h => by cases h; rfl)
        · refine Ex_iload dX8_odds_26 4 rfl ?_
          refine Ex_if_lt (tgt := 37) dX8_odds_28 (by decide) ?_ ?_
          · refine Ex_iconst (v := (-1)) dX8_odds_37 (by decide) ?_
            exact Ex_iret dX8_odds_38 rfl (fun ty h => by cases h; rfl)
          · refine Ex_iload dX8_odds_31 4 rfl ?_
            refine Ex_iconst (v := 1) dX8_odds_33 (by decide) ?_
            refine Ex_icmp_le (tgt := 39) dX8_odds_34 (by decide) ?_ ?_
            · refine Ex_aload_n dX8_odds_39 rfl 0 rfl ?_
              refine Ex_iload_n dX8_odds_40 rfl 1 rfl ?_
              refine Ex_callVR (n := 1) (dp2 := 2) [.int p1] cvX8_192 hk0 rfl rfl (by decide) (by decide) (Nat.le_of_ble_eq_true rfl) rfl (fun v hv => c_X8_passable a0 F μ t p1 hk0 hv) dX8_odds_41 (fun v_7 hv_9 => ?_)
              refine Ex_istore (L2 := [(5, .int v_7), (0, .ref (a0 + t)), (1, .int p1), (2, .int p2), (3, .int p3), (4, .int p4)]) dX8_odds_44 (by decide) rfl ?_
              refine Ex_iload dX8_odds_46 0 rfl ?_
              refine Ex_callSR (n := 1) (dp2 := 0) [.int v_7] cvX8_219 rfl (by decide) (by decide) (Nat.le_of_ble_eq_true rfl) rfl (fun v hv => c_J_bitCount a0 F μ v_7 hv) dX8_odds_48 (fun v_10 hv_12 => ?_)
              refine Ex_istore (L2 := [(6, .int v_10), (5, .int v_7), (0, .ref (a0 + t)), (1, .int p1), (2, .int p2), (3, .int p3), (4, .int p4)]) dX8_odds_51 (by decide) rfl ?_
              refine Ex_aload_n dX8_odds_53 rfl 2 rfl ?_
              refine Ex_iload dX8_odds_54 1 rfl ?_
              refine Ex_aload_n dX8_odds_56 rfl 2 rfl ?_
              refine Ex_get (v := .ref (a0 + (t + 16))) fgX8_29 hk0 (by decide) rfl dX8_odds_57 ?_
              refine Ex_get (v := .ref (a0 + ((t + 16) + 1))) fgX8_113 (kn_8_16 hk0) (by decide) rfl dX8_odds_60 ?_
              refine Ex_get (v := .ref (a0 + (((t + 16) + 1) + 2))) fgX8_122 (kn_0_1 (kn_8_16 hk0)) (by decide) rfl dX8_odds_63 ?_
              refine Ex_iload_n dX8_odds_66 rfl 3 rfl ?_
              refine Ex_iald 5 (kn_3_2 (kn_0_1 (kn_8_16 hk0))) (by decide) dX8_odds_67 ?_
              refine Ex_iload_n dX8_odds_68 rfl 4 rfl ?_
              refine Ex_iload_n dX8_odds_69 rfl 5 rfl ?_
              refine Ex_callVR (n := 4) (dp2 := 3) [.int v_7, .int (gI μ (((t + 16) + 1) + 2) p1.toNatClampNeg), .int p2, .int p3] cvX8_224 hk0 rfl rfl (by decide) (by decide) (Nat.le_of_ble_eq_true rfl) rfl (fun v hv => c_X8_favourable a0 F μ t v_7 (gI μ (((t + 16) + 1) + 2) p1.toNatClampNeg) p2 p3 hk0 hv) dX8_odds_70 (fun v_13 hv_15 => ?_)
              refine Ex_istore (L2 := [(7, .int v_13), (6, .int v_10), (5, .int v_7), (0, .ref (a0 + t)), (1, .int p1), (2, .int p2), (3, .int p3), (4, .int p4)]) dX8_odds_73 (by decide) rfl ?_
              refine Ex_bipush (v := 10) dX8_odds_75 (by decide) ?_
              refine Ex_iload dX8_odds_77 1 rfl ?_
              refine Ex_callSR (n := 2) (dp2 := 0) [.int 10, .int v_10] cvX8_228 rfl (by decide) (by decide) (Nat.le_of_ble_eq_true rfl) rfl (fun v hv => c_X8_power a0 F μ 10 v_10 hv) dX8_odds_79 (fun v_16 hv_18 => ?_)
              refine Ex_istore (L2 := [(8, .int v_16), (7, .int v_13), (6, .int v_10), (5, .int v_7), (0, .ref (a0 + t)), (1, .int p1), (2, .int p2), (3, .int p3), (4, .int p4)]) dX8_odds_82 (by decide) rfl ?_
              refine Ex_iconst (v := 0) dX8_odds_84 (by decide) ?_
              refine Ex_istore (L2 := [(9, .int 0), (8, .int v_16), (7, .int v_13), (6, .int v_10), (5, .int v_7), (0, .ref (a0 + t)), (1, .int p1), (2, .int p2), (3, .int p3), (4, .int p4)]) dX8_odds_85 (by decide) rfl ?_
              refine Ex_perm [9, 3, 2, 1, 0] rfl ?_
              refine c_X8_odds_L87 a0 F μ p4 v_10 _  (fun x7_19 x8_20 x9_21 => ?_) F v_13 v_16 0
              refine Ex_iload dX8_odds_152 0 rfl ?_
              refine Ex_if_ne (tgt := 162) dX8_odds_154 (by decide) ?_ ?_
              · refine Ex_iload dX8_odds_162 2 rfl ?_
                exact Ex_iret dX8_odds_164 rfl (fun ty h => by cases h; rfl)
              · refine Ex_iload dX8_odds_157 1 rfl ?_
                refine Ex_goto (tgt := 164) dX8_odds_159 (by decide) ?_
                exact Ex_iret dX8_odds_164 rfl (fun ty h => by cases h; rfl)
            · refine Ex_iconst (v := (-1)) dX8_odds_37 (by decide) ?_
              exact Ex_iret dX8_odds_38 rfl (fun ty h => by cases h; rfl)

def f_X8_peopleAhead_L16 (F : Nat) (μ : Mem) (q0 : Nat) (x1 : Int32) (q2 : Nat) (k : Int32 → Int32 → Option (Int32)) : Nat → Int32 → Int32 → Option (Int32)
  | 0, _, _ => none
  | n + 1, x3, x4 => (if x4 < (gI μ (gR μ q0 1) 5) then if ix x4 5 = true then if ix x1 5 = true then (if (gI μ q2 x1.toNatClampNeg) < (gI μ q2 x4.toNatClampNeg) then f_X8_peopleAhead_L16 F μ q0 x1 q2 k n (x3 + 1) (x4 + 1) else if ix x4 5 = true then if ix x1 5 = true then (if (gI μ q2 x4.toNatClampNeg) = (gI μ q2 x1.toNatClampNeg) then (if x4 < x1 then f_X8_peopleAhead_L16 F μ q0 x1 q2 k n (x3 + 1) (x4 + 1) else f_X8_peopleAhead_L16 F μ q0 x1 q2 k n x3 (x4 + 1)) else f_X8_peopleAhead_L16 F μ q0 x1 q2 k n x3 (x4 + 1)) else none else none) else none else none else k x3 x4)
set_option maxRecDepth 100000 in
set_option maxHeartbeats 4000000 in
theorem c_X8_peopleAhead_L16 (a0 : Nat) (F : Nat) (μ : Mem) (q0 : Nat) (x1 : Int32) (q2 : Nat) (k : Int32 → Int32 → Option (Int32)) (hq0 : kd q0 = 8) (hq2 : kd q2 = 1005) (hk : ∀ (x3 : Int32) (x4 : Int32), Ex a0 RX8 cX8_peopleAhead 5 (some .int) 0 none (fun v => (some (.int v), μ)) 63 [(3, .int x3)] [] μ (k x3 x4)) : ∀ (n : Nat) (x3 : Int32) (x4 : Int32), Ex a0 RX8 cX8_peopleAhead 5 (some .int) 0 none (fun v => (some (.int v), μ)) 16 [(0, .ref (a0 + q0)), (1, .int x1), (2, .ref (a0 + q2)), (3, .int x3), (4, .int x4)] [] μ (f_X8_peopleAhead_L16 F μ q0 x1 q2 k n x3 x4) := by
  intro n
  induction n with
  | zero => intro x3 x4; exact Ex_none
  | succ n ih =>
    intro x3 x4
    rw [f_X8_peopleAhead_L16]
    refine Ex_iload dX8_peopleAhead_16 4 rfl ?_
    refine Ex_aload_n dX8_peopleAhead_18 rfl 0 rfl ?_
    refine Ex_wt (fun hw_1 => ?_)
    refine Ex_get (v := .ref (a0 + (gR μ q0 1))) fgX8_19 hq0 (by decide) rfl dX8_peopleAhead_19 ?_
    refine Ex_get (v := .int (gI μ (gR μ q0 1) 5)) fgX8_232 (WT_k hw_1 hq0 (K := 8) rfl (by decide)) (by decide) rfl dX8_peopleAhead_22 ?_
    refine Ex_icmp_ge (tgt := 63) dX8_peopleAhead_25 (by decide) ?_ ?_
    · refine Ex_perm [3] rfl ?_
      exact hk x3 x4
    · refine Ex_aload_n dX8_peopleAhead_28 rfl 2 rfl ?_
      refine Ex_iload dX8_peopleAhead_29 4 rfl ?_
      refine Ex_iald 5 hq2 (by decide) dX8_peopleAhead_31 ?_
      refine Ex_aload_n dX8_peopleAhead_32 rfl 2 rfl ?_
      refine Ex_iload_n dX8_peopleAhead_33 rfl 1 rfl ?_
      refine Ex_iald 5 hq2 (by decide) dX8_peopleAhead_34 ?_
      refine Ex_icmp_gt (tgt := 54) dX8_peopleAhead_35 (by decide) ?_ ?_
      · refine Ex_iinc (v := x3 + 1) (L2 := [(3, .int (x3 + 1)), (0, .ref (a0 + q0)), (1, .int x1), (2, .ref (a0 + q2)), (4, .int x4)]) dX8_peopleAhead_54 3 rfl rfl (by decide) rfl ?_
        refine Ex_iinc (v := x4 + 1) (L2 := [(4, .int (x4 + 1)), (3, .int (x3 + 1)), (0, .ref (a0 + q0)), (1, .int x1), (2, .ref (a0 + q2))]) dX8_peopleAhead_57 4 rfl rfl (by decide) rfl ?_
        refine Ex_goto (tgt := 16) dX8_peopleAhead_60 (by decide) ?_
        refine Ex_perm [2, 3, 4, 1, 0] rfl ?_
        exact ih (x3 + 1) (x4 + 1)
      · refine Ex_aload_n dX8_peopleAhead_38 rfl 2 rfl ?_
        refine Ex_iload dX8_peopleAhead_39 4 rfl ?_
        refine Ex_iald 5 hq2 (by decide) dX8_peopleAhead_41 ?_
        refine Ex_aload_n dX8_peopleAhead_42 rfl 2 rfl ?_
        refine Ex_iload_n dX8_peopleAhead_43 rfl 1 rfl ?_
        refine Ex_iald 5 hq2 (by decide) dX8_peopleAhead_44 ?_
        refine Ex_icmp_ne (tgt := 57) dX8_peopleAhead_45 (by decide) ?_ ?_
        · refine Ex_iinc (v := x4 + 1) (L2 := [(4, .int (x4 + 1)), (0, .ref (a0 + q0)), (1, .int x1), (2, .ref (a0 + q2)), (3, .int x3)]) dX8_peopleAhead_57 4 rfl rfl (by decide) rfl ?_
          refine Ex_goto (tgt := 16) dX8_peopleAhead_60 (by decide) ?_
          refine Ex_perm [1, 2, 3, 4, 0] rfl ?_
          exact ih x3 (x4 + 1)
        · refine Ex_iload dX8_peopleAhead_48 4 rfl ?_
          refine Ex_iload_n dX8_peopleAhead_50 rfl 1 rfl ?_
          refine Ex_icmp_ge (tgt := 57) dX8_peopleAhead_51 (by decide) ?_ ?_
          · refine Ex_iinc (v := x4 + 1) (L2 := [(4, .int (x4 + 1)), (0, .ref (a0 + q0)), (1, .int x1), (2, .ref (a0 + q2)), (3, .int x3)]) dX8_peopleAhead_57 4 rfl rfl (by decide) rfl ?_
            refine Ex_goto (tgt := 16) dX8_peopleAhead_60 (by decide) ?_
            refine Ex_perm [1, 2, 3, 4, 0] rfl ?_
            exact ih x3 (x4 + 1)
          · refine Ex_iinc (v := x3 + 1) (L2 := [(3, .int (x3 + 1)), (0, .ref (a0 + q0)), (1, .int x1), (2, .ref (a0 + q2)), (4, .int x4)]) dX8_peopleAhead_54 3 rfl rfl (by decide) rfl ?_
            refine Ex_iinc (v := x4 + 1) (L2 := [(4, .int (x4 + 1)), (3, .int (x3 + 1)), (0, .ref (a0 + q0)), (1, .int x1), (2, .ref (a0 + q2))]) dX8_peopleAhead_57 4 rfl rfl (by decide) rfl ?_
            refine Ex_goto (tgt := 16) dX8_peopleAhead_60 (by decide) ?_
            refine Ex_perm [2, 3, 4, 1, 0] rfl ?_
            exact ih (x3 + 1) (x4 + 1)
def f_X8_peopleAhead (F : Nat) (μ : Mem) (t : Nat) (p1 : Int32) : Option (Int32) := f_X8_peopleAhead_L16 F μ t p1 (((t + 16) + 1) + 1) (fun x3_2 x4_3 => some x3_2) F 0 0
set_option maxRecDepth 100000 in
set_option maxHeartbeats 4000000 in
theorem c_X8_peopleAhead (a0 F : Nat) (μ : Mem) (t : Nat) (p1 : Int32) (hk0 : kd t = 8) {v : Int32} (hr : f_X8_peopleAhead F μ t p1 = some v) : Ct a0 yX8_peopleAhead cX8_peopleAhead 5 (some .int) 0 [.ref (a0 + t), .int p1] μ (some (.int v)) μ := by
  refine Ct_of (own := RX8) (ι := (fun v => (some (.int v), μ))) (o := f_X8_peopleAhead F μ t p1) (by decide +kernel) rfl (Nat.le_of_ble_eq_true rfl) ?_ hr rfl ⟨_, rfl⟩
  show Ex a0 RX8 cX8_peopleAhead 5 (some .int) 0 none (fun v => (some (.int v), μ)) 0 [(0, .ref (a0 + t)), (1, .int p1)] [] μ (f_X8_peopleAhead F μ t p1)
  unfold f_X8_peopleAhead
  refine Ex_aload_n dX8_peopleAhead_0 rfl 0 rfl ?_
  refine Ex_get (v := .ref (a0 + (t + 16))) fgX8_29 hk0 (by decide) rfl dX8_peopleAhead_1 ?_
  refine Ex_get (v := .ref (a0 + ((t + 16) + 1))) fgX8_113 (kn_8_16 hk0) (by decide) rfl dX8_peopleAhead_4 ?_
  refine Ex_get (v := .ref (a0 + (((t + 16) + 1) + 1))) fgX8_117 (kn_0_1 (kn_8_16 hk0)) (by decide) rfl dX8_peopleAhead_7 ?_
  refine Ex_astore_n (L2 := [(2, .ref (a0 + (((t + 16) + 1) + 1))), (0, .ref (a0 + t)), (1, .int p1)]) dX8_peopleAhead_10 rfl (by decide) rfl ?_
  refine Ex_iconst (v := 0) dX8_peopleAhead_11 (by decide) ?_
  refine Ex_istore_n (L2 := [(3, .int 0), (2, .ref (a0 + (((t + 16) + 1) + 1))), (0, .ref (a0 + t)), (1, .int p1)]) dX8_peopleAhead_12 rfl (by decide) rfl ?_
  refine Ex_iconst (v := 0) dX8_peopleAhead_13 (by decide) ?_
  refine Ex_istore (L2 := [(4, .int 0), (3, .int 0), (2, .ref (a0 + (((t + 16) + 1) + 1))), (0, .ref (a0 + t)), (1, .int p1)]) dX8_peopleAhead_14 (by decide) rfl ?_
  refine Ex_perm [3, 4, 2, 1, 0] rfl ?_
  refine c_X8_peopleAhead_L16 a0 F μ t p1 (((t + 16) + 1) + 1) _ hk0 (kn_3_1 (kn_0_1 (kn_8_16 hk0))) (fun x3_2 x4_3 => ?_) F 0 0
  refine Ex_iload_n dX8_peopleAhead_63 rfl 0 rfl ?_
  exact Ex_iret dX8_peopleAhead_64 rfl (fun ty h => by cases h; rfl)

def f_X8_order_L14 (F : Nat) (μ : Mem) (q0 : Nat) (x1 : Int32) (k : Int32 → Int32 → Option (Int32)) : Nat → Int32 → Int32 → Option (Int32)
  | 0, _, _ => none
  | n + 1, x2, x3 => (if x3 < (gI μ (gR μ q0 1) 5) then (f_X8_peopleAhead F μ q0 x3).bind (fun v_5 => (if v_5 = x1 then f_X8_order_L14 F μ q0 x1 k n x3 (x3 + 1) else f_X8_order_L14 F μ q0 x1 k n x2 (x3 + 1))) else k x2 x3)
set_option maxRecDepth 100000 in
set_option maxHeartbeats 4000000 in
theorem c_X8_order_L14 (a0 : Nat) (F : Nat) (μ : Mem) (q0 : Nat) (x1 : Int32) (k : Int32 → Int32 → Option (Int32)) (hq0 : kd q0 = 8) (hk : ∀ (x2 : Int32) (x3 : Int32), Ex a0 RX8 cX8_order 4 (some .int) 1 none (fun v => (some (.int v), μ)) 42 [(2, .int x2)] [] μ (k x2 x3)) : ∀ (n : Nat) (x2 : Int32) (x3 : Int32), Ex a0 RX8 cX8_order 4 (some .int) 1 none (fun v => (some (.int v), μ)) 14 [(0, .ref (a0 + q0)), (1, .int x1), (2, .int x2), (3, .int x3)] [] μ (f_X8_order_L14 F μ q0 x1 k n x2 x3) := by
  intro n
  induction n with
  | zero => intro x2 x3; exact Ex_none
  | succ n ih =>
    intro x2 x3
    rw [f_X8_order_L14]
    refine Ex_iload_n dX8_order_14 rfl 3 rfl ?_
    refine Ex_aload_n dX8_order_15 rfl 0 rfl ?_
    refine Ex_wt (fun hw_4 => ?_)
    refine Ex_get (v := .ref (a0 + (gR μ q0 1))) fgX8_19 hq0 (by decide) rfl dX8_order_16 ?_
    refine Ex_get (v := .int (gI μ (gR μ q0 1) 5)) fgX8_232 (WT_k hw_4 hq0 (K := 8) rfl (by decide)) (by decide) rfl dX8_order_19 ?_
    refine Ex_icmp_ge (tgt := 42) dX8_order_22 (by decide) ?_ ?_
    · refine Ex_perm [2] rfl ?_
      exact hk x2 x3
    · refine Ex_aload_n dX8_order_25 rfl 0 rfl ?_
      refine Ex_iload_n dX8_order_26 rfl 3 rfl ?_
      refine Ex_callVR (n := 1) (dp2 := 0) [.int x3] cvX8_249 hq0 rfl rfl (by decide) (by decide) (Nat.le_of_ble_eq_true rfl) rfl (fun v hv => c_X8_peopleAhead a0 F μ q0 x3 hq0 hv) dX8_order_27 (fun v_5 hv_7 => ?_)
      refine Ex_iload_n dX8_order_30 rfl 1 rfl ?_
      refine Ex_icmp_ne (tgt := 36) dX8_order_31 (by decide) ?_ ?_
      · refine Ex_iinc (v := x3 + 1) (L2 := [(3, .int (x3 + 1)), (0, .ref (a0 + q0)), (1, .int x1), (2, .int x2)]) dX8_order_36 3 rfl rfl (by decide) rfl ?_
        refine Ex_goto (tgt := 14) dX8_order_39 (by decide) ?_
        refine Ex_perm [1, 2, 3, 0] rfl ?_
        exact ih x2 (x3 + 1)
      · refine Ex_iload_n dX8_order_34 rfl 3 rfl ?_
        refine Ex_istore_n (L2 := [(2, .int x3), (0, .ref (a0 + q0)), (1, .int x1), (3, .int x3)]) dX8_order_35 rfl (by decide) rfl ?_
        refine Ex_iinc (v := x3 + 1) (L2 := [(3, .int (x3 + 1)), (2, .int x3), (0, .ref (a0 + q0)), (1, .int x1)]) dX8_order_36 3 rfl rfl (by decide) rfl ?_
        refine Ex_goto (tgt := 14) dX8_order_39 (by decide) ?_
        refine Ex_perm [2, 3, 1, 0] rfl ?_
        exact ih x3 (x3 + 1)
def f_X8_order (F : Nat) (μ : Mem) (t : Nat) (p1 : Int32) : Option (Int32) := (f_X8_noPerson F μ t p1).bind (fun v_1 => (if v_1 = 0 then f_X8_order_L14 F μ t p1 (fun x2_8 x3_9 => some x2_8) F (-1) 0 else some (-1)))
set_option maxRecDepth 100000 in
set_option maxHeartbeats 4000000 in
theorem c_X8_order (a0 F : Nat) (μ : Mem) (t : Nat) (p1 : Int32) (hk0 : kd t = 8) {v : Int32} (hr : f_X8_order F μ t p1 = some v) : Ct a0 yX8_order cX8_order 4 (some .int) 1 [.ref (a0 + t), .int p1] μ (some (.int v)) μ := by
  refine Ct_of (own := RX8) (ι := (fun v => (some (.int v), μ))) (o := f_X8_order F μ t p1) (by decide +kernel) rfl (Nat.le_of_ble_eq_true rfl) ?_ hr rfl ⟨_, rfl⟩
  show Ex a0 RX8 cX8_order 4 (some .int) 1 none (fun v => (some (.int v), μ)) 0 [(0, .ref (a0 + t)), (1, .int p1)] [] μ (f_X8_order F μ t p1)
  unfold f_X8_order
  refine Ex_aload_n dX8_order_0 rfl 0 rfl ?_
  refine Ex_iload_n dX8_order_1 rfl 1 rfl ?_
  refine Ex_callVR (n := 1) (dp2 := 0) [.int p1] cvX8_110 hk0 rfl rfl (by decide) (by decide) (Nat.le_of_ble_eq_true rfl) rfl (fun v hv => c_X8_noPerson a0 F μ t p1 hk0 hv) dX8_order_2 (fun v_1 hv_3 => ?_)
  refine Ex_if_eq (tgt := 10) dX8_order_5 (by decide) ?_ ?_
  · refine Ex_iconst (v := (-1)) dX8_order_10 (by decide) ?_
    refine Ex_istore_n (L2 := [(2, .int (-1)), (0, .ref (a0 + t)), (1, .int p1)]) dX8_order_11 rfl (by decide) rfl ?_
    refine Ex_iconst (v := 0) dX8_order_12 (by decide) ?_
    refine Ex_istore_n (L2 := [(3, .int 0), (2, .int (-1)), (0, .ref (a0 + t)), (1, .int p1)]) dX8_order_13 rfl (by decide) rfl ?_
    refine Ex_perm [2, 3, 1, 0] rfl ?_
    refine c_X8_order_L14 a0 F μ t p1 _ hk0 (fun x2_8 x3_9 => ?_) F (-1) 0
    refine Ex_iload_n dX8_order_42 rfl 0 rfl ?_
    exact Ex_iret dX8_order_43 rfl (fun ty h => by cases h; rfl)
  · refine Ex_iconst (v := (-1)) dX8_order_8 (by decide) ?_
    exact Ex_iret dX8_order_9 rfl (fun ty h => by cases h; rfl)

def f_X8_patents (F : Nat) (μ : Mem) (t : Nat) (p1 : Int32) (p2 : Int32) : Option (Int32 × Mem) := (f_X8_noPerson F μ t p1).bind (fun v_1 => (if v_1 = 0 then (if p2 < 0 then some ((-1), μ) else (if 9 < p2 then some ((-1), μ) else if ix p1 5 = true then lt (gI μ (((t + 16) + 1) + 1) p1.toNatClampNeg) (fun x3_4 => (if x3_4 = p2 then some ((-2), μ) else (f_X0_remember F μ (t + 16)).bind (fun μ_6 => if ix p1 5 = true then lt (sI μ_6 (((t + 16) + 1) + 1) p1.toNatClampNeg p2) (fun μ_8 => some (x3_4, μ_8)) else none))) else none)) else some ((-1), μ)))
set_option maxRecDepth 100000 in
set_option maxHeartbeats 4000000 in
theorem c_X8_patents (a0 F : Nat) (μ : Mem) (t : Nat) (p1 : Int32) (p2 : Int32) (hk0 : kd t = 8) {v : Int32} {μ2 : Mem} (hr : f_X8_patents F μ t p1 p2 = some (v, μ2)) : Ct a0 yX8_patents cX8_patents 4 (some .int) 2 [.ref (a0 + t), .int p1, .int p2] μ (some (.int v)) μ2 := by
  refine Ct_of (own := RX8) (ι := (fun x => (some (.int x.1), x.2))) (o := f_X8_patents F μ t p1 p2) (by decide +kernel) rfl (Nat.le_of_ble_eq_true rfl) ?_ hr rfl ⟨_, rfl⟩
  show Ex a0 RX8 cX8_patents 4 (some .int) 2 none (fun x => (some (.int x.1), x.2)) 0 [(0, .ref (a0 + t)), (1, .int p1), (2, .int p2)] [] μ (f_X8_patents F μ t p1 p2)
  unfold f_X8_patents
  refine Ex_aload_n dX8_patents_0 rfl 0 rfl ?_
  refine Ex_iload_n dX8_patents_1 rfl 1 rfl ?_
  refine Ex_callVR (n := 1) (dp2 := 0) [.int p1] cvX8_110 hk0 rfl rfl (by decide) (by decide) (Nat.le_of_ble_eq_true rfl) rfl (fun v hv => c_X8_noPerson a0 F μ t p1 hk0 hv) dX8_patents_2 (fun v_1 hv_3 => ?_)
  refine Ex_if_ne (tgt := 18) dX8_patents_5 (by decide) ?_ ?_
  · refine Ex_iconst (v := (-1)) dX8_patents_18 (by decide) ?_
    exact Ex_iret dX8_patents_19 rfl (fun ty h => by cases h; rfl)
  · refine Ex_iload_n dX8_patents_8 rfl 2 rfl ?_
    refine Ex_if_lt (tgt := 18) dX8_patents_9 (by decide) ?_ ?_
    · refine Ex_iconst (v := (-1)) dX8_patents_18 (by decide) ?_
      exact Ex_iret dX8_patents_19 rfl (fun ty h => by cases h; rfl)
    · refine Ex_iload_n dX8_patents_12 rfl 2 rfl ?_
      refine Ex_bipush (v := 9) dX8_patents_13 (by decide) ?_
      refine Ex_icmp_le (tgt := 20) dX8_patents_15 (by decide) ?_ ?_
      · refine Ex_aload_n dX8_patents_20 rfl 0 rfl ?_
        refine Ex_get (v := .ref (a0 + (t + 16))) fgX8_29 hk0 (by decide) rfl dX8_patents_21 ?_
        refine Ex_get (v := .ref (a0 + ((t + 16) + 1))) fgX8_113 (kn_8_16 hk0) (by decide) rfl dX8_patents_24 ?_
        refine Ex_get (v := .ref (a0 + (((t + 16) + 1) + 1))) fgX8_117 (kn_0_1 (kn_8_16 hk0)) (by decide) rfl dX8_patents_27 ?_
        refine Ex_iload_n dX8_patents_30 rfl 1 rfl ?_
        refine Ex_iald 5 (kn_3_1 (kn_0_1 (kn_8_16 hk0))) (by decide) dX8_patents_31 ?_
        refine Ex_top (fun x3_4 => ?_)
        refine Ex_istore_n (L2 := [(3, .int x3_4), (0, .ref (a0 + t)), (1, .int p1), (2, .int p2)]) dX8_patents_32 rfl (by decide) rfl ?_
        refine Ex_iload_n dX8_patents_33 rfl 0 rfl ?_
        refine Ex_iload_n dX8_patents_34 rfl 3 rfl ?_
        refine Ex_icmp_ne (tgt := 41) dX8_patents_35 (by decide) ?_ ?_
        · refine Ex_aload_n dX8_patents_41 rfl 1 rfl ?_
          refine Ex_get (v := .ref (a0 + (t + 16))) fgX8_29 hk0 (by decide) rfl dX8_patents_42 ?_
          refine Ex_callVV (n := 0) (dp2 := 1) [] cvX8_142 (kn_8_16 hk0) rfl rfl (by decide) (by decide) (Nat.le_of_ble_eq_true rfl) rfl (fun μ2 hv => c_X0_remember a0 F μ (t + 16) (kn_8_16 hk0) hv) dX8_patents_45 (fun μ_6 hv_7 => ?_)
          refine Ex_aload_n dX8_patents_48 rfl 1 rfl ?_
          refine Ex_get (v := .ref (a0 + (t + 16))) fgX8_29 hk0 (by decide) rfl dX8_patents_49 ?_
          refine Ex_get (v := .ref (a0 + ((t + 16) + 1))) fgX8_113 (kn_8_16 hk0) (by decide) rfl dX8_patents_52 ?_
          refine Ex_get (v := .ref (a0 + (((t + 16) + 1) + 1))) fgX8_117 (kn_0_1 (kn_8_16 hk0)) (by decide) rfl dX8_patents_55 ?_
          refine Ex_iload_n dX8_patents_58 rfl 2 rfl ?_
          refine Ex_iload_n dX8_patents_59 rfl 3 rfl ?_
          refine Ex_iast 5 (kn_3_1 (kn_0_1 (kn_8_16 hk0))) (by decide) dX8_patents_60 (fun μ_8 => ?_)
          refine Ex_iload_n dX8_patents_61 rfl 0 rfl ?_
          exact Ex_iret dX8_patents_62 rfl (fun ty h => by cases h; rfl)
        · refine Ex_bipush (v := (-2)) dX8_patents_38 (by decide) ?_
          exact Ex_iret dX8_patents_40 rfl (fun ty h => by cases h; rfl)
      · refine Ex_iconst (v := (-1)) dX8_patents_18 (by decide) ?_
        exact Ex_iret dX8_patents_19 rfl (fun ty h => by cases h; rfl)

def f_X8_person (F : Nat) (μ : Mem) (t : Nat) (p1 : Int32) (p2 : Int32) : Option (Int32) := (f_X8_noPerson F μ t p1).bind (fun v_1 => (if v_1 = 0 then (if p2 = 0 then if ix p1 5 = true then some (gI μ (((t + 16) + 1) + 1) p1.toNatClampNeg) else none else (if p2 = 1 then if ix p1 5 = true then some (gI μ (((t + 16) + 1) + 2) p1.toNatClampNeg) else none else (if p2 = 2 then (f_X8_wideness F μ t p1).bind (fun v_7 => some v_7) else (if p2 = 3 then if ix p1 5 = true then some (gI μ (((t + 16) + 1) + 3) p1.toNatClampNeg) else none else (if p2 = 4 then (f_X8_reach F μ t p1).bind (fun v_12 => some v_12) else some (-1)))))) else some (-1)))
set_option maxRecDepth 100000 in
set_option maxHeartbeats 4000000 in
theorem c_X8_person (a0 F : Nat) (μ : Mem) (t : Nat) (p1 : Int32) (p2 : Int32) (hk0 : kd t = 8) {v : Int32} (hr : f_X8_person F μ t p1 p2 = some v) : Ct a0 yX8_person cX8_person 3 (some .int) 4 [.ref (a0 + t), .int p1, .int p2] μ (some (.int v)) μ := by
  refine Ct_of (own := RX8) (ι := (fun v => (some (.int v), μ))) (o := f_X8_person F μ t p1 p2) (by decide +kernel) rfl (Nat.le_of_ble_eq_true rfl) ?_ hr rfl ⟨_, rfl⟩
  show Ex a0 RX8 cX8_person 3 (some .int) 4 none (fun v => (some (.int v), μ)) 0 [(0, .ref (a0 + t)), (1, .int p1), (2, .int p2)] [] μ (f_X8_person F μ t p1 p2)
  unfold f_X8_person
  refine Ex_aload_n dX8_person_0 rfl 0 rfl ?_
  refine Ex_iload_n dX8_person_1 rfl 1 rfl ?_
  refine Ex_callVR (n := 1) (dp2 := 0) [.int p1] cvX8_110 hk0 rfl rfl (by decide) (by decide) (Nat.le_of_ble_eq_true rfl) rfl (fun v hv => c_X8_noPerson a0 F μ t p1 hk0 hv) dX8_person_2 (fun v_1 hv_3 => ?_)
  refine Ex_if_eq (tgt := 10) dX8_person_5 (by decide) ?_ ?_
  · refine Ex_iload_n dX8_person_10 rfl 2 rfl ?_
    refine Ex_if (p2 = 0) (fun hc_4 => ?_) (fun hc_4 => ?_)
    · refine Ex_tblC (tgt := 44) dX8_person_11 (i := 0) (by rw [hc_4]; rfl) (by decide) (by decide) (off := 33) rfl (by decide) ?_
      refine Ex_aload_n dX8_person_44 rfl 0 rfl ?_
      refine Ex_get (v := .ref (a0 + (t + 16))) fgX8_29 hk0 (by decide) rfl dX8_person_45 ?_
      refine Ex_get (v := .ref (a0 + ((t + 16) + 1))) fgX8_113 (kn_8_16 hk0) (by decide) rfl dX8_person_48 ?_
      refine Ex_get (v := .ref (a0 + (((t + 16) + 1) + 1))) fgX8_117 (kn_0_1 (kn_8_16 hk0)) (by decide) rfl dX8_person_51 ?_
      refine Ex_iload_n dX8_person_54 rfl 1 rfl ?_
      refine Ex_iald 5 (kn_3_1 (kn_0_1 (kn_8_16 hk0))) (by decide) dX8_person_55 ?_
      exact Ex_iret dX8_person_56 rfl (fun ty h => by cases h; rfl)
    · refine Ex_if (p2 = 1) (fun hc_5 => ?_) (fun hc_5 => ?_)
      · refine Ex_tblC (tgt := 57) dX8_person_11 (i := 1) (by rw [hc_5]; rfl) (by decide) (by decide) (off := 46) rfl (by decide) ?_
        refine Ex_aload_n dX8_person_57 rfl 0 rfl ?_
        refine Ex_get (v := .ref (a0 + (t + 16))) fgX8_29 hk0 (by decide) rfl dX8_person_58 ?_
        refine Ex_get (v := .ref (a0 + ((t + 16) + 1))) fgX8_113 (kn_8_16 hk0) (by decide) rfl dX8_person_61 ?_
        refine Ex_get (v := .ref (a0 + (((t + 16) + 1) + 2))) fgX8_122 (kn_0_1 (kn_8_16 hk0)) (by decide) rfl dX8_person_64 ?_
        refine Ex_iload_n dX8_person_67 rfl 1 rfl ?_
        refine Ex_iald 5 (kn_3_2 (kn_0_1 (kn_8_16 hk0))) (by decide) dX8_person_68 ?_
        exact Ex_iret dX8_person_69 rfl (fun ty h => by cases h; rfl)
      · refine Ex_if (p2 = 2) (fun hc_6 => ?_) (fun hc_6 => ?_)
        · refine Ex_tblC (tgt := 70) dX8_person_11 (i := 2) (by rw [hc_6]; rfl) (by decide) (by decide) (off := 59) rfl (by decide) ?_
          refine Ex_aload_n dX8_person_70 rfl 0 rfl ?_
          refine Ex_iload_n dX8_person_71 rfl 1 rfl ?_
          refine Ex_callVR (n := 1) (dp2 := 0) [.int p1] cvX8_125 hk0 rfl rfl (by decide) (by decide) (Nat.le_of_ble_eq_true rfl) rfl (fun v hv => c_X8_wideness a0 F μ t p1 hk0 hv) dX8_person_72 (fun v_7 hv_9 => ?_)
          exact Ex_iret dX8_person_75 rfl (fun ty h => by cases h; rfl)
        · refine Ex_if (p2 = 3) (fun hc_10 => ?_) (fun hc_10 => ?_)
          · refine Ex_tblC (tgt := 76) dX8_person_11 (i := 3) (by rw [hc_10]; rfl) (by decide) (by decide) (off := 65) rfl (by decide) ?_
            refine Ex_aload_n dX8_person_76 rfl 0 rfl ?_
            refine Ex_get (v := .ref (a0 + (t + 16))) fgX8_29 hk0 (by decide) rfl dX8_person_77 ?_
            refine Ex_get (v := .ref (a0 + ((t + 16) + 1))) fgX8_113 (kn_8_16 hk0) (by decide) rfl dX8_person_80 ?_
            refine Ex_get (v := .ref (a0 + (((t + 16) + 1) + 3))) fgX8_129 (kn_0_1 (kn_8_16 hk0)) (by decide) rfl dX8_person_83 ?_
            refine Ex_iload_n dX8_person_86 rfl 1 rfl ?_
            refine Ex_iald 5 (kn_3_3 (kn_0_1 (kn_8_16 hk0))) (by decide) dX8_person_87 ?_
            exact Ex_iret dX8_person_88 rfl (fun ty h => by cases h; rfl)
          · refine Ex_if (p2 = 4) (fun hc_11 => ?_) (fun hc_11 => ?_)
            · refine Ex_tblC (tgt := 89) dX8_person_11 (i := 4) (by rw [hc_11]; rfl) (by decide) (by decide) (off := 78) rfl (by decide) ?_
              refine Ex_aload_n dX8_person_89 rfl 0 rfl ?_
              refine Ex_iload_n dX8_person_90 rfl 1 rfl ?_
              refine Ex_callVR (n := 1) (dp2 := 3) [.int p1] cvX8_132 hk0 rfl rfl (by decide) (by decide) (Nat.le_of_ble_eq_true rfl) rfl (fun v hv => c_X8_reach a0 F μ t p1 hk0 hv) dX8_person_91 (fun v_12 hv_14 => ?_)
              exact Ex_iret dX8_person_94 rfl (fun ty h => by cases h; rfl)
            · refine Ex_tblD (tgt := 95) dX8_person_11 (by have q0 := lv_neT hc_4 (show (0 : Int32).toInt = 0 from rfl); have q1 := lv_neT hc_5 (show (1 : Int32).toInt = 1 from rfl); have q2 := lv_neT hc_6 (show (2 : Int32).toInt = 2 from rfl); have q3 := lv_neT hc_10 (show (3 : Int32).toInt = 3 from rfl); have q4 := lv_neT hc_11 (show (4 : Int32).toInt = 4 from rfl); omega) (by decide) ?_
              refine Ex_iconst (v := (-1)) dX8_person_95 (by decide) ?_
              exact Ex_iret dX8_person_96 rfl (fun ty h => by cases h; rfl)
  · refine Ex_iconst (v := (-1)) dX8_person_8 (by decide) ?_
    exact Ex_iret dX8_person_9 rfl (fun ty h => by cases h; rfl)

def f_X8_shuts (F : Nat) (μ : Mem) (t : Nat) (p1 : Int32) (p2 : Int32) : Option (Int32 × Mem) := (f_X8_noLane F μ t p1).bind (fun v_1 => (if v_1 = 0 then (if p2 < 0 then some ((-1), μ) else (if 1 < p2 then some ((-1), μ) else (f_X8_isClosed F μ t p1).bind (fun v_4 => (if p2 = 1 then (if v_4 = 1 then some ((-2), μ) else (f_X0_remember F μ (t + 16)).bind (fun μ_23 => (if p2 = 1 then (f_X3_close F μ_23 ((t + 16) + 1) p1).bind (fun μ_32 => (f_X8_closedLanes F μ_32 t).bind (fun v_34 => some (v_34, μ_32))) else (f_X3_open F μ_23 ((t + 16) + 1) p1).bind (fun μ_26 => (f_X8_closedLanes F μ_26 t).bind (fun v_28 => some (v_28, μ_26)))))) else (if v_4 = 0 then some ((-2), μ) else (f_X0_remember F μ (t + 16)).bind (fun μ_8 => (if p2 = 1 then (f_X3_close F μ_8 ((t + 16) + 1) p1).bind (fun μ_17 => (f_X8_closedLanes F μ_17 t).bind (fun v_19 => some (v_19, μ_17))) else (f_X3_open F μ_8 ((t + 16) + 1) p1).bind (fun μ_11 => (f_X8_closedLanes F μ_11 t).bind (fun v_13 => some (v_13, μ_11)))))))))) else some ((-1), μ)))
set_option maxRecDepth 100000 in
set_option maxHeartbeats 4000000 in
theorem c_X8_shuts (a0 F : Nat) (μ : Mem) (t : Nat) (p1 : Int32) (p2 : Int32) (hk0 : kd t = 8) {v : Int32} {μ2 : Mem} (hr : f_X8_shuts F μ t p1 p2 = some (v, μ2)) : Ct a0 yX8_shuts cX8_shuts 3 (some .int) 2 [.ref (a0 + t), .int p1, .int p2] μ (some (.int v)) μ2 := by
  refine Ct_of (own := RX8) (ι := (fun x => (some (.int x.1), x.2))) (o := f_X8_shuts F μ t p1 p2) (by decide +kernel) rfl (Nat.le_of_ble_eq_true rfl) ?_ hr rfl ⟨_, rfl⟩
  show Ex a0 RX8 cX8_shuts 3 (some .int) 2 none (fun x => (some (.int x.1), x.2)) 0 [(0, .ref (a0 + t)), (1, .int p1), (2, .int p2)] [] μ (f_X8_shuts F μ t p1 p2)
  unfold f_X8_shuts
  refine Ex_aload_n dX8_shuts_0 rfl 0 rfl ?_
  refine Ex_iload_n dX8_shuts_1 rfl 1 rfl ?_
  refine Ex_callVR (n := 1) (dp2 := 0) [.int p1] cvX8_94 hk0 rfl rfl (by decide) (by decide) (Nat.le_of_ble_eq_true rfl) rfl (fun v hv => c_X8_noLane a0 F μ t p1 hk0 hv) dX8_shuts_2 (fun v_1 hv_3 => ?_)
  refine Ex_if_ne (tgt := 17) dX8_shuts_5 (by decide) ?_ ?_
  · refine Ex_iconst (v := (-1)) dX8_shuts_17 (by decide) ?_
    exact Ex_iret dX8_shuts_18 rfl (fun ty h => by cases h; rfl)
  · refine Ex_iload_n dX8_shuts_8 rfl 2 rfl ?_
    refine Ex_if_lt (tgt := 17) dX8_shuts_9 (by decide) ?_ ?_
    · refine Ex_iconst (v := (-1)) dX8_shuts_17 (by decide) ?_
      exact Ex_iret dX8_shuts_18 rfl (fun ty h => by cases h; rfl)
    · refine Ex_iload_n dX8_shuts_12 rfl 2 rfl ?_
      refine Ex_iconst (v := 1) dX8_shuts_13 (by decide) ?_
      refine Ex_icmp_le (tgt := 19) dX8_shuts_14 (by decide) ?_ ?_
      · refine Ex_aload_n dX8_shuts_19 rfl 0 rfl ?_
        refine Ex_iload_n dX8_shuts_20 rfl 1 rfl ?_
        refine Ex_callVR (n := 1) (dp2 := 0) [.int p1] cvX8_107 hk0 rfl rfl (by decide) (by decide) (Nat.le_of_ble_eq_true rfl) rfl (fun v hv => c_X8_isClosed a0 F μ t p1 hk0 hv) dX8_shuts_21 (fun v_4 hv_6 => ?_)
        refine Ex_iload_n dX8_shuts_24 rfl 2 rfl ?_
        refine Ex_iconst (v := 1) dX8_shuts_25 (by decide) ?_
        refine Ex_icmp_ne (tgt := 33) dX8_shuts_26 (by decide) ?_ ?_
        · refine Ex_iconst (v := 0) dX8_shuts_33 (by decide) ?_
          refine Ex_icmp_ne (tgt := 40) dX8_shuts_34 (by decide) ?_ ?_
          · refine Ex_aload_n dX8_shuts_40 rfl 0 rfl ?_
            refine Ex_get (v := .ref (a0 + (t + 16))) fgX8_29 hk0 (by decide) rfl dX8_shuts_41 ?_
            refine Ex_callVV (n := 0) (dp2 := 1) [] cvX8_142 (kn_8_16 hk0) rfl rfl (by decide) (by decide) (Nat.le_of_ble_eq_true rfl) rfl (fun μ2 hv => c_X0_remember a0 F μ (t + 16) (kn_8_16 hk0) hv) dX8_shuts_44 (fun μ_8 hv_9 => ?_)
            refine Ex_iload_n dX8_shuts_47 rfl 2 rfl ?_
            refine Ex_iconst (v := 1) dX8_shuts_48 (by decide) ?_
            refine Ex_icmp_ne (tgt := 66) dX8_shuts_49 (by decide) ?_ ?_
            · refine Ex_aload_n dX8_shuts_66 rfl 0 rfl ?_
              refine Ex_get (v := .ref (a0 + (t + 16))) fgX8_29 hk0 (by decide) rfl dX8_shuts_67 ?_
              refine Ex_get (v := .ref (a0 + ((t + 16) + 1))) fgX8_113 (kn_8_16 hk0) (by decide) rfl dX8_shuts_70 ?_
              refine Ex_iload_n dX8_shuts_73 rfl 1 rfl ?_
              refine Ex_callVV (n := 1) (dp2 := 0) [.int p1] cvX8_165 (kn_0_1 (kn_8_16 hk0)) rfl rfl (by decide) (by decide) (Nat.le_of_ble_eq_true rfl) rfl (fun μ2 hv => c_X3_open a0 F μ_8 ((t + 16) + 1) p1 (kn_0_1 (kn_8_16 hk0)) hv) dX8_shuts_74 (fun μ_11 hv_12 => ?_)
              refine Ex_aload_n dX8_shuts_77 rfl 0 rfl ?_
              refine Ex_callVR (n := 0) (dp2 := 1) [] cvX8_168 hk0 rfl rfl (by decide) (by decide) (Nat.le_of_ble_eq_true rfl) rfl (fun v hv => c_X8_closedLanes a0 F μ_11 t hk0 hv) dX8_shuts_78 (fun v_13 hv_15 => ?_)
              exact Ex_iret dX8_shuts_81 rfl (fun ty h => by cases h; rfl)
            · refine Ex_aload_n dX8_shuts_52 rfl 0 rfl ?_
              refine Ex_get (v := .ref (a0 + (t + 16))) fgX8_29 hk0 (by decide) rfl dX8_shuts_53 ?_
              refine Ex_get (v := .ref (a0 + ((t + 16) + 1))) fgX8_113 (kn_8_16 hk0) (by decide) rfl dX8_shuts_56 ?_
              refine Ex_iload_n dX8_shuts_59 rfl 1 rfl ?_
              refine Ex_callVV (n := 1) (dp2 := 0) [.int p1] cvX8_157 (kn_0_1 (kn_8_16 hk0)) rfl rfl (by decide) (by decide) (Nat.le_of_ble_eq_true rfl) rfl (fun μ2 hv => c_X3_close a0 F μ_8 ((t + 16) + 1) p1 (kn_0_1 (kn_8_16 hk0)) hv) dX8_shuts_60 (fun μ_17 hv_18 => ?_)
              refine Ex_goto (tgt := 77) dX8_shuts_63 (by decide) ?_
              refine Ex_aload_n dX8_shuts_77 rfl 0 rfl ?_
              refine Ex_callVR (n := 0) (dp2 := 1) [] cvX8_168 hk0 rfl rfl (by decide) (by decide) (Nat.le_of_ble_eq_true rfl) rfl (fun v hv => c_X8_closedLanes a0 F μ_17 t hk0 hv) dX8_shuts_78 (fun v_19 hv_21 => ?_)
              exact Ex_iret dX8_shuts_81 rfl (fun ty h => by cases h; rfl)
          · refine Ex_bipush (v := (-2)) dX8_shuts_37 (by decide) ?_
            exact Ex_iret dX8_shuts_39 rfl (fun ty h => by cases h; rfl)
        · refine Ex_iconst (v := 1) dX8_shuts_29 (by decide) ?_
          refine Ex_goto (tgt := 34) dX8_shuts_30 (by decide) ?_
          refine Ex_icmp_ne (tgt := 40) dX8_shuts_34 (by decide) ?_ ?_
          · refine Ex_aload_n dX8_shuts_40 rfl 0 rfl ?_
            refine Ex_get (v := .ref (a0 + (t + 16))) fgX8_29 hk0 (by decide) rfl dX8_shuts_41 ?_
            refine Ex_callVV (n := 0) (dp2 := 1) [] cvX8_142 (kn_8_16 hk0) rfl rfl (by decide) (by decide) (Nat.le_of_ble_eq_true rfl) rfl (fun μ2 hv => c_X0_remember a0 F μ (t + 16) (kn_8_16 hk0) hv) dX8_shuts_44 (fun μ_23 hv_24 => ?_)
            refine Ex_iload_n dX8_shuts_47 rfl 2 rfl ?_
            refine Ex_iconst (v := 1) dX8_shuts_48 (by decide) ?_
            refine Ex_icmp_ne (tgt := 66) dX8_shuts_49 (by decide) ?_ ?_
            · refine Ex_aload_n dX8_shuts_66 rfl 0 rfl ?_
              refine Ex_get (v := .ref (a0 + (t + 16))) fgX8_29 hk0 (by decide) rfl dX8_shuts_67 ?_
              refine Ex_get (v := .ref (a0 + ((t + 16) + 1))) fgX8_113 (kn_8_16 hk0) (by decide) rfl dX8_shuts_70 ?_
              refine Ex_iload_n dX8_shuts_73 rfl 1 rfl ?_
              refine Ex_callVV (n := 1) (dp2 := 0) [.int p1] cvX8_165 (kn_0_1 (kn_8_16 hk0)) rfl rfl (by decide) (by decide) (Nat.le_of_ble_eq_true rfl) rfl (fun μ2 hv => c_X3_open a0 F μ_23 ((t + 16) + 1) p1 (kn_0_1 (kn_8_16 hk0)) hv) dX8_shuts_74 (fun μ_26 hv_27 => ?_)
              refine Ex_aload_n dX8_shuts_77 rfl 0 rfl ?_
              refine Ex_callVR (n := 0) (dp2 := 1) [] cvX8_168 hk0 rfl rfl (by decide) (by decide) (Nat.le_of_ble_eq_true rfl) rfl (fun v hv => c_X8_closedLanes a0 F μ_26 t hk0 hv) dX8_shuts_78 (fun v_28 hv_30 => ?_)
              exact Ex_iret dX8_shuts_81 rfl (fun ty h => by cases h; rfl)
            · refine Ex_aload_n dX8_shuts_52 rfl 0 rfl ?_
              refine Ex_get (v := .ref (a0 + (t + 16))) fgX8_29 hk0 (by decide) rfl dX8_shuts_53 ?_
              refine Ex_get (v := .ref (a0 + ((t + 16) + 1))) fgX8_113 (kn_8_16 hk0) (by decide) rfl dX8_shuts_56 ?_
              refine Ex_iload_n dX8_shuts_59 rfl 1 rfl ?_
              refine Ex_callVV (n := 1) (dp2 := 0) [.int p1] cvX8_157 (kn_0_1 (kn_8_16 hk0)) rfl rfl (by decide) (by decide) (Nat.le_of_ble_eq_true rfl) rfl (fun μ2 hv => c_X3_close a0 F μ_23 ((t + 16) + 1) p1 (kn_0_1 (kn_8_16 hk0)) hv) dX8_shuts_60 (fun μ_32 hv_33 => ?_)
              refine Ex_goto (tgt := 77) dX8_shuts_63 (by decide) ?_
              refine Ex_aload_n dX8_shuts_77 rfl 0 rfl ?_
              refine Ex_callVR (n := 0) (dp2 := 1) [] cvX8_168 hk0 rfl rfl (by decide) (by decide) (Nat.le_of_ble_eq_true rfl) rfl (fun v hv => c_X8_closedLanes a0 F μ_32 t hk0 hv) dX8_shuts_78 (fun v_34 hv_36 => ?_)
              exact Ex_iret dX8_shuts_81 rfl (fun ty h => by cases h; rfl)
          · refine Ex_bipush (v := (-2)) dX8_shuts_37 (by decide) ?_
            exact Ex_iret dX8_shuts_39 rfl (fun ty h => by cases h; rfl)
      · refine Ex_iconst (v := (-1)) dX8_shuts_17 (by decide) ?_
        exact Ex_iret dX8_shuts_18 rfl (fun ty h => by cases h; rfl)

def f_X8_theatre_L43 (F : Nat) (q0 : Nat) (x2 : Int32) (k : Int32 → Mem → Option (Int32 × Mem)) : Nat → Int32 → Mem → Option (Int32 × Mem)
  | 0, _, _ => none
  | n + 1, x3, μ => (if x3 < (gI μ (gR μ q0 1) 5) then (f_X8_wideness F μ q0 x3).bind (fun v_6 => (f_X6_admit F μ (q0 + 70) x3 v_6).bind (fun μ_10 => f_X8_theatre_L43 F q0 x2 k n (x3 + 1) μ_10)) else k x3 μ)
set_option maxRecDepth 100000 in
set_option maxHeartbeats 4000000 in
theorem c_X8_theatre_L43 (a0 : Nat) (F : Nat) (q0 : Nat) (x2 : Int32) (k : Int32 → Mem → Option (Int32 × Mem)) (hq0 : kd q0 = 8) (hk : ∀ (x3 : Int32) (μ : Mem), Ex a0 RX8 cX8_theatre 4 (some .int) 11 none (fun x => (some (.int x.1), x.2)) 73 [(0, .ref (a0 + q0)), (2, .int x2)] [] μ (k x3 μ)) : ∀ (n : Nat) (x3 : Int32) (μ : Mem), Ex a0 RX8 cX8_theatre 4 (some .int) 11 none (fun x => (some (.int x.1), x.2)) 43 [(0, .ref (a0 + q0)), (2, .int x2), (3, .int x3)] [] μ (f_X8_theatre_L43 F q0 x2 k n x3 μ) := by
  intro n
  induction n with
  | zero => intro x3 μ; exact Ex_none
  | succ n ih =>
    intro x3 μ
    rw [f_X8_theatre_L43]
    refine Ex_iload_n dX8_theatre_43 rfl 2 rfl ?_
    refine Ex_aload_n dX8_theatre_44 rfl 0 rfl ?_
    refine Ex_wt (fun hw_5 => ?_)
    refine Ex_get (v := .ref (a0 + (gR μ q0 1))) fgX8_19 hq0 (by decide) rfl dX8_theatre_45 ?_
    refine Ex_get (v := .int (gI μ (gR μ q0 1) 5)) fgX8_232 (WT_k hw_5 hq0 (K := 8) rfl (by decide)) (by decide) rfl dX8_theatre_48 ?_
    refine Ex_icmp_ge (tgt := 73) dX8_theatre_51 (by decide) ?_ ?_
    · refine Ex_perm [0, 1] rfl ?_
      exact hk x3 μ
    · refine Ex_aload_n dX8_theatre_54 rfl 0 rfl ?_
      refine Ex_get (v := .ref (a0 + (q0 + 70))) fgX8_58 hq0 (by decide) rfl dX8_theatre_55 ?_
      refine Ex_iload_n dX8_theatre_58 rfl 2 rfl ?_
      refine Ex_aload_n dX8_theatre_59 rfl 0 rfl ?_
      refine Ex_iload_n dX8_theatre_60 rfl 2 rfl ?_
      refine Ex_callVR (n := 1) (dp2 := 0) [.int x3] cvX8_125 hq0 rfl rfl (by decide) (by decide) (Nat.le_of_ble_eq_true rfl) rfl (fun v hv => c_X8_wideness a0 F μ q0 x3 hq0 hv) dX8_theatre_61 (fun v_6 hv_8 => ?_)
      refine Ex_callVV (n := 2) (dp2 := 0) [.int x3, .int v_6] cvX8_237 (kn_8_70 hq0) rfl rfl (by decide) (by decide) (Nat.le_of_ble_eq_true rfl) rfl (fun μ2 hv => c_X6_admit a0 F μ (q0 + 70) x3 v_6 (kn_8_70 hq0) hv) dX8_theatre_64 (fun μ_10 hv_11 => ?_)
      refine Ex_iinc (v := x3 + 1) (L2 := [(3, .int (x3 + 1)), (0, .ref (a0 + q0)), (2, .int x2)]) dX8_theatre_67 2 rfl rfl (by decide) rfl ?_
      refine Ex_goto (tgt := 43) dX8_theatre_70 (by decide) ?_
      refine Ex_perm [1, 2, 0] rfl ?_
      exact ih (x3 + 1) μ_10
def f_X8_theatre (F : Nat) (μ : Mem) (t : Nat) (p1 : Int32) (p2 : Int32) : Option (Int32 × Mem) := (if p1 < 1 then some ((-1), μ) else (if 99 < p1 then some ((-1), μ) else (if p2 = (-1) then (f_X6_begin F μ (t + 70) p1 (gI μ (gR μ t 1) 5)).bind (fun μ_3 => f_X8_theatre_L43 F t p2 (fun x3_12 μ_13 => bW (f_X6_fill F μ_13 (t + 70)) (fun v_14 μ_15 => (if v_14 = (-9) then some (v_14, μ_15) else (if p2 = (-1) then some (v_14, μ_15) else if ix p2 5 = true then some (gI μ_15 ((t + 70) + 2) p2.toNatClampNeg, μ_15) else none)))) F 0 μ_3) else (f_X8_noPerson F μ t p2).bind (fun v_17 => (if v_17 = 0 then (f_X6_begin F μ (t + 70) p1 (gI μ (gR μ t 1) 5)).bind (fun μ_22 => f_X8_theatre_L43 F t p2 (fun x3_24 μ_25 => bW (f_X6_fill F μ_25 (t + 70)) (fun v_26 μ_27 => (if v_26 = (-9) then some (v_26, μ_27) else (if p2 = (-1) then some (v_26, μ_27) else if ix p2 5 = true then some (gI μ_27 ((t + 70) + 2) p2.toNatClampNeg, μ_27) else none)))) F 0 μ_22) else some ((-1), μ))))))
set_option maxRecDepth 100000 in
set_option maxHeartbeats 4000000 in
theorem c_X8_theatre (a0 F : Nat) (μ : Mem) (t : Nat) (p1 : Int32) (p2 : Int32) (hk0 : kd t = 8) {v : Int32} {μ2 : Mem} (hr : f_X8_theatre F μ t p1 p2 = some (v, μ2)) : Ct a0 yX8_theatre cX8_theatre 4 (some .int) 11 [.ref (a0 + t), .int p1, .int p2] μ (some (.int v)) μ2 := by
  refine Ct_of (own := RX8) (ι := (fun x => (some (.int x.1), x.2))) (o := f_X8_theatre F μ t p1 p2) (by decide +kernel) rfl (Nat.le_of_ble_eq_true rfl) ?_ hr rfl ⟨_, rfl⟩
  show Ex a0 RX8 cX8_theatre 4 (some .int) 11 none (fun x => (some (.int x.1), x.2)) 0 [(0, .ref (a0 + t)), (1, .int p1), (2, .int p2)] [] μ (f_X8_theatre F μ t p1 p2)
  unfold f_X8_theatre
  refine Ex_iload_n dX8_theatre_0 rfl 1 rfl ?_
  refine Ex_iconst (v := 1) dX8_theatre_1 (by decide) ?_
  refine Ex_icmp_lt (tgt := 24) dX8_theatre_2 (by decide) ?_ ?_
  · refine Ex_iconst (v := (-1)) dX8_theatre_24 (by decide) ?_
    exact Ex_iret dX8_theatre_25 rfl (fun ty h => by cases h; rfl)
  · refine Ex_iload_n dX8_theatre_5 rfl 1 rfl ?_
    refine Ex_bipush (v := 99) dX8_theatre_6 (by decide) ?_
    refine Ex_icmp_gt (tgt := 24) dX8_theatre_8 (by decide) ?_ ?_
    · refine Ex_iconst (v := (-1)) dX8_theatre_24 (by decide) ?_
      exact Ex_iret dX8_theatre_25 rfl (fun ty h => by cases h; rfl)
    · refine Ex_iload_n dX8_theatre_11 rfl 2 rfl ?_
      refine Ex_iconst (v := (-1)) dX8_theatre_12 (by decide) ?_
      refine Ex_icmp_eq (tgt := 26) dX8_theatre_13 (by decide) ?_ ?_
      · refine Ex_aload_n dX8_theatre_26 rfl 0 rfl ?_
        refine Ex_get (v := .ref (a0 + (t + 70))) fgX8_58 hk0 (by decide) rfl dX8_theatre_27 ?_
        refine Ex_iload_n dX8_theatre_30 rfl 1 rfl ?_
        refine Ex_aload_n dX8_theatre_31 rfl 0 rfl ?_
        refine Ex_wt (fun hw_1 => ?_)
        refine Ex_get (v := .ref (a0 + (gR μ t 1))) fgX8_19 hk0 (by decide) rfl dX8_theatre_32 ?_
        refine Ex_get (v := .int (gI μ (gR μ t 1) 5)) fgX8_232 (WT_k hw_1 hk0 (K := 8) rfl (by decide)) (by decide) rfl dX8_theatre_35 ?_
        refine Ex_callVV (n := 2) (dp2 := 1) [.int p1, .int (gI μ (gR μ t 1) 5)] cvX8_235 (kn_8_70 hk0) rfl rfl (by decide) (by decide) (Nat.le_of_ble_eq_true rfl) rfl (fun μ2 hv => c_X6_begin a0 F μ (t + 70) p1 (gI μ (gR μ t 1) 5) (kn_8_70 hk0) hv) dX8_theatre_38 (fun μ_3 hv_4 => ?_)
        refine Ex_iconst (v := 0) dX8_theatre_41 (by decide) ?_
        refine Ex_istore_n (L2 := [(3, .int 0), (0, .ref (a0 + t)), (1, .int p1), (2, .int p2)]) dX8_theatre_42 rfl (by decide) rfl ?_
        refine Ex_perm [1, 3, 0] rfl ?_
        refine c_X8_theatre_L43 a0 F t p2 _ hk0 (fun x3_12 μ_13 => ?_) F 0 μ_3
        refine Ex_aload_n dX8_theatre_73 rfl 0 rfl ?_
        refine Ex_get (v := .ref (a0 + (t + 70))) fgX8_58 hk0 (by decide) rfl dX8_theatre_74 ?_
        refine Ex_callVW (n := 0) (dp2 := 10) [] cvX8_240 (kn_8_70 hk0) rfl rfl (by decide) (by decide) (Nat.le_of_ble_eq_true rfl) rfl (fun v μ2 hv => c_X6_fill a0 F μ_13 (t + 70) (kn_8_70 hk0) hv) dX8_theatre_77 (fun v_14 μ_15 hv_16 => ?_)
        refine Ex_istore_n (L2 := [(3, .int v_14), (0, .ref (a0 + t)), (2, .int p2)]) dX8_theatre_80 rfl (by decide) rfl ?_
        refine Ex_iload_n dX8_theatre_81 rfl 0 rfl ?_
        refine Ex_bipush (v := (-9)) dX8_theatre_82 (by decide) ?_
        refine Ex_icmp_eq (tgt := 92) dX8_theatre_84 (by decide) ?_ ?_
        · refine Ex_iload_n dX8_theatre_92 rfl 0 rfl ?_
          refine Ex_goto (tgt := 105) dX8_theatre_93 (by decide) ?_
          exact Ex_iret dX8_theatre_105 rfl (fun ty h => by cases h; rfl)
        · refine Ex_iload_n dX8_theatre_87 rfl 2 rfl ?_
          refine Ex_iconst (v := (-1)) dX8_theatre_88 (by decide) ?_
          refine Ex_icmp_ne (tgt := 96) dX8_theatre_89 (by decide) ?_ ?_
          · refine Ex_aload_n dX8_theatre_96 rfl 1 rfl ?_
            refine Ex_get (v := .ref (a0 + (t + 70))) fgX8_58 hk0 (by decide) rfl dX8_theatre_97 ?_
            refine Ex_get (v := .ref (a0 + ((t + 70) + 2))) fgX8_243 (kn_8_70 hk0) (by decide) rfl dX8_theatre_100 ?_
            refine Ex_iload_n dX8_theatre_103 rfl 2 rfl ?_
            refine Ex_iald 5 (kn_6_2 (kn_8_70 hk0)) (by decide) dX8_theatre_104 ?_
            exact Ex_iret dX8_theatre_105 rfl (fun ty h => by cases h; rfl)
          · refine Ex_iload_n dX8_theatre_92 rfl 0 rfl ?_
            refine Ex_goto (tgt := 105) dX8_theatre_93 (by decide) ?_
            exact Ex_iret dX8_theatre_105 rfl (fun ty h => by cases h; rfl)
      · refine Ex_aload_n dX8_theatre_16 rfl 0 rfl ?_
        refine Ex_iload_n dX8_theatre_17 rfl 2 rfl ?_
        refine Ex_callVR (n := 1) (dp2 := 0) [.int p2] cvX8_110 hk0 rfl rfl (by decide) (by decide) (Nat.le_of_ble_eq_true rfl) rfl (fun v hv => c_X8_noPerson a0 F μ t p2 hk0 hv) dX8_theatre_18 (fun v_17 hv_19 => ?_)
        refine Ex_if_eq (tgt := 26) dX8_theatre_21 (by decide) ?_ ?_
        · refine Ex_aload_n dX8_theatre_26 rfl 0 rfl ?_
          refine Ex_get (v := .ref (a0 + (t + 70))) fgX8_58 hk0 (by decide) rfl dX8_theatre_27 ?_
          refine Ex_iload_n dX8_theatre_30 rfl 1 rfl ?_
          refine Ex_aload_n dX8_theatre_31 rfl 0 rfl ?_
          refine Ex_wt (fun hw_20 => ?_)
          refine Ex_get (v := .ref (a0 + (gR μ t 1))) fgX8_19 hk0 (by decide) rfl dX8_theatre_32 ?_
          refine Ex_get (v := .int (gI μ (gR μ t 1) 5)) fgX8_232 (WT_k hw_20 hk0 (K := 8) rfl (by decide)) (by decide) rfl dX8_theatre_35 ?_
          refine Ex_callVV (n := 2) (dp2 := 1) [.int p1, .int (gI μ (gR μ t 1) 5)] cvX8_235 (kn_8_70 hk0) rfl rfl (by decide) (by decide) (Nat.le_of_ble_eq_true rfl) rfl (fun μ2 hv => c_X6_begin a0 F μ (t + 70) p1 (gI μ (gR μ t 1) 5) (kn_8_70 hk0) hv) dX8_theatre_38 (fun μ_22 hv_23 => ?_)
          refine Ex_iconst (v := 0) dX8_theatre_41 (by decide) ?_
          refine Ex_istore_n (L2 := [(3, .int 0), (0, .ref (a0 + t)), (1, .int p1), (2, .int p2)]) dX8_theatre_42 rfl (by decide) rfl ?_
          refine Ex_perm [1, 3, 0] rfl ?_
          refine c_X8_theatre_L43 a0 F t p2 _ hk0 (fun x3_24 μ_25 => ?_) F 0 μ_22
          refine Ex_aload_n dX8_theatre_73 rfl 0 rfl ?_
          refine Ex_get (v := .ref (a0 + (t + 70))) fgX8_58 hk0 (by decide) rfl dX8_theatre_74 ?_
          refine Ex_callVW (n := 0) (dp2 := 10) [] cvX8_240 (kn_8_70 hk0) rfl rfl (by decide) (by decide) (Nat.le_of_ble_eq_true rfl) rfl (fun v μ2 hv => c_X6_fill a0 F μ_25 (t + 70) (kn_8_70 hk0) hv) dX8_theatre_77 (fun v_26 μ_27 hv_28 => ?_)
          refine Ex_istore_n (L2 := [(3, .int v_26), (0, .ref (a0 + t)), (2, .int p2)]) dX8_theatre_80 rfl (by decide) rfl ?_
          refine Ex_iload_n dX8_theatre_81 rfl 0 rfl ?_
          refine Ex_bipush (v := (-9)) dX8_theatre_82 (by decide) ?_
          refine Ex_icmp_eq (tgt := 92) dX8_theatre_84 (by decide) ?_ ?_
          · refine Ex_iload_n dX8_theatre_92 rfl 0 rfl ?_
            refine Ex_goto (tgt := 105) dX8_theatre_93 (by decide) ?_
            exact Ex_iret dX8_theatre_105 rfl (fun ty h => by cases h; rfl)
          · refine Ex_iload_n dX8_theatre_87 rfl 2 rfl ?_
            refine Ex_iconst (v := (-1)) dX8_theatre_88 (by decide) ?_
            refine Ex_icmp_ne (tgt := 96) dX8_theatre_89 (by decide) ?_ ?_
            · refine Ex_aload_n dX8_theatre_96 rfl 1 rfl ?_
              refine Ex_get (v := .ref (a0 + (t + 70))) fgX8_58 hk0 (by decide) rfl dX8_theatre_97 ?_
              refine Ex_get (v := .ref (a0 + ((t + 70) + 2))) fgX8_243 (kn_8_70 hk0) (by decide) rfl dX8_theatre_100 ?_
              refine Ex_iload_n dX8_theatre_103 rfl 2 rfl ?_
              refine Ex_iald 5 (kn_6_2 (kn_8_70 hk0)) (by decide) dX8_theatre_104 ?_
              exact Ex_iret dX8_theatre_105 rfl (fun ty h => by cases h; rfl)
            · refine Ex_iload_n dX8_theatre_92 rfl 0 rfl ?_
              refine Ex_goto (tgt := 105) dX8_theatre_93 (by decide) ?_
              exact Ex_iret dX8_theatre_105 rfl (fun ty h => by cases h; rfl)
        · refine Ex_iconst (v := (-1)) dX8_theatre_24 (by decide) ?_
          exact Ex_iret dX8_theatre_25 rfl (fun ty h => by cases h; rfl)

def f_X8_trace (F : Nat) (μ : Mem) (t : Nat) : Option (Int64) := some (gL μ t)
set_option maxRecDepth 100000 in
set_option maxHeartbeats 4000000 in
theorem c_X8_trace (a0 F : Nat) (μ : Mem) (t : Nat) (hk0 : kd t = 8) {v : Int64} (hr : f_X8_trace F μ t = some v) : Ct a0 yX8_trace cX8_trace 1 (some .long) 0 [.ref (a0 + t)] μ (some (.long v)) μ := by
  refine Ct_of (own := RX8) (ι := (fun v => (some (.long v), μ))) (o := f_X8_trace F μ t) (by decide +kernel) rfl (Nat.le_of_ble_eq_true rfl) ?_ hr rfl rfl
  show Ex a0 RX8 cX8_trace 1 (some .long) 0 none (fun v => (some (.long v), μ)) 0 [(0, .ref (a0 + t))] [] μ (f_X8_trace F μ t)
  unfold f_X8_trace
  refine Ex_aload_n dX8_trace_0 rfl 0 rfl ?_
  refine Ex_get (v := .long (gL μ t)) fgX8_62 hk0 (by decide) rfl dX8_trace_1 ?_
  exact Ex_lret dX8_trace_4 rfl (fun ty h => by cases h; rfl)

def f_X8_type (F : Nat) (μ : Mem) (t : Nat) (p1 : Int32) : Option (Int32 × Mem) := (if p1 < 0 then some ((-1), μ) else (if 255 < p1 then some ((-1), μ) else bW (f_X5_add F μ ((t + 1) + 1) p1) (fun v_1 μ_2 => (if v_1 = 0 then some ((-3), μ_2) else some (gI μ_2 ((t + 1) + 1) 1, μ_2)))))
set_option maxRecDepth 100000 in
set_option maxHeartbeats 4000000 in
theorem c_X8_type (a0 F : Nat) (μ : Mem) (t : Nat) (p1 : Int32) (hk0 : kd t = 8) {v : Int32} {μ2 : Mem} (hr : f_X8_type F μ t p1 = some (v, μ2)) : Ct a0 yX8_type cX8_type 2 (some .int) 1 [.ref (a0 + t), .int p1] μ (some (.int v)) μ2 := by
  refine Ct_of (own := RX8) (ι := (fun x => (some (.int x.1), x.2))) (o := f_X8_type F μ t p1) (by decide +kernel) rfl (Nat.le_of_ble_eq_true rfl) ?_ hr rfl ⟨_, rfl⟩
  show Ex a0 RX8 cX8_type 2 (some .int) 1 none (fun x => (some (.int x.1), x.2)) 0 [(0, .ref (a0 + t)), (1, .int p1)] [] μ (f_X8_type F μ t p1)
  unfold f_X8_type
  refine Ex_iload_n dX8_type_0 rfl 1 rfl ?_
  refine Ex_if_lt (tgt := 11) dX8_type_1 (by decide) ?_ ?_
  · refine Ex_iconst (v := (-1)) dX8_type_11 (by decide) ?_
    exact Ex_iret dX8_type_12 rfl (fun ty h => by cases h; rfl)
  · refine Ex_iload_n dX8_type_4 rfl 1 rfl ?_
    refine Ex_sipush (v := 255) dX8_type_5 (by decide) ?_
    refine Ex_icmp_le (tgt := 13) dX8_type_8 (by decide) ?_ ?_
    · refine Ex_aload_n dX8_type_13 rfl 0 rfl ?_
      refine Ex_get (v := .ref (a0 + (t + 1))) fgX8_10 hk0 (by decide) rfl dX8_type_14 ?_
      refine Ex_get (v := .ref (a0 + ((t + 1) + 1))) fgX8_66 (kn_8_1 hk0) (by decide) rfl dX8_type_17 ?_
      refine Ex_iload_n dX8_type_20 rfl 1 rfl ?_
      refine Ex_callVW (n := 1) (dp2 := 0) [.int p1] cvX8_70 (kn_4_1 (kn_8_1 hk0)) rfl rfl (by decide) (by decide) (Nat.le_of_ble_eq_true rfl) rfl (fun v μ2 hv => c_X5_add a0 F μ ((t + 1) + 1) p1 (kn_4_1 (kn_8_1 hk0)) hv) dX8_type_21 (fun v_1 μ_2 hv_3 => ?_)
      refine Ex_if_eq (tgt := 40) dX8_type_24 (by decide) ?_ ?_
      · refine Ex_bipush (v := (-3)) dX8_type_40 (by decide) ?_
        exact Ex_iret dX8_type_42 rfl (fun ty h => by cases h; rfl)
      · refine Ex_aload_n dX8_type_27 rfl 0 rfl ?_
        refine Ex_get (v := .ref (a0 + (t + 1))) fgX8_10 hk0 (by decide) rfl dX8_type_28 ?_
        refine Ex_get (v := .ref (a0 + ((t + 1) + 1))) fgX8_66 (kn_8_1 hk0) (by decide) rfl dX8_type_31 ?_
        refine Ex_get (v := .int (gI μ_2 ((t + 1) + 1) 1)) fgX8_76 (kn_4_1 (kn_8_1 hk0)) (by decide) rfl dX8_type_34 ?_
        refine Ex_goto (tgt := 42) dX8_type_37 (by decide) ?_
        exact Ex_iret dX8_type_42 rfl (fun ty h => by cases h; rfl)
    · refine Ex_iconst (v := (-1)) dX8_type_11 (by decide) ?_
      exact Ex_iret dX8_type_12 rfl (fun ty h => by cases h; rfl)

def f_X8_undo (F : Nat) (μ : Mem) (t : Nat) : Option (Int32 × Mem) := bW (f_X0_stepBack F μ (t + 16)) (fun v_1 μ_2 => (if v_1 = 0 then some ((-2), μ_2) else some (gI μ_2 (t + 16) 2, μ_2)))
set_option maxRecDepth 100000 in
set_option maxHeartbeats 4000000 in
theorem c_X8_undo (a0 F : Nat) (μ : Mem) (t : Nat) (hk0 : kd t = 8) {v : Int32} {μ2 : Mem} (hr : f_X8_undo F μ t = some (v, μ2)) : Ct a0 yX8_undo cX8_undo 1 (some .int) 2 [.ref (a0 + t)] μ (some (.int v)) μ2 := by
  refine Ct_of (own := RX8) (ι := (fun x => (some (.int x.1), x.2))) (o := f_X8_undo F μ t) (by decide +kernel) rfl (Nat.le_of_ble_eq_true rfl) ?_ hr rfl ⟨_, rfl⟩
  show Ex a0 RX8 cX8_undo 1 (some .int) 2 none (fun x => (some (.int x.1), x.2)) 0 [(0, .ref (a0 + t))] [] μ (f_X8_undo F μ t)
  unfold f_X8_undo
  refine Ex_aload_n dX8_undo_0 rfl 0 rfl ?_
  refine Ex_get (v := .ref (a0 + (t + 16))) fgX8_29 hk0 (by decide) rfl dX8_undo_1 ?_
  refine Ex_callVW (n := 0) (dp2 := 1) [] cvX8_172 (kn_8_16 hk0) rfl rfl (by decide) (by decide) (Nat.le_of_ble_eq_true rfl) rfl (fun v μ2 hv => c_X0_stepBack a0 F μ (t + 16) (kn_8_16 hk0) hv) dX8_undo_4 (fun v_1 μ_2 hv_3 => ?_)
  refine Ex_if_eq (tgt := 20) dX8_undo_7 (by decide) ?_ ?_
  · refine Ex_bipush (v := (-2)) dX8_undo_20 (by decide) ?_
    exact Ex_iret dX8_undo_22 rfl (fun ty h => by cases h; rfl)
  · refine Ex_aload_n dX8_undo_10 rfl 0 rfl ?_
    refine Ex_get (v := .ref (a0 + (t + 16))) fgX8_29 hk0 (by decide) rfl dX8_undo_11 ?_
    refine Ex_get (v := .int (gI μ_2 (t + 16) 2)) fgX8_176 (kn_8_16 hk0) (by decide) rfl dX8_undo_14 ?_
    refine Ex_goto (tgt := 22) dX8_undo_17 (by decide) ?_
    exact Ex_iret dX8_undo_22 rfl (fun ty h => by cases h; rfl)

def f_X8_way (F : Nat) (μ : Mem) (t : Nat) (p1 : Int32) (p2 : Int32) (p3 : Int32) : Option (Int32 × Mem) := (f_X8_noPerson F μ t p1).bind (fun v_1 => (if v_1 = 0 then (f_X8_noPlace F μ t p2).bind (fun v_4 => (if v_4 = 0 then (if p3 < (-1) then some ((-1), μ) else (f_X8_passable F μ t p1).bind (fun v_8 => (f_X1_countLanes F μ (t + 67) (gR μ t 1) p2 v_8).bind (fun μ_12 => if ix p1 5 = true then lt (gI μ_12 (((t + 16) + 1) + 2) p1.toNatClampNeg) (fun x4_14 => (f_X1_from F μ_12 (t + 67) x4_14).bind (fun v_15 => (if v_15 = (-9) then some (v_15, μ_12) else (if p3 = (-1) then some (v_15, μ_12) else (if p3 < v_15 then (f_X1_laneOfWay F μ_12 (t + 67) (gR μ_12 t 1) x4_14 p3).bind (fun v_19 => some (v_19, μ_12)) else some ((-9), μ_12)))))) else none))) else some ((-1), μ))) else some ((-1), μ)))
set_option maxRecDepth 100000 in
set_option maxHeartbeats 4000000 in
theorem c_X8_way (a0 F : Nat) (μ : Mem) (t : Nat) (p1 : Int32) (p2 : Int32) (p3 : Int32) (hk0 : kd t = 8) {v : Int32} {μ2 : Mem} (hr : f_X8_way F μ t p1 p2 p3 = some (v, μ2)) : Ct a0 yX8_way cX8_way 6 (some .int) 3 [.ref (a0 + t), .int p1, .int p2, .int p3] μ (some (.int v)) μ2 := by
  refine Ct_of (own := RX8) (ι := (fun x => (some (.int x.1), x.2))) (o := f_X8_way F μ t p1 p2 p3) (by decide +kernel) rfl (Nat.le_of_ble_eq_true rfl) ?_ hr rfl ⟨_, rfl⟩
  show Ex a0 RX8 cX8_way 6 (some .int) 3 none (fun x => (some (.int x.1), x.2)) 0 [(0, .ref (a0 + t)), (1, .int p1), (2, .int p2), (3, .int p3)] [] μ (f_X8_way F μ t p1 p2 p3)
  unfold f_X8_way
  refine Ex_aload_n dX8_way_0 rfl 0 rfl ?_
  refine Ex_iload_n dX8_way_1 rfl 1 rfl ?_
  refine Ex_callVR (n := 1) (dp2 := 0) [.int p1] cvX8_110 hk0 rfl rfl (by decide) (by decide) (Nat.le_of_ble_eq_true rfl) rfl (fun v hv => c_X8_noPerson a0 F μ t p1 hk0 hv) dX8_way_2 (fun v_1 hv_3 => ?_)
  refine Ex_if_ne (tgt := 21) dX8_way_5 (by decide) ?_ ?_
  · refine Ex_iconst (v := (-1)) dX8_way_21 (by decide) ?_
    exact Ex_iret dX8_way_22 rfl (fun ty h => by cases h; rfl)
  · refine Ex_aload_n dX8_way_8 rfl 0 rfl ?_
    refine Ex_iload_n dX8_way_9 rfl 2 rfl ?_
    refine Ex_callVR (n := 1) (dp2 := 0) [.int p2] cvX8_189 hk0 rfl rfl (by decide) (by decide) (Nat.le_of_ble_eq_true rfl) rfl (fun v hv => c_X8_noPlace a0 F μ t p2 hk0 hv) dX8_way_10 (fun v_4 hv_6 => ?_)
    refine Ex_if_ne (tgt := 21) dX8_way_13 (by decide) ?_ ?_
    · refine Ex_iconst (v := (-1)) dX8_way_21 (by decide) ?_
      exact Ex_iret dX8_way_22 rfl (fun ty h => by cases h; rfl)
    · refine Ex_iload_n dX8_way_16 rfl 3 rfl ?_
      refine Ex_iconst (v := (-1)) dX8_way_17 (by decide) ?_
      refine Ex_icmp_ge (tgt := 23) dX8_way_18 (by decide) ?_ ?_
      · refine Ex_aload_n dX8_way_23 rfl 0 rfl ?_
        refine Ex_get (v := .ref (a0 + (t + 67))) fgX8_51 hk0 (by decide) rfl dX8_way_24 ?_
        refine Ex_aload_n dX8_way_27 rfl 0 rfl ?_
        refine Ex_wt (fun hw_7 => ?_)
        refine Ex_get (v := .ref (a0 + (gR μ t 1))) fgX8_19 hk0 (by decide) rfl dX8_way_28 ?_
        refine Ex_iload_n dX8_way_31 rfl 2 rfl ?_
        refine Ex_aload_n dX8_way_32 rfl 0 rfl ?_
        refine Ex_iload_n dX8_way_33 rfl 1 rfl ?_
        refine Ex_callVR (n := 1) (dp2 := 2) [.int p1] cvX8_192 hk0 rfl rfl (by decide) (by decide) (Nat.le_of_ble_eq_true rfl) rfl (fun v hv => c_X8_passable a0 F μ t p1 hk0 hv) dX8_way_34 (fun v_8 hv_10 => ?_)
        refine Ex_callVV (n := 3) (dp2 := 2) [.ref (a0 + (gR μ t 1)), .int p2, .int v_8] cvX8_195 (kn_8_67 hk0) rfl rfl (by decide) (by decide) (Nat.le_of_ble_eq_true rfl) rfl (fun μ2 hv => c_X1_countLanes a0 F μ (t + 67) (gR μ t 1) p2 v_8 (kn_8_67 hk0) (WT_k hw_7 hk0 (K := 8) rfl (by decide)) hv) dX8_way_37 (fun μ_12 hv_13 => ?_)
        refine Ex_aload_n dX8_way_40 rfl 0 rfl ?_
        refine Ex_get (v := .ref (a0 + (t + 16))) fgX8_29 hk0 (by decide) rfl dX8_way_41 ?_
        refine Ex_get (v := .ref (a0 + ((t + 16) + 1))) fgX8_113 (kn_8_16 hk0) (by decide) rfl dX8_way_44 ?_
        refine Ex_get (v := .ref (a0 + (((t + 16) + 1) + 2))) fgX8_122 (kn_0_1 (kn_8_16 hk0)) (by decide) rfl dX8_way_47 ?_
        refine Ex_iload_n dX8_way_50 rfl 1 rfl ?_
        refine Ex_iald 5 (kn_3_2 (kn_0_1 (kn_8_16 hk0))) (by decide) dX8_way_51 ?_
        refine Ex_top (fun x4_14 => ?_)
        refine Ex_istore (L2 := [(4, .int x4_14), (0, .ref (a0 + t)), (1, .int p1), (2, .int p2), (3, .int p3)]) dX8_way_52 (by decide) rfl ?_
        refine Ex_aload_n dX8_way_54 rfl 1 rfl ?_
        refine Ex_get (v := .ref (a0 + (t + 67))) fgX8_51 hk0 (by decide) rfl dX8_way_55 ?_
        refine Ex_iload dX8_way_58 0 rfl ?_
        refine Ex_callVR (n := 1) (dp2 := 0) [.int x4_14] cvX8_199 (kn_8_67 hk0) rfl rfl (by decide) (by decide) (Nat.le_of_ble_eq_true rfl) rfl (fun v hv => c_X1_from a0 F μ_12 (t + 67) x4_14 (kn_8_67 hk0) hv) dX8_way_60 (fun v_15 hv_17 => ?_)
        refine Ex_istore (L2 := [(5, .int v_15), (4, .int x4_14), (0, .ref (a0 + t)), (1, .int p1), (2, .int p2), (3, .int p3)]) dX8_way_63 (by decide) rfl ?_
        refine Ex_iload dX8_way_65 0 rfl ?_
        refine Ex_bipush (v := (-9)) dX8_way_67 (by decide) ?_
        refine Ex_icmp_eq (tgt := 77) dX8_way_69 (by decide) ?_ ?_
        · refine Ex_iload dX8_way_77 0 rfl ?_
          exact Ex_iret dX8_way_79 rfl (fun ty h => by cases h; rfl)
        · refine Ex_iload_n dX8_way_72 rfl 5 rfl ?_
          refine Ex_iconst (v := (-1)) dX8_way_73 (by decide) ?_
          refine Ex_icmp_ne (tgt := 80) dX8_way_74 (by decide) ?_ ?_
          · refine Ex_iload_n dX8_way_80 rfl 5 rfl ?_
            refine Ex_iload dX8_way_81 0 rfl ?_
            refine Ex_icmp_ge (tgt := 103) dX8_way_83 (by decide) ?_ ?_
            · refine Ex_bipush (v := (-9)) dX8_way_103 (by decide) ?_
              exact Ex_iret dX8_way_105 rfl (fun ty h => by cases h; rfl)
            · refine Ex_aload_n dX8_way_86 rfl 2 rfl ?_
              refine Ex_get (v := .ref (a0 + (t + 67))) fgX8_51 hk0 (by decide) rfl dX8_way_87 ?_
              refine Ex_aload_n dX8_way_90 rfl 2 rfl ?_
              refine Ex_wt (fun hw_18 => ?_)
              refine Ex_get (v := .ref (a0 + (gR μ_12 t 1))) fgX8_19 hk0 (by decide) rfl dX8_way_91 ?_
              refine Ex_iload dX8_way_94 1 rfl ?_
              refine Ex_iload_n dX8_way_96 rfl 5 rfl ?_
              refine Ex_callVR (n := 3) (dp2 := 1) [.ref (a0 + (gR μ_12 t 1)), .int x4_14, .int p3] cvX8_202 (kn_8_67 hk0) rfl rfl (by decide) (by decide) (Nat.le_of_ble_eq_true rfl) rfl (fun v hv => c_X1_laneOfWay a0 F μ_12 (t + 67) (gR μ_12 t 1) x4_14 p3 (kn_8_67 hk0) (WT_k hw_18 hk0 (K := 8) rfl (by decide)) hv) dX8_way_97 (fun v_19 hv_21 => ?_)
              refine Ex_goto (tgt := 105) dX8_way_100 (by decide) ?_
              exact Ex_iret dX8_way_105 rfl (fun ty h => by cases h; rfl)
          · refine Ex_iload dX8_way_77 0 rfl ?_
            exact Ex_iret dX8_way_79 rfl (fun ty h => by cases h; rfl)
      · refine Ex_iconst (v := (-1)) dX8_way_21 (by decide) ?_
        exact Ex_iret dX8_way_22 rfl (fun ty h => by cases h; rfl)
