def f_X9_other (F : Nat) (μ : Mem) (t : Nat) (p1 : Int32) (p2 : Int32) : Option (Int32) := if ix p1 16 = true then (if (gI μ (t + 4) p1.toNatClampNeg) = p2 then if ix p1 16 = true then some (gI μ (t + 5) p1.toNatClampNeg) else none else if ix p1 16 = true then some (gI μ (t + 4) p1.toNatClampNeg) else none) else none
set_option maxRecDepth 100000 in
set_option maxHeartbeats 4000000 in
theorem c_X9_other (a0 F : Nat) (μ : Mem) (t : Nat) (p1 : Int32) (p2 : Int32) (hk0 : kd t = 9) {v : Int32} (hr : f_X9_other F μ t p1 p2 = some v) : Ct a0 yX9_other cX9_other 3 (some .int) 0 [.ref (a0 + t), .int p1, .int p2] μ (some (.int v)) μ := by
  refine Ct_of (own := RX9) (ι := (fun v => (some (.int v), μ))) (o := f_X9_other F μ t p1 p2) (by decide +kernel) rfl (Nat.le_of_ble_eq_true rfl) ?_ hr rfl ⟨_, rfl⟩
  show Ex a0 RX9 cX9_other 3 (some .int) 0 none (fun v => (some (.int v), μ)) 0 [(0, .ref (a0 + t)), (1, .int p1), (2, .int p2)] [] μ (f_X9_other F μ t p1 p2)
  unfold f_X9_other
  refine Ex_aload_n dX9_other_0 rfl 0 rfl ?_
  refine Ex_get (v := .ref (a0 + (t + 4))) fgX9_20 hk0 (by decide) rfl dX9_other_1 ?_
  refine Ex_iload_n dX9_other_4 rfl 1 rfl ?_
  refine Ex_iald 16 (kn_9_4 hk0) (by decide) dX9_other_5 ?_
  refine Ex_iload_n dX9_other_6 rfl 2 rfl ?_
  refine Ex_icmp_ne (tgt := 19) dX9_other_7 (by decide) ?_ ?_
  · refine Ex_aload_n dX9_other_19 rfl 0 rfl ?_
    refine Ex_get (v := .ref (a0 + (t + 4))) fgX9_20 hk0 (by decide) rfl dX9_other_20 ?_
    refine Ex_iload_n dX9_other_23 rfl 1 rfl ?_
    refine Ex_iald 16 (kn_9_4 hk0) (by decide) dX9_other_24 ?_
    exact Ex_iret dX9_other_25 rfl (fun ty h => by cases h; rfl)
  · refine Ex_aload_n dX9_other_10 rfl 0 rfl ?_
    refine Ex_get (v := .ref (a0 + (t + 5))) fgX9_23 hk0 (by decide) rfl dX9_other_11 ?_
    refine Ex_iload_n dX9_other_14 rfl 1 rfl ?_
    refine Ex_iald 16 (kn_9_5 hk0) (by decide) dX9_other_15 ?_
    refine Ex_goto (tgt := 25) dX9_other_16 (by decide) ?_
    exact Ex_iret dX9_other_25 rfl (fun ty h => by cases h; rfl)

def f_X9_goes (F : Nat) (μ : Mem) (t : Nat) (p1 : Int32) (p2 : Int32) : Option (Int32 × Mem) := (f_X9_isPerson F μ t p1).bind (fun v_1 => (if v_1 = 0 then some ((-1), μ) else (f_X9_isLane F μ t p2).bind (fun v_4 => (if v_4 = 0 then some ((-1), μ) else if ix (0 + p1) 531 = true then (f_X9_ends F μ t p2 (gI μ (t + 12) ((0 + p1).toNatClampNeg))).bind (fun v_7 => (if v_7 = 0 then some ((-2), μ) else (f_X9_canGo F μ t p1 p2 (gI μ (t + 12) 15)).bind (fun v_10 => (if v_10 = 0 then some ((-2), μ) else (f_X9_know F μ t).bind (fun μ_14 => if ix (0 + p1) 531 = true then (f_X9_other F μ_14 t p2 (gI μ_14 (t + 12) ((0 + p1).toNatClampNeg))).bind (fun v_16 => if ix (0 + p1) 531 = true then lt (sI μ_14 (t + 12) ((0 + p1).toNatClampNeg) v_16) (fun μ_19 => if ix (0 + p1) 531 = true then some (gI μ_19 (t + 12) ((0 + p1).toNatClampNeg), μ_19) else none) else none) else none))))) else none))))
set_option maxRecDepth 100000 in
set_option maxHeartbeats 4000000 in
theorem c_X9_goes (a0 F : Nat) (μ : Mem) (t : Nat) (p1 : Int32) (p2 : Int32) (hk0 : kd t = 9) {v : Int32} {μ2 : Mem} (hr : f_X9_goes F μ t p1 p2 = some (v, μ2)) : Ct a0 yX9_goes cX9_goes 3 (some .int) 2 [.ref (a0 + t), .int p1, .int p2] μ (some (.int v)) μ2 := by
  refine Ct_of (own := RX9) (ι := (fun x => (some (.int x.1), x.2))) (o := f_X9_goes F μ t p1 p2) (by decide +kernel) rfl (Nat.le_of_ble_eq_true rfl) ?_ hr rfl ⟨_, rfl⟩
  show Ex a0 RX9 cX9_goes 3 (some .int) 2 none (fun x => (some (.int x.1), x.2)) 0 [(0, .ref (a0 + t)), (1, .int p1), (2, .int p2)] [] μ (f_X9_goes F μ t p1 p2)
  unfold f_X9_goes
  refine Ex_aload_n dX9_goes_0 rfl 0 rfl ?_
  refine Ex_iload_n dX9_goes_1 rfl 1 rfl ?_
  refine Ex_callVR (n := 1) (dp2 := 1) [.int p1] cvX9_141 hk0 rfl rfl (by decide) (by decide) (Nat.le_of_ble_eq_true rfl) rfl (fun v hv => c_X9_isPerson a0 F μ t p1 hk0 hv) dX9_goes_2 (fun v_1 hv_3 => ?_)
  refine Ex_if_eq (tgt := 16) dX9_goes_5 (by decide) ?_ ?_
  · refine Ex_iconst (v := (-1)) dX9_goes_16 (by decide) ?_
    exact Ex_iret dX9_goes_17 rfl (fun ty h => by cases h; rfl)
  · refine Ex_aload_n dX9_goes_8 rfl 0 rfl ?_
    refine Ex_iload_n dX9_goes_9 rfl 2 rfl ?_
    refine Ex_callVR (n := 1) (dp2 := 1) [.int p2] cvX9_134 hk0 rfl rfl (by decide) (by decide) (Nat.le_of_ble_eq_true rfl) rfl (fun v hv => c_X9_isLane a0 F μ t p2 hk0 hv) dX9_goes_10 (fun v_4 hv_6 => ?_)
    refine Ex_if_ne (tgt := 18) dX9_goes_13 (by decide) ?_ ?_
    · refine Ex_aload_n dX9_goes_18 rfl 0 rfl ?_
      refine Ex_iload_n dX9_goes_19 rfl 2 rfl ?_
      refine Ex_aload_n dX9_goes_20 rfl 0 rfl ?_
      refine Ex_get (v := .ref (a0 + (t + 12))) fgX9_44 hk0 (by decide) rfl dX9_goes_21 ?_
      refine Ex_iconst (v := 0) dX9_goes_24 (by decide) ?_
      refine Ex_iload_n dX9_goes_25 rfl 1 rfl ?_
      refine Ex_iadd dX9_goes_26 ?_
      refine Ex_iald 531 (kn_9_12 hk0) (by decide) dX9_goes_27 ?_
      refine Ex_callVR (n := 2) (dp2 := 0) [.int p2, .int (gI μ (t + 12) ((0 + p1).toNatClampNeg))] cvX9_144 hk0 rfl rfl (by decide) (by decide) (Nat.le_of_ble_eq_true rfl) rfl (fun v hv => c_X9_ends a0 F μ t p2 (gI μ (t + 12) ((0 + p1).toNatClampNeg)) hk0 hv) dX9_goes_28 (fun v_7 hv_9 => ?_)
      refine Ex_if_eq (tgt := 50) dX9_goes_31 (by decide) ?_ ?_
      · refine Ex_bipush (v := (-2)) dX9_goes_50 (by decide) ?_
        exact Ex_iret dX9_goes_52 rfl (fun ty h => by cases h; rfl)
      · refine Ex_aload_n dX9_goes_34 rfl 0 rfl ?_
        refine Ex_iload_n dX9_goes_35 rfl 1 rfl ?_
        refine Ex_iload_n dX9_goes_36 rfl 2 rfl ?_
        refine Ex_aload_n dX9_goes_37 rfl 0 rfl ?_
        refine Ex_get (v := .ref (a0 + (t + 12))) fgX9_44 hk0 (by decide) rfl dX9_goes_38 ?_
        refine Ex_bipush (v := 15) dX9_goes_41 (by decide) ?_
        refine Ex_ialdC (j := 15) 531 (kn_9_12 hk0) (by decide) (by decide) (by decide) dX9_goes_43 ?_
        refine Ex_callVR (n := 3) (dp2 := 1) [.int p1, .int p2, .int (gI μ (t + 12) 15)] cvX9_128 hk0 rfl rfl (by decide) (by decide) (Nat.le_of_ble_eq_true rfl) rfl (fun v hv => c_X9_canGo a0 F μ t p1 p2 (gI μ (t + 12) 15) hk0 hv) dX9_goes_44 (fun v_10 hv_12 => ?_)
        refine Ex_if_ne (tgt := 53) dX9_goes_47 (by decide) ?_ ?_
        · refine Ex_aload_n dX9_goes_53 rfl 0 rfl ?_
          refine Ex_callVV (n := 0) (dp2 := 0) [] cvX9_147 hk0 rfl rfl (by decide) (by decide) (Nat.le_of_ble_eq_true rfl) rfl (fun μ2 hv => c_X9_know a0 F μ t hk0 hv) dX9_goes_54 (fun μ_14 hv_15 => ?_)
          refine Ex_aload_n dX9_goes_57 rfl 0 rfl ?_
          refine Ex_get (v := .ref (a0 + (t + 12))) fgX9_44 hk0 (by decide) rfl dX9_goes_58 ?_
          refine Ex_iconst (v := 0) dX9_goes_61 (by decide) ?_
          refine Ex_iload_n dX9_goes_62 rfl 1 rfl ?_
          refine Ex_iadd dX9_goes_63 ?_
          refine Ex_aload_n dX9_goes_64 rfl 0 rfl ?_
          refine Ex_iload_n dX9_goes_65 rfl 2 rfl ?_
          refine Ex_aload_n dX9_goes_66 rfl 0 rfl ?_
          refine Ex_get (v := .ref (a0 + (t + 12))) fgX9_44 hk0 (by decide) rfl dX9_goes_67 ?_
          refine Ex_iconst (v := 0) dX9_goes_70 (by decide) ?_
          refine Ex_iload_n dX9_goes_71 rfl 1 rfl ?_
          refine Ex_iadd dX9_goes_72 ?_
          refine Ex_iald 531 (kn_9_12 hk0) (by decide) dX9_goes_73 ?_
          refine Ex_callVR (n := 2) (dp2 := 0) [.int p2, .int (gI μ_14 (t + 12) ((0 + p1).toNatClampNeg))] cvX9_150 hk0 rfl rfl (by decide) (by decide) (Nat.le_of_ble_eq_true rfl) rfl (fun v hv => c_X9_other a0 F μ_14 t p2 (gI μ_14 (t + 12) ((0 + p1).toNatClampNeg)) hk0 hv) dX9_goes_74 (fun v_16 hv_18 => ?_)
          refine Ex_iast 531 (kn_9_12 hk0) (by decide) dX9_goes_77 (fun μ_19 => ?_)
          refine Ex_aload_n dX9_goes_78 rfl 0 rfl ?_
          refine Ex_get (v := .ref (a0 + (t + 12))) fgX9_44 hk0 (by decide) rfl dX9_goes_79 ?_
          refine Ex_iconst (v := 0) dX9_goes_82 (by decide) ?_
          refine Ex_iload_n dX9_goes_83 rfl 1 rfl ?_
          refine Ex_iadd dX9_goes_84 ?_
          refine Ex_iald 531 (kn_9_12 hk0) (by decide) dX9_goes_85 ?_
          exact Ex_iret dX9_goes_86 rfl (fun ty h => by cases h; rfl)
        · refine Ex_bipush (v := (-2)) dX9_goes_50 (by decide) ?_
          exact Ex_iret dX9_goes_52 rfl (fun ty h => by cases h; rfl)
    · refine Ex_iconst (v := (-1)) dX9_goes_16 (by decide) ?_
      exact Ex_iret dX9_goes_17 rfl (fun ty h => by cases h; rfl)

def f_X9_isPlace (F : Nat) (μ : Mem) (t : Nat) (p1 : Int32) : Option (Int32) := (f_X9_in F μ p1 0 ((gI μ (t + 2) 0) - 1)).bind (fun v_1 => some v_1)
set_option maxRecDepth 100000 in
set_option maxHeartbeats 4000000 in
theorem c_X9_isPlace (a0 F : Nat) (μ : Mem) (t : Nat) (p1 : Int32) (hk0 : kd t = 9) {v : Int32} (hr : f_X9_isPlace F μ t p1 = some v) : Ct a0 yX9_isPlace cX9_isPlace 2 (some .boolean) 1 [.ref (a0 + t), .int p1] μ (some (.int v)) μ := by
  refine Ct_of (own := RX9) (ι := (fun v => (some (.int v), μ))) (o := f_X9_isPlace F μ t p1) (by decide +kernel) rfl (Nat.le_of_ble_eq_true rfl) ?_ hr rfl ⟨_, rfl⟩
  show Ex a0 RX9 cX9_isPlace 2 (some .boolean) 1 none (fun v => (some (.int v), μ)) 0 [(0, .ref (a0 + t)), (1, .int p1)] [] μ (f_X9_isPlace F μ t p1)
  unfold f_X9_isPlace
  refine Ex_iload_n dX9_isPlace_0 rfl 1 rfl ?_
  refine Ex_iconst (v := 0) dX9_isPlace_1 (by decide) ?_
  refine Ex_aload_n dX9_isPlace_2 rfl 0 rfl ?_
  refine Ex_get (v := .ref (a0 + (t + 2))) fgX9_13 hk0 (by decide) rfl dX9_isPlace_3 ?_
  refine Ex_iconst (v := 0) dX9_isPlace_6 (by decide) ?_
  refine Ex_ialdC (j := 0) 2 (kn_9_2 hk0) (by decide) (by decide) (by decide) dX9_isPlace_7 ?_
  refine Ex_iconst (v := 1) dX9_isPlace_8 (by decide) ?_
  refine Ex_isub dX9_isPlace_9 ?_
  refine Ex_callSR (n := 3) (dp2 := 0) [.int p1, .int 0, .int ((gI μ (t + 2) 0) - 1)] cvX9_72 rfl (by decide) (by decide) (Nat.le_of_ble_eq_true rfl) rfl (fun v hv => c_X9_in a0 F μ p1 0 ((gI μ (t + 2) 0) - 1) hv) dX9_isPlace_10 (fun v_1 hv_3 => ?_)
  exact Ex_iret dX9_isPlace_13 rfl (fun ty h => by cases h; exact (by rcases b_X9_in hv_3 with h | h <;> rw [h] <;> rfl))

def f_X9_keep_L13 (F : Nat) (q0 : Nat) (x1 : Int32) (k : Int32 → Mem → Option (Int32 × Mem)) : Nat → Int32 → Mem → Option (Int32 × Mem)
  | 0, _, _ => none
  | n + 1, x2, μ => (if x2 < 177 then if ix x2 531 = true then if ix ((177 * (1 + x1)) + x2) 531 = true then lt (sI μ (q0 + 12) (((177 * (1 + x1)) + x2).toNatClampNeg) (gI μ (q0 + 12) x2.toNatClampNeg)) (fun μ_4 => f_X9_keep_L13 F q0 x1 k n (x2 + 1) μ_4) else none else none else k x2 μ)
set_option maxRecDepth 100000 in
set_option maxHeartbeats 4000000 in
theorem c_X9_keep_L13 (a0 : Nat) (F : Nat) (q0 : Nat) (x1 : Int32) (k : Int32 → Mem → Option (Int32 × Mem)) (hq0 : kd q0 = 9) (hk : ∀ (x2 : Int32) (μ : Mem), Ex a0 RX9 cX9_keep 3 (some .int) 1 none (fun x => (some (.int x.1), x.2)) 46 [(0, .ref (a0 + q0)), (1, .int x1)] [] μ (k x2 μ)) : ∀ (n : Nat) (x2 : Int32) (μ : Mem), Ex a0 RX9 cX9_keep 3 (some .int) 1 none (fun x => (some (.int x.1), x.2)) 13 [(0, .ref (a0 + q0)), (1, .int x1), (2, .int x2)] [] μ (f_X9_keep_L13 F q0 x1 k n x2 μ) := by
  intro n
  induction n with
  | zero => intro x2 μ; exact Ex_none
  | succ n ih =>
    intro x2 μ
    rw [f_X9_keep_L13]
    refine Ex_iload_n dX9_keep_13 rfl 2 rfl ?_
    refine Ex_sipush (v := 177) dX9_keep_14 (by decide) ?_
    refine Ex_icmp_ge (tgt := 46) dX9_keep_17 (by decide) ?_ ?_
    · refine Ex_perm [0, 1] rfl ?_
      exact hk x2 μ
    · refine Ex_aload_n dX9_keep_20 rfl 0 rfl ?_
      refine Ex_get (v := .ref (a0 + (q0 + 12))) fgX9_44 hq0 (by decide) rfl dX9_keep_21 ?_
      refine Ex_sipush (v := 177) dX9_keep_24 (by decide) ?_
      refine Ex_iconst (v := 1) dX9_keep_27 (by decide) ?_
      refine Ex_iload_n dX9_keep_28 rfl 1 rfl ?_
      refine Ex_iadd dX9_keep_29 ?_
      refine Ex_imul dX9_keep_30 ?_
      refine Ex_iload_n dX9_keep_31 rfl 2 rfl ?_
      refine Ex_iadd dX9_keep_32 ?_
      refine Ex_aload_n dX9_keep_33 rfl 0 rfl ?_
      refine Ex_get (v := .ref (a0 + (q0 + 12))) fgX9_44 hq0 (by decide) rfl dX9_keep_34 ?_
      refine Ex_iload_n dX9_keep_37 rfl 2 rfl ?_
      refine Ex_iald 531 (kn_9_12 hq0) (by decide) dX9_keep_38 ?_
      refine Ex_iast 531 (kn_9_12 hq0) (by decide) dX9_keep_39 (fun μ_4 => ?_)
      refine Ex_iinc (v := x2 + 1) (L2 := [(2, .int (x2 + 1)), (0, .ref (a0 + q0)), (1, .int x1)]) dX9_keep_40 2 rfl rfl (by decide) rfl ?_
      refine Ex_goto (tgt := 13) dX9_keep_43 (by decide) ?_
      refine Ex_perm [1, 2, 0] rfl ?_
      exact ih (x2 + 1) μ_4
def f_X9_keep (F : Nat) (μ : Mem) (t : Nat) (p1 : Int32) : Option (Int32 × Mem) := (f_X9_in F μ p1 0 1).bind (fun v_1 => (if v_1 = 0 then some ((-1), μ) else f_X9_keep_L13 F t p1 (fun x2_5 μ_6 => if ix p1 2 = true then lt (sI μ_6 (t + 13) p1.toNatClampNeg (vp_nar .boolean 1)) (fun μ_7 => (f_X9_manyOf F μ_7 (gI μ_7 (t + 12) 15)).bind (fun v_8 => some (v_8, μ_7))) else none) F 0 μ))
set_option maxRecDepth 100000 in
set_option maxHeartbeats 4000000 in
theorem c_X9_keep (a0 F : Nat) (μ : Mem) (t : Nat) (p1 : Int32) (hk0 : kd t = 9) {v : Int32} {μ2 : Mem} (hr : f_X9_keep F μ t p1 = some (v, μ2)) : Ct a0 yX9_keep cX9_keep 3 (some .int) 1 [.ref (a0 + t), .int p1] μ (some (.int v)) μ2 := by
  refine Ct_of (own := RX9) (ι := (fun x => (some (.int x.1), x.2))) (o := f_X9_keep F μ t p1) (by decide +kernel) rfl (Nat.le_of_ble_eq_true rfl) ?_ hr rfl ⟨_, rfl⟩
  show Ex a0 RX9 cX9_keep 3 (some .int) 1 none (fun x => (some (.int x.1), x.2)) 0 [(0, .ref (a0 + t)), (1, .int p1)] [] μ (f_X9_keep F μ t p1)
  unfold f_X9_keep
  refine Ex_iload_n dX9_keep_0 rfl 1 rfl ?_
  refine Ex_iconst (v := 0) dX9_keep_1 (by decide) ?_
  refine Ex_iconst (v := 1) dX9_keep_2 (by decide) ?_
  refine Ex_callSR (n := 3) (dp2 := 0) [.int p1, .int 0, .int 1] cvX9_72 rfl (by decide) (by decide) (Nat.le_of_ble_eq_true rfl) rfl (fun v hv => c_X9_in a0 F μ p1 0 1 hv) dX9_keep_3 (fun v_1 hv_3 => ?_)
  refine Ex_if_ne (tgt := 11) dX9_keep_6 (by decide) ?_ ?_
  · refine Ex_iconst (v := 0) dX9_keep_11 (by decide) ?_
    refine Ex_istore_n (L2 := [(2, .int 0), (0, .ref (a0 + t)), (1, .int p1)]) dX9_keep_12 rfl (by decide) rfl ?_
    refine Ex_perm [1, 2, 0] rfl ?_
    refine c_X9_keep_L13 a0 F t p1 _ hk0 (fun x2_5 μ_6 => ?_) F 0 μ
    refine Ex_aload_n dX9_keep_46 rfl 0 rfl ?_
    refine Ex_get (v := .ref (a0 + (t + 13))) fgX9_47 hk0 (by decide) rfl dX9_keep_47 ?_
    refine Ex_iload_n dX9_keep_50 rfl 1 rfl ?_
    refine Ex_iconst (v := 1) dX9_keep_51 (by decide) ?_
    refine Ex_zast 2 (kn_9_13 hk0) (by decide) dX9_keep_52 (fun μ_7 => ?_)
    refine Ex_aload_n dX9_keep_53 rfl 0 rfl ?_
    refine Ex_get (v := .ref (a0 + (t + 12))) fgX9_44 hk0 (by decide) rfl dX9_keep_54 ?_
    refine Ex_bipush (v := 15) dX9_keep_57 (by decide) ?_
    refine Ex_ialdC (j := 15) 531 (kn_9_12 hk0) (by decide) (by decide) (by decide) dX9_keep_59 ?_
    refine Ex_callSR (n := 1) (dp2 := 0) [.int (gI μ_7 (t + 12) 15)] cvX9_157 rfl (by decide) (by decide) (Nat.le_of_ble_eq_true rfl) rfl (fun v hv => c_X9_manyOf a0 F μ_7 (gI μ_7 (t + 12) 15) hv) dX9_keep_60 (fun v_8 hv_10 => ?_)
    exact Ex_iret dX9_keep_63 rfl (fun ty h => by cases h; rfl)
  · refine Ex_iconst (v := (-1)) dX9_keep_9 (by decide) ?_
    exact Ex_iret dX9_keep_10 rfl (fun ty h => by cases h; rfl)

def f_X9_measure_L3 (F : Nat) (q0 : Nat) (x1 : Int32) (x2 : Int32) (x3 : Int32) (k : Int32 → Mem → Option (Mem)) : Nat → Int32 → Mem → Option (Mem)
  | 0, _, _ => none
  | n + 1, x4, μ => (if x4 < 8 then (if x4 = x2 then if ix x4 8 = true then lt (sI μ (q0 + 14) x4.toNatClampNeg 0) (fun μ_2 => f_X9_measure_L3 F q0 x1 x2 x3 k n (x4 + 1) μ_2) else none else if ix x4 8 = true then lt (sI μ (q0 + 14) x4.toNatClampNeg 100000) (fun μ_1 => f_X9_measure_L3 F q0 x1 x2 x3 k n (x4 + 1) μ_1) else none) else k x4 μ)
set_option maxRecDepth 100000 in
set_option maxHeartbeats 4000000 in
theorem c_X9_measure_L3 (a0 : Nat) (F : Nat) (q0 : Nat) (x1 : Int32) (x2 : Int32) (x3 : Int32) (k : Int32 → Mem → Option (Mem)) (hq0 : kd q0 = 9) (hk : ∀ (x4 : Int32) (μ : Mem), Ex a0 RX9 cX9_measure 9 none 2 none (fun m => (none, m)) 35 [(0, .ref (a0 + q0)), (1, .int x1), (3, .int x3)] [] μ (k x4 μ)) : ∀ (n : Nat) (x4 : Int32) (μ : Mem), Ex a0 RX9 cX9_measure 9 none 2 none (fun m => (none, m)) 3 [(0, .ref (a0 + q0)), (1, .int x1), (2, .int x2), (3, .int x3), (4, .int x4)] [] μ (f_X9_measure_L3 F q0 x1 x2 x3 k n x4 μ) := by
  intro n
  induction n with
  | zero => intro x4 μ; exact Ex_none
  | succ n ih =>
    intro x4 μ
    rw [f_X9_measure_L3]
    refine Ex_iload dX9_measure_3 4 rfl ?_
    refine Ex_bipush (v := 8) dX9_measure_5 (by decide) ?_
    refine Ex_icmp_ge (tgt := 35) dX9_measure_7 (by decide) ?_ ?_
    · refine Ex_perm [0, 1, 3] rfl ?_
      exact hk x4 μ
    · refine Ex_aload_n dX9_measure_10 rfl 0 rfl ?_
      refine Ex_get (v := .ref (a0 + (q0 + 14))) fgX9_51 hq0 (by decide) rfl dX9_measure_11 ?_
      refine Ex_iload dX9_measure_14 4 rfl ?_
      refine Ex_iload dX9_measure_16 4 rfl ?_
      refine Ex_iload_n dX9_measure_18 rfl 2 rfl ?_
      refine Ex_icmp_ne (tgt := 26) dX9_measure_19 (by decide) ?_ ?_
      · refine Ex_ldc (v := 100000) dX9_measure_26 cnX9_163 ?_
        refine Ex_iast 8 (kn_9_14 hq0) (by decide) dX9_measure_28 (fun μ_1 => ?_)
        refine Ex_iinc (v := x4 + 1) (L2 := [(4, .int (x4 + 1)), (0, .ref (a0 + q0)), (1, .int x1), (2, .int x2), (3, .int x3)]) dX9_measure_29 4 rfl rfl (by decide) rfl ?_
        refine Ex_goto (tgt := 3) dX9_measure_32 (by decide) ?_
        refine Ex_perm [1, 2, 3, 4, 0] rfl ?_
        exact ih (x4 + 1) μ_1
      · refine Ex_iconst (v := 0) dX9_measure_22 (by decide) ?_
        refine Ex_goto (tgt := 28) dX9_measure_23 (by decide) ?_
        refine Ex_iast 8 (kn_9_14 hq0) (by decide) dX9_measure_28 (fun μ_2 => ?_)
        refine Ex_iinc (v := x4 + 1) (L2 := [(4, .int (x4 + 1)), (0, .ref (a0 + q0)), (1, .int x1), (2, .int x2), (3, .int x3)]) dX9_measure_29 4 rfl rfl (by decide) rfl ?_
        refine Ex_goto (tgt := 3) dX9_measure_32 (by decide) ?_
        refine Ex_perm [1, 2, 3, 4, 0] rfl ?_
        exact ih (x4 + 1) μ_2

def f_X9_measure_L48 (F : Nat) (q0 : Nat) (x1 : Int32) (x3 : Int32) (x4 : Int32) (k : Int32 → Mem → Option (Mem)) : Nat → Int32 → Mem → Option (Mem)
  | 0, _, _ => none
  | n + 1, x5, μ => (if x5 < (gI μ (q0 + 3) 0) then (f_X9_costOf F μ q0 x1 x5 x3).bind (fun v_5 => if ix x5 16 = true then if ix x5 16 = true then if ix (gI μ (q0 + 5) x5.toNatClampNeg) 8 = true then if ix (gI μ (q0 + 4) x5.toNatClampNeg) 8 = true then (if ((gI μ (q0 + 14) ((gI μ (q0 + 5) x5.toNatClampNeg).toNatClampNeg)) + v_5) < (gI μ (q0 + 14) ((gI μ (q0 + 4) x5.toNatClampNeg).toNatClampNeg)) then if ix (gI μ (q0 + 5) x5.toNatClampNeg) 8 = true then if ix (gI μ (q0 + 4) x5.toNatClampNeg) 8 = true then lt (sI μ (q0 + 14) ((gI μ (q0 + 4) x5.toNatClampNeg).toNatClampNeg) ((gI μ (q0 + 14) ((gI μ (q0 + 5) x5.toNatClampNeg).toNatClampNeg)) + v_5)) (fun μ_11 => if ix (gI μ (q0 + 4) x5.toNatClampNeg) 8 = true then if ix (gI μ (q0 + 5) x5.toNatClampNeg) 8 = true then (if ((gI μ_11 (q0 + 14) ((gI μ (q0 + 4) x5.toNatClampNeg).toNatClampNeg)) + v_5) < (gI μ_11 (q0 + 14) ((gI μ (q0 + 5) x5.toNatClampNeg).toNatClampNeg)) then if ix (gI μ (q0 + 4) x5.toNatClampNeg) 8 = true then if ix (gI μ (q0 + 5) x5.toNatClampNeg) 8 = true then lt (sI μ_11 (q0 + 14) ((gI μ (q0 + 5) x5.toNatClampNeg).toNatClampNeg) ((gI μ_11 (q0 + 14) ((gI μ (q0 + 4) x5.toNatClampNeg).toNatClampNeg)) + v_5)) (fun μ_13 => f_X9_measure_L48 F q0 x1 x3 x4 k n (x5 + 1) μ_13) else none else none else if ix (gI μ (q0 + 5) x5.toNatClampNeg) 8 = true then if ix (gI μ (q0 + 5) x5.toNatClampNeg) 8 = true then lt (sI μ_11 (q0 + 14) ((gI μ (q0 + 5) x5.toNatClampNeg).toNatClampNeg) (gI μ_11 (q0 + 14) ((gI μ (q0 + 5) x5.toNatClampNeg).toNatClampNeg))) (fun μ_12 => f_X9_measure_L48 F q0 x1 x3 x4 k n (x5 + 1) μ_12) else none else none) else none else none) else none else none else if ix (gI μ (q0 + 4) x5.toNatClampNeg) 8 = true then if ix (gI μ (q0 + 4) x5.toNatClampNeg) 8 = true then lt (sI μ (q0 + 14) ((gI μ (q0 + 4) x5.toNatClampNeg).toNatClampNeg) (gI μ (q0 + 14) ((gI μ (q0 + 4) x5.toNatClampNeg).toNatClampNeg))) (fun μ_8 => if ix (gI μ (q0 + 4) x5.toNatClampNeg) 8 = true then if ix (gI μ (q0 + 5) x5.toNatClampNeg) 8 = true then (if ((gI μ_8 (q0 + 14) ((gI μ (q0 + 4) x5.toNatClampNeg).toNatClampNeg)) + v_5) < (gI μ_8 (q0 + 14) ((gI μ (q0 + 5) x5.toNatClampNeg).toNatClampNeg)) then if ix (gI μ (q0 + 4) x5.toNatClampNeg) 8 = true then if ix (gI μ (q0 + 5) x5.toNatClampNeg) 8 = true then lt (sI μ_8 (q0 + 14) ((gI μ (q0 + 5) x5.toNatClampNeg).toNatClampNeg) ((gI μ_8 (q0 + 14) ((gI μ (q0 + 4) x5.toNatClampNeg).toNatClampNeg)) + v_5)) (fun μ_10 => f_X9_measure_L48 F q0 x1 x3 x4 k n (x5 + 1) μ_10) else none else none else if ix (gI μ (q0 + 5) x5.toNatClampNeg) 8 = true then if ix (gI μ (q0 + 5) x5.toNatClampNeg) 8 = true then lt (sI μ_8 (q0 + 14) ((gI μ (q0 + 5) x5.toNatClampNeg).toNatClampNeg) (gI μ_8 (q0 + 14) ((gI μ (q0 + 5) x5.toNatClampNeg).toNatClampNeg))) (fun μ_9 => f_X9_measure_L48 F q0 x1 x3 x4 k n (x5 + 1) μ_9) else none else none) else none else none) else none else none) else none else none else none else none) else k x5 μ)
set_option maxRecDepth 100000 in
set_option maxHeartbeats 4000000 in
theorem c_X9_measure_L48 (a0 : Nat) (F : Nat) (q0 : Nat) (x1 : Int32) (x3 : Int32) (x4 : Int32) (k : Int32 → Mem → Option (Mem)) (hq0 : kd q0 = 9) (hk : ∀ (x5 : Int32) (μ : Mem), Ex a0 RX9 cX9_measure 9 none 2 none (fun m => (none, m)) 187 [(0, .ref (a0 + q0)), (1, .int x1), (3, .int x3), (4, .int x4)] [] μ (k x5 μ)) : ∀ (n : Nat) (x5 : Int32) (μ : Mem), Ex a0 RX9 cX9_measure 9 none 2 none (fun m => (none, m)) 48 [(0, .ref (a0 + q0)), (1, .int x1), (3, .int x3), (4, .int x4), (5, .int x5)] [] μ (f_X9_measure_L48 F q0 x1 x3 x4 k n x5 μ) := by
  intro n
  induction n with
  | zero => intro x5 μ; exact Ex_none
  | succ n ih =>
    intro x5 μ
    rw [f_X9_measure_L48]
    refine Ex_iload dX9_measure_48 4 rfl ?_
    refine Ex_aload_n dX9_measure_50 rfl 0 rfl ?_
    refine Ex_get (v := .ref (a0 + (q0 + 3))) fgX9_17 hq0 (by decide) rfl dX9_measure_51 ?_
    refine Ex_iconst (v := 0) dX9_measure_54 (by decide) ?_
    refine Ex_ialdC (j := 0) 2 (kn_9_3 hq0) (by decide) (by decide) (by decide) dX9_measure_55 ?_
    refine Ex_icmp_ge (tgt := 187) dX9_measure_56 (by decide) ?_ ?_
    · refine Ex_perm [0, 1, 2, 3] rfl ?_
      exact hk x5 μ
    · refine Ex_aload_n dX9_measure_59 rfl 0 rfl ?_
      refine Ex_iload_n dX9_measure_60 rfl 1 rfl ?_
      refine Ex_iload dX9_measure_61 4 rfl ?_
      refine Ex_iload_n dX9_measure_63 rfl 2 rfl ?_
      refine Ex_callVR (n := 3) (dp2 := 1) [.int x1, .int x5, .int x3] cvX9_164 hq0 rfl rfl (by decide) (by decide) (Nat.le_of_ble_eq_true rfl) rfl (fun v hv => c_X9_costOf a0 F μ q0 x1 x5 x3 hq0 hv) dX9_measure_64 (fun v_5 hv_7 => ?_)
      refine Ex_istore (L2 := [(6, .int v_5), (0, .ref (a0 + q0)), (1, .int x1), (3, .int x3), (4, .int x4), (5, .int x5)]) dX9_measure_67 (by decide) rfl ?_
      refine Ex_aload_n dX9_measure_69 rfl 1 rfl ?_
      refine Ex_get (v := .ref (a0 + (q0 + 4))) fgX9_20 hq0 (by decide) rfl dX9_measure_70 ?_
      refine Ex_iload dX9_measure_73 5 rfl ?_
      refine Ex_iald 16 (kn_9_4 hq0) (by decide) dX9_measure_75 ?_
      refine Ex_istore (L2 := [(7, .int (gI μ (q0 + 4) x5.toNatClampNeg)), (6, .int v_5), (0, .ref (a0 + q0)), (1, .int x1), (3, .int x3), (4, .int x4), (5, .int x5)]) dX9_measure_76 (by decide) rfl ?_
      refine Ex_aload_n dX9_measure_78 rfl 2 rfl ?_
      refine Ex_get (v := .ref (a0 + (q0 + 5))) fgX9_23 hq0 (by decide) rfl dX9_measure_79 ?_
      refine Ex_iload dX9_measure_82 6 rfl ?_
      refine Ex_iald 16 (kn_9_5 hq0) (by decide) dX9_measure_84 ?_
      refine Ex_istore (L2 := [(8, .int (gI μ (q0 + 5) x5.toNatClampNeg)), (7, .int (gI μ (q0 + 4) x5.toNatClampNeg)), (6, .int v_5), (0, .ref (a0 + q0)), (1, .int x1), (3, .int x3), (4, .int x4), (5, .int x5)]) dX9_measure_85 (by decide) rfl ?_
      refine Ex_aload_n dX9_measure_87 rfl 3 rfl ?_
      refine Ex_get (v := .ref (a0 + (q0 + 14))) fgX9_51 hq0 (by decide) rfl dX9_measure_88 ?_
      refine Ex_iload dX9_measure_91 1 rfl ?_
      refine Ex_aload_n dX9_measure_93 rfl 3 rfl ?_
      refine Ex_get (v := .ref (a0 + (q0 + 14))) fgX9_51 hq0 (by decide) rfl dX9_measure_94 ?_
      refine Ex_iload dX9_measure_97 0 rfl ?_
      refine Ex_iald 8 (kn_9_14 hq0) (by decide) dX9_measure_99 ?_
      refine Ex_iload dX9_measure_100 2 rfl ?_
      refine Ex_iadd dX9_measure_102 ?_
      refine Ex_aload_n dX9_measure_103 rfl 3 rfl ?_
      refine Ex_get (v := .ref (a0 + (q0 + 14))) fgX9_51 hq0 (by decide) rfl dX9_measure_104 ?_
      refine Ex_iload dX9_measure_107 1 rfl ?_
      refine Ex_iald 8 (kn_9_14 hq0) (by decide) dX9_measure_109 ?_
      refine Ex_icmp_ge (tgt := 126) dX9_measure_110 (by decide) ?_ ?_
      · refine Ex_aload_n dX9_measure_126 rfl 3 rfl ?_
        refine Ex_get (v := .ref (a0 + (q0 + 14))) fgX9_51 hq0 (by decide) rfl dX9_measure_127 ?_
        refine Ex_iload dX9_measure_130 1 rfl ?_
        refine Ex_iald 8 (kn_9_14 hq0) (by decide) dX9_measure_132 ?_
        refine Ex_iast 8 (kn_9_14 hq0) (by decide) dX9_measure_133 (fun μ_8 => ?_)
        refine Ex_aload_n dX9_measure_134 rfl 3 rfl ?_
        refine Ex_get (v := .ref (a0 + (q0 + 14))) fgX9_51 hq0 (by decide) rfl dX9_measure_135 ?_
        refine Ex_iload dX9_measure_138 0 rfl ?_
        refine Ex_aload_n dX9_measure_140 rfl 3 rfl ?_
        refine Ex_get (v := .ref (a0 + (q0 + 14))) fgX9_51 hq0 (by decide) rfl dX9_measure_141 ?_
        refine Ex_iload dX9_measure_144 1 rfl ?_
        refine Ex_iald 8 (kn_9_14 hq0) (by decide) dX9_measure_146 ?_
        refine Ex_iload dX9_measure_147 2 rfl ?_
        refine Ex_iadd dX9_measure_149 ?_
        refine Ex_aload_n dX9_measure_150 rfl 3 rfl ?_
        refine Ex_get (v := .ref (a0 + (q0 + 14))) fgX9_51 hq0 (by decide) rfl dX9_measure_151 ?_
        refine Ex_iload dX9_measure_154 0 rfl ?_
        refine Ex_iald 8 (kn_9_14 hq0) (by decide) dX9_measure_156 ?_
        refine Ex_icmp_ge (tgt := 173) dX9_measure_157 (by decide) ?_ ?_
        · refine Ex_aload_n dX9_measure_173 rfl 3 rfl ?_
          refine Ex_get (v := .ref (a0 + (q0 + 14))) fgX9_51 hq0 (by decide) rfl dX9_measure_174 ?_
          refine Ex_iload dX9_measure_177 0 rfl ?_
          refine Ex_iald 8 (kn_9_14 hq0) (by decide) dX9_measure_179 ?_
          refine Ex_iast 8 (kn_9_14 hq0) (by decide) dX9_measure_180 (fun μ_9 => ?_)
          refine Ex_iinc (v := x5 + 1) (L2 := [(5, .int (x5 + 1)), (8, .int (gI μ (q0 + 5) x5.toNatClampNeg)), (7, .int (gI μ (q0 + 4) x5.toNatClampNeg)), (6, .int v_5), (0, .ref (a0 + q0)), (1, .int x1), (3, .int x3), (4, .int x4)]) dX9_measure_181 7 rfl rfl (by decide) rfl ?_
          refine Ex_goto (tgt := 48) dX9_measure_184 (by decide) ?_
          refine Ex_perm [4, 5, 6, 7, 0] rfl ?_
          exact ih (x5 + 1) μ_9
        · refine Ex_aload_n dX9_measure_160 rfl 3 rfl ?_
          refine Ex_get (v := .ref (a0 + (q0 + 14))) fgX9_51 hq0 (by decide) rfl dX9_measure_161 ?_
          refine Ex_iload dX9_measure_164 1 rfl ?_
          refine Ex_iald 8 (kn_9_14 hq0) (by decide) dX9_measure_166 ?_
          refine Ex_iload dX9_measure_167 2 rfl ?_
          refine Ex_iadd dX9_measure_169 ?_
          refine Ex_goto (tgt := 180) dX9_measure_170 (by decide) ?_
          refine Ex_iast 8 (kn_9_14 hq0) (by decide) dX9_measure_180 (fun μ_10 => ?_)
          refine Ex_iinc (v := x5 + 1) (L2 := [(5, .int (x5 + 1)), (8, .int (gI μ (q0 + 5) x5.toNatClampNeg)), (7, .int (gI μ (q0 + 4) x5.toNatClampNeg)), (6, .int v_5), (0, .ref (a0 + q0)), (1, .int x1), (3, .int x3), (4, .int x4)]) dX9_measure_181 7 rfl rfl (by decide) rfl ?_
          refine Ex_goto (tgt := 48) dX9_measure_184 (by decide) ?_
          refine Ex_perm [4, 5, 6, 7, 0] rfl ?_
          exact ih (x5 + 1) μ_10
      · refine Ex_aload_n dX9_measure_113 rfl 3 rfl ?_
        refine Ex_get (v := .ref (a0 + (q0 + 14))) fgX9_51 hq0 (by decide) rfl dX9_measure_114 ?_
        refine Ex_iload dX9_measure_117 0 rfl ?_
        refine Ex_iald 8 (kn_9_14 hq0) (by decide) dX9_measure_119 ?_
        refine Ex_iload dX9_measure_120 2 rfl ?_
        refine Ex_iadd dX9_measure_122 ?_
        refine Ex_goto (tgt := 133) dX9_measure_123 (by decide) ?_
        refine Ex_iast 8 (kn_9_14 hq0) (by decide) dX9_measure_133 (fun μ_11 => ?_)
        refine Ex_aload_n dX9_measure_134 rfl 3 rfl ?_
        refine Ex_get (v := .ref (a0 + (q0 + 14))) fgX9_51 hq0 (by decide) rfl dX9_measure_135 ?_
        refine Ex_iload dX9_measure_138 0 rfl ?_
        refine Ex_aload_n dX9_measure_140 rfl 3 rfl ?_
        refine Ex_get (v := .ref (a0 + (q0 + 14))) fgX9_51 hq0 (by decide) rfl dX9_measure_141 ?_
        refine Ex_iload dX9_measure_144 1 rfl ?_
        refine Ex_iald 8 (kn_9_14 hq0) (by decide) dX9_measure_146 ?_
        refine Ex_iload dX9_measure_147 2 rfl ?_
        refine Ex_iadd dX9_measure_149 ?_
        refine Ex_aload_n dX9_measure_150 rfl 3 rfl ?_
        refine Ex_get (v := .ref (a0 + (q0 + 14))) fgX9_51 hq0 (by decide) rfl dX9_measure_151 ?_
        refine Ex_iload dX9_measure_154 0 rfl ?_
        refine Ex_iald 8 (kn_9_14 hq0) (by decide) dX9_measure_156 ?_
        refine Ex_icmp_ge (tgt := 173) dX9_measure_157 (by decide) ?_ ?_
        · refine Ex_aload_n dX9_measure_173 rfl 3 rfl ?_
          refine Ex_get (v := .ref (a0 + (q0 + 14))) fgX9_51 hq0 (by decide) rfl dX9_measure_174 ?_
          refine Ex_iload dX9_measure_177 0 rfl ?_
          refine Ex_iald 8 (kn_9_14 hq0) (by decide) dX9_measure_179 ?_
          refine Ex_iast 8 (kn_9_14 hq0) (by decide) dX9_measure_180 (fun μ_12 => ?_)
          refine Ex_iinc (v := x5 + 1) (L2 := [(5, .int (x5 + 1)), (8, .int (gI μ (q0 + 5) x5.toNatClampNeg)), (7, .int (gI μ (q0 + 4) x5.toNatClampNeg)), (6, .int v_5), (0, .ref (a0 + q0)), (1, .int x1), (3, .int x3), (4, .int x4)]) dX9_measure_181 7 rfl rfl (by decide) rfl ?_
          refine Ex_goto (tgt := 48) dX9_measure_184 (by decide) ?_
          refine Ex_perm [4, 5, 6, 7, 0] rfl ?_
          exact ih (x5 + 1) μ_12
        · refine Ex_aload_n dX9_measure_160 rfl 3 rfl ?_
          refine Ex_get (v := .ref (a0 + (q0 + 14))) fgX9_51 hq0 (by decide) rfl dX9_measure_161 ?_
          refine Ex_iload dX9_measure_164 1 rfl ?_
          refine Ex_iald 8 (kn_9_14 hq0) (by decide) dX9_measure_166 ?_
          refine Ex_iload dX9_measure_167 2 rfl ?_
          refine Ex_iadd dX9_measure_169 ?_
          refine Ex_goto (tgt := 180) dX9_measure_170 (by decide) ?_
          refine Ex_iast 8 (kn_9_14 hq0) (by decide) dX9_measure_180 (fun μ_13 => ?_)
          refine Ex_iinc (v := x5 + 1) (L2 := [(5, .int (x5 + 1)), (8, .int (gI μ (q0 + 5) x5.toNatClampNeg)), (7, .int (gI μ (q0 + 4) x5.toNatClampNeg)), (6, .int v_5), (0, .ref (a0 + q0)), (1, .int x1), (3, .int x3), (4, .int x4)]) dX9_measure_181 7 rfl rfl (by decide) rfl ?_
          refine Ex_goto (tgt := 48) dX9_measure_184 (by decide) ?_
          refine Ex_perm [4, 5, 6, 7, 0] rfl ?_
          exact ih (x5 + 1) μ_13

def f_X9_measure_L38 (F : Nat) (q0 : Nat) (x1 : Int32) (x3 : Int32) (k : Int32 → Mem → Option (Mem)) : Nat → Int32 → Mem → Option (Mem)
  | 0, _, _ => none
  | n + 1, x4, μ => (if x4 < 8 then f_X9_measure_L48 F q0 x1 x3 x4 (fun x5_14 μ_15 => f_X9_measure_L38 F q0 x1 x3 k n (x4 + 1) μ_15) F 0 μ else k x4 μ)
set_option maxRecDepth 100000 in
set_option maxHeartbeats 4000000 in
theorem c_X9_measure_L38 (a0 : Nat) (F : Nat) (q0 : Nat) (x1 : Int32) (x3 : Int32) (k : Int32 → Mem → Option (Mem)) (hq0 : kd q0 = 9) (hk : ∀ (x4 : Int32) (μ : Mem), Ex a0 RX9 cX9_measure 9 none 2 none (fun m => (none, m)) 193 [] [] μ (k x4 μ)) : ∀ (n : Nat) (x4 : Int32) (μ : Mem), Ex a0 RX9 cX9_measure 9 none 2 none (fun m => (none, m)) 38 [(0, .ref (a0 + q0)), (1, .int x1), (3, .int x3), (4, .int x4)] [] μ (f_X9_measure_L38 F q0 x1 x3 k n x4 μ) := by
  intro n
  induction n with
  | zero => intro x4 μ; exact Ex_none
  | succ n ih =>
    intro x4 μ
    rw [f_X9_measure_L38]
    refine Ex_iload dX9_measure_38 3 rfl ?_
    refine Ex_bipush (v := 8) dX9_measure_40 (by decide) ?_
    refine Ex_icmp_ge (tgt := 193) dX9_measure_42 (by decide) ?_ ?_
    · refine Ex_perm [] rfl ?_
      exact hk x4 μ
    · refine Ex_iconst (v := 0) dX9_measure_45 (by decide) ?_
      refine Ex_istore (L2 := [(5, .int 0), (0, .ref (a0 + q0)), (1, .int x1), (3, .int x3), (4, .int x4)]) dX9_measure_46 (by decide) rfl ?_
      refine Ex_perm [1, 2, 3, 4, 0] rfl ?_
      refine c_X9_measure_L48 a0 F q0 x1 x3 x4 _ hq0 (fun x5_14 μ_15 => ?_) F 0 μ
      refine Ex_iinc (v := x4 + 1) (L2 := [(4, .int (x4 + 1)), (0, .ref (a0 + q0)), (1, .int x1), (3, .int x3)]) dX9_measure_187 3 rfl rfl (by decide) rfl ?_
      refine Ex_goto (tgt := 38) dX9_measure_190 (by decide) ?_
      refine Ex_perm [1, 2, 3, 0] rfl ?_
      exact ih (x4 + 1) μ_15
def f_X9_measure (F : Nat) (μ : Mem) (t : Nat) (p1 : Int32) (p2 : Int32) (p3 : Int32) : Option (Mem) := f_X9_measure_L3 F t p1 p2 p3 (fun x4_3 μ_4 => f_X9_measure_L38 F t p1 p3 (fun x4_16 μ_17 => some μ_17) F 0 μ_4) F 0 μ
set_option maxRecDepth 100000 in
set_option maxHeartbeats 4000000 in
theorem c_X9_measure (a0 F : Nat) (μ : Mem) (t : Nat) (p1 : Int32) (p2 : Int32) (p3 : Int32) (hk0 : kd t = 9) {μ2 : Mem} (hr : f_X9_measure F μ t p1 p2 p3 = some μ2) : Ct a0 yX9_measure cX9_measure 9 none 2 [.ref (a0 + t), .int p1, .int p2, .int p3] μ none μ2 := by
  refine Ct_of (own := RX9) (ι := (fun m => (none, m))) (o := f_X9_measure F μ t p1 p2 p3) (by decide +kernel) rfl (Nat.le_of_ble_eq_true rfl) ?_ hr rfl rfl
  show Ex a0 RX9 cX9_measure 9 none 2 none (fun m => (none, m)) 0 [(0, .ref (a0 + t)), (1, .int p1), (2, .int p2), (3, .int p3)] [] μ (f_X9_measure F μ t p1 p2 p3)
  unfold f_X9_measure
  refine Ex_iconst (v := 0) dX9_measure_0 (by decide) ?_
  refine Ex_istore (L2 := [(4, .int 0), (0, .ref (a0 + t)), (1, .int p1), (2, .int p2), (3, .int p3)]) dX9_measure_1 (by decide) rfl ?_
  refine Ex_perm [1, 2, 3, 4, 0] rfl ?_
  refine c_X9_measure_L3 a0 F t p1 p2 p3 _ hk0 (fun x4_3 μ_4 => ?_) F 0 μ
  refine Ex_iconst (v := 0) dX9_measure_35 (by decide) ?_
  refine Ex_istore (L2 := [(4, .int 0), (0, .ref (a0 + t)), (1, .int p1), (3, .int p3)]) dX9_measure_36 (by decide) rfl ?_
  refine Ex_perm [1, 2, 3, 0] rfl ?_
  refine c_X9_measure_L38 a0 F t p1 p3 _ hk0 (fun x4_16 μ_17 => ?_) F 0 μ_4
  exact Ex_vret dX9_measure_193 rfl

def f_X9_lacks (F : Nat) (μ : Mem) (t : Nat) (p1 : Int32) (p2 : Int32) : Option (Int32 × Mem) := (f_X9_isPerson F μ t p1).bind (fun v_1 => (if v_1 = 0 then some ((-1), μ) else (f_X9_isPlace F μ t p2).bind (fun v_4 => (if v_4 = 0 then some ((-1), μ) else (f_X9_measure F μ t p1 p2 1).bind (fun μ_8 => if ix (0 + p1) 531 = true then if ix (gI μ_8 (t + 12) ((0 + p1).toNatClampNeg)) 8 = true then (if (gI μ_8 (t + 14) ((gI μ_8 (t + 12) ((0 + p1).toNatClampNeg)).toNatClampNeg)) < 100000 then if ix (0 + p1) 531 = true then if ix (gI μ_8 (t + 12) ((0 + p1).toNatClampNeg)) 8 = true then some (gI μ_8 (t + 14) ((gI μ_8 (t + 12) ((0 + p1).toNatClampNeg)).toNatClampNeg), μ_8) else none else none else some ((-9), μ_8)) else none else none)))))
set_option maxRecDepth 100000 in
set_option maxHeartbeats 4000000 in
theorem c_X9_lacks (a0 F : Nat) (μ : Mem) (t : Nat) (p1 : Int32) (p2 : Int32) (hk0 : kd t = 9) {v : Int32} {μ2 : Mem} (hr : f_X9_lacks F μ t p1 p2 = some (v, μ2)) : Ct a0 yX9_lacks cX9_lacks 3 (some .int) 3 [.ref (a0 + t), .int p1, .int p2] μ (some (.int v)) μ2 := by
  refine Ct_of (own := RX9) (ι := (fun x => (some (.int x.1), x.2))) (o := f_X9_lacks F μ t p1 p2) (by decide +kernel) rfl (Nat.le_of_ble_eq_true rfl) ?_ hr rfl ⟨_, rfl⟩
  show Ex a0 RX9 cX9_lacks 3 (some .int) 3 none (fun x => (some (.int x.1), x.2)) 0 [(0, .ref (a0 + t)), (1, .int p1), (2, .int p2)] [] μ (f_X9_lacks F μ t p1 p2)
  unfold f_X9_lacks
  refine Ex_aload_n dX9_lacks_0 rfl 0 rfl ?_
  refine Ex_iload_n dX9_lacks_1 rfl 1 rfl ?_
  refine Ex_callVR (n := 1) (dp2 := 1) [.int p1] cvX9_141 hk0 rfl rfl (by decide) (by decide) (Nat.le_of_ble_eq_true rfl) rfl (fun v hv => c_X9_isPerson a0 F μ t p1 hk0 hv) dX9_lacks_2 (fun v_1 hv_3 => ?_)
  refine Ex_if_eq (tgt := 16) dX9_lacks_5 (by decide) ?_ ?_
  · refine Ex_iconst (v := (-1)) dX9_lacks_16 (by decide) ?_
    exact Ex_iret dX9_lacks_17 rfl (fun ty h => by cases h; rfl)
  · refine Ex_aload_n dX9_lacks_8 rfl 0 rfl ?_
    refine Ex_iload_n dX9_lacks_9 rfl 2 rfl ?_
    refine Ex_callVR (n := 1) (dp2 := 1) [.int p2] cvX9_168 hk0 rfl rfl (by decide) (by decide) (Nat.le_of_ble_eq_true rfl) rfl (fun v hv => c_X9_isPlace a0 F μ t p2 hk0 hv) dX9_lacks_10 (fun v_4 hv_6 => ?_)
    refine Ex_if_ne (tgt := 18) dX9_lacks_13 (by decide) ?_ ?_
    · refine Ex_aload_n dX9_lacks_18 rfl 0 rfl ?_
      refine Ex_iload_n dX9_lacks_19 rfl 1 rfl ?_
      refine Ex_iload_n dX9_lacks_20 rfl 2 rfl ?_
      refine Ex_iconst (v := 1) dX9_lacks_21 (by decide) ?_
      refine Ex_callVV (n := 3) (dp2 := 2) [.int p1, .int p2, .int 1] cvX9_171 hk0 rfl rfl (by decide) (by decide) (Nat.le_of_ble_eq_true rfl) rfl (fun μ2 hv => c_X9_measure a0 F μ t p1 p2 1 hk0 hv) dX9_lacks_22 (fun μ_8 hv_9 => ?_)
      refine Ex_aload_n dX9_lacks_25 rfl 0 rfl ?_
      refine Ex_get (v := .ref (a0 + (t + 14))) fgX9_51 hk0 (by decide) rfl dX9_lacks_26 ?_
      refine Ex_aload_n dX9_lacks_29 rfl 0 rfl ?_
      refine Ex_get (v := .ref (a0 + (t + 12))) fgX9_44 hk0 (by decide) rfl dX9_lacks_30 ?_
      refine Ex_iconst (v := 0) dX9_lacks_33 (by decide) ?_
      refine Ex_iload_n dX9_lacks_34 rfl 1 rfl ?_
      refine Ex_iadd dX9_lacks_35 ?_
      refine Ex_iald 531 (kn_9_12 hk0) (by decide) dX9_lacks_36 ?_
      refine Ex_iald 8 (kn_9_14 hk0) (by decide) dX9_lacks_37 ?_
      refine Ex_ldc (v := 100000) dX9_lacks_38 cnX9_163 ?_
      refine Ex_icmp_lt (tgt := 48) dX9_lacks_40 (by decide) ?_ ?_
      · refine Ex_aload_n dX9_lacks_48 rfl 0 rfl ?_
        refine Ex_get (v := .ref (a0 + (t + 14))) fgX9_51 hk0 (by decide) rfl dX9_lacks_49 ?_
        refine Ex_aload_n dX9_lacks_52 rfl 0 rfl ?_
        refine Ex_get (v := .ref (a0 + (t + 12))) fgX9_44 hk0 (by decide) rfl dX9_lacks_53 ?_
        refine Ex_iconst (v := 0) dX9_lacks_56 (by decide) ?_
        refine Ex_iload_n dX9_lacks_57 rfl 1 rfl ?_
        refine Ex_iadd dX9_lacks_58 ?_
        refine Ex_iald 531 (kn_9_12 hk0) (by decide) dX9_lacks_59 ?_
        refine Ex_iald 8 (kn_9_14 hk0) (by decide) dX9_lacks_60 ?_
        exact Ex_iret dX9_lacks_61 rfl (fun ty h => by cases h; rfl)
      · refine Ex_bipush (v := (-9)) dX9_lacks_43 (by decide) ?_
        refine Ex_goto (tgt := 61) dX9_lacks_45 (by decide) ?_
        exact Ex_iret dX9_lacks_61 rfl (fun ty h => by cases h; rfl)
    · refine Ex_iconst (v := (-1)) dX9_lacks_16 (by decide) ?_
      exact Ex_iret dX9_lacks_17 rfl (fun ty h => by cases h; rfl)

def f_X9_lane (F : Nat) (μ : Mem) (t : Nat) (p1 : Int32) (p2 : Int32) : Option (Int32) := (f_X9_isLane F μ t p1).bind (fun v_1 => (if v_1 = 0 then some (-1) else (f_X9_in F μ p2 0 3).bind (fun v_4 => (if v_4 = 0 then some (-1) else (if p2 = 0 then if ix p1 16 = true then some (gI μ (t + 4) p1.toNatClampNeg) else none else (if p2 = 1 then if ix p1 16 = true then some (gI μ (t + 5) p1.toNatClampNeg) else none else (if p2 = 2 then if ix p1 16 = true then some (gI μ (t + 6) p1.toNatClampNeg) else none else (f_X9_isClosed F μ t p1).bind (fun v_7 => (if v_7 = 0 then some 0 else some 1)))))))))
set_option maxRecDepth 100000 in
set_option maxHeartbeats 4000000 in
theorem c_X9_lane (a0 F : Nat) (μ : Mem) (t : Nat) (p1 : Int32) (p2 : Int32) (hk0 : kd t = 9) {v : Int32} (hr : f_X9_lane F μ t p1 p2 = some v) : Ct a0 yX9_lane cX9_lane 3 (some .int) 2 [.ref (a0 + t), .int p1, .int p2] μ (some (.int v)) μ := by
  refine Ct_of (own := RX9) (ι := (fun v => (some (.int v), μ))) (o := f_X9_lane F μ t p1 p2) (by decide +kernel) rfl (Nat.le_of_ble_eq_true rfl) ?_ hr rfl ⟨_, rfl⟩
  show Ex a0 RX9 cX9_lane 3 (some .int) 2 none (fun v => (some (.int v), μ)) 0 [(0, .ref (a0 + t)), (1, .int p1), (2, .int p2)] [] μ (f_X9_lane F μ t p1 p2)
  unfold f_X9_lane
  refine Ex_aload_n dX9_lane_0 rfl 0 rfl ?_
  refine Ex_iload_n dX9_lane_1 rfl 1 rfl ?_
  refine Ex_callVR (n := 1) (dp2 := 1) [.int p1] cvX9_134 hk0 rfl rfl (by decide) (by decide) (Nat.le_of_ble_eq_true rfl) rfl (fun v hv => c_X9_isLane a0 F μ t p1 hk0 hv) dX9_lane_2 (fun v_1 hv_3 => ?_)
  refine Ex_if_eq (tgt := 17) dX9_lane_5 (by decide) ?_ ?_
  · refine Ex_iconst (v := (-1)) dX9_lane_17 (by decide) ?_
    exact Ex_iret dX9_lane_18 rfl (fun ty h => by cases h; rfl)
  · refine Ex_iload_n dX9_lane_8 rfl 2 rfl ?_
    refine Ex_iconst (v := 0) dX9_lane_9 (by decide) ?_
    refine Ex_iconst (v := 3) dX9_lane_10 (by decide) ?_
    refine Ex_callSR (n := 3) (dp2 := 0) [.int p2, .int 0, .int 3] cvX9_72 rfl (by decide) (by decide) (Nat.le_of_ble_eq_true rfl) rfl (fun v hv => c_X9_in a0 F μ p2 0 3 hv) dX9_lane_11 (fun v_4 hv_6 => ?_)
    refine Ex_if_ne (tgt := 19) dX9_lane_14 (by decide) ?_ ?_
    · refine Ex_iload_n dX9_lane_19 rfl 2 rfl ?_
      refine Ex_if_ne (tgt := 32) dX9_lane_20 (by decide) ?_ ?_
      · refine Ex_iload_n dX9_lane_32 rfl 2 rfl ?_
        refine Ex_iconst (v := 1) dX9_lane_33 (by decide) ?_
        refine Ex_icmp_ne (tgt := 46) dX9_lane_34 (by decide) ?_ ?_
        · refine Ex_iload_n dX9_lane_46 rfl 2 rfl ?_
          refine Ex_iconst (v := 2) dX9_lane_47 (by decide) ?_
          refine Ex_icmp_ne (tgt := 60) dX9_lane_48 (by decide) ?_ ?_
          · refine Ex_aload_n dX9_lane_60 rfl 0 rfl ?_
            refine Ex_iload_n dX9_lane_61 rfl 1 rfl ?_
            refine Ex_callVR (n := 1) (dp2 := 0) [.int p1] cvX9_138 hk0 rfl rfl (by decide) (by decide) (Nat.le_of_ble_eq_true rfl) rfl (fun v hv => c_X9_isClosed a0 F μ t p1 hk0 hv) dX9_lane_62 (fun v_7 hv_9 => ?_)
            refine Ex_if_eq (tgt := 72) dX9_lane_65 (by decide) ?_ ?_
            · refine Ex_iconst (v := 0) dX9_lane_72 (by decide) ?_
              exact Ex_iret dX9_lane_73 rfl (fun ty h => by cases h; rfl)
            · refine Ex_iconst (v := 1) dX9_lane_68 (by decide) ?_
              refine Ex_goto (tgt := 73) dX9_lane_69 (by decide) ?_
              exact Ex_iret dX9_lane_73 rfl (fun ty h => by cases h; rfl)
          · refine Ex_aload_n dX9_lane_51 rfl 0 rfl ?_
            refine Ex_get (v := .ref (a0 + (t + 6))) fgX9_26 hk0 (by decide) rfl dX9_lane_52 ?_
            refine Ex_iload_n dX9_lane_55 rfl 1 rfl ?_
            refine Ex_iald 16 (kn_9_6 hk0) (by decide) dX9_lane_56 ?_
            refine Ex_goto (tgt := 73) dX9_lane_57 (by decide) ?_
            exact Ex_iret dX9_lane_73 rfl (fun ty h => by cases h; rfl)
        · refine Ex_aload_n dX9_lane_37 rfl 0 rfl ?_
          refine Ex_get (v := .ref (a0 + (t + 5))) fgX9_23 hk0 (by decide) rfl dX9_lane_38 ?_
          refine Ex_iload_n dX9_lane_41 rfl 1 rfl ?_
          refine Ex_iald 16 (kn_9_5 hk0) (by decide) dX9_lane_42 ?_
          refine Ex_goto (tgt := 73) dX9_lane_43 (by decide) ?_
          exact Ex_iret dX9_lane_73 rfl (fun ty h => by cases h; rfl)
      · refine Ex_aload_n dX9_lane_23 rfl 0 rfl ?_
        refine Ex_get (v := .ref (a0 + (t + 4))) fgX9_20 hk0 (by decide) rfl dX9_lane_24 ?_
        refine Ex_iload_n dX9_lane_27 rfl 1 rfl ?_
        refine Ex_iald 16 (kn_9_4 hk0) (by decide) dX9_lane_28 ?_
        refine Ex_goto (tgt := 73) dX9_lane_29 (by decide) ?_
        exact Ex_iret dX9_lane_73 rfl (fun ty h => by cases h; rfl)
    · refine Ex_iconst (v := (-1)) dX9_lane_17 (by decide) ?_
      exact Ex_iret dX9_lane_18 rfl (fun ty h => by cases h; rfl)

def f_X9_reach_L24 (F : Nat) (μ : Mem) (q0 : Nat) (x1 : Int32) (x2 : Int32) (x4 : Int32) (k : Int32 → Int32 → Option (Int32)) : Nat → Int32 → Int32 → Option (Int32)
  | 0, _, _ => none
  | n + 1, x3, x5 => (if x5 < (gI μ (q0 + 3) 0) then (f_X9_canGo F μ q0 x1 x5 x2).bind (fun v_2 => (if v_2 = 0 then f_X9_reach_L24 F μ q0 x1 x2 x4 k n x3 (x5 + 1) else if ix x5 16 = true then if ix x5 16 = true then (if ((x3 >>> ((gI μ (q0 + 4) x5.toNatClampNeg) &&& 31)) &&& 1) = ((x3 >>> ((gI μ (q0 + 5) x5.toNatClampNeg) &&& 31)) &&& 1) then f_X9_reach_L24 F μ q0 x1 x2 x4 k n x3 (x5 + 1) else if ix x5 16 = true then if ix x5 16 = true then lt (x3 ||| ((1 <<< ((gI μ (q0 + 4) x5.toNatClampNeg) &&& 31)) ||| (1 <<< ((gI μ (q0 + 5) x5.toNatClampNeg) &&& 31)))) (fun x3_5 => f_X9_reach_L24 F μ q0 x1 x2 x4 k n x3_5 (x5 + 1)) else none else none) else none else none)) else k x3 x5)
set_option maxRecDepth 100000 in
set_option maxHeartbeats 4000000 in
theorem c_X9_reach_L24 (a0 : Nat) (F : Nat) (μ : Mem) (q0 : Nat) (x1 : Int32) (x2 : Int32) (x4 : Int32) (k : Int32 → Int32 → Option (Int32)) (hq0 : kd q0 = 9) (hk : ∀ (x3 : Int32) (x5 : Int32), Ex a0 RX9 cX9_reach 6 (some .int) 2 none (fun v => (some (.int v), μ)) 99 [(0, .ref (a0 + q0)), (1, .int x1), (2, .int x2), (3, .int x3), (4, .int x4)] [] μ (k x3 x5)) : ∀ (n : Nat) (x3 : Int32) (x5 : Int32), Ex a0 RX9 cX9_reach 6 (some .int) 2 none (fun v => (some (.int v), μ)) 24 [(0, .ref (a0 + q0)), (1, .int x1), (2, .int x2), (3, .int x3), (4, .int x4), (5, .int x5)] [] μ (f_X9_reach_L24 F μ q0 x1 x2 x4 k n x3 x5) := by
  intro n
  induction n with
  | zero => intro x3 x5; exact Ex_none
  | succ n ih =>
    intro x3 x5
    rw [f_X9_reach_L24]
    refine Ex_iload dX9_reach_24 5 rfl ?_
    refine Ex_aload_n dX9_reach_26 rfl 0 rfl ?_
    refine Ex_get (v := .ref (a0 + (q0 + 3))) fgX9_17 hq0 (by decide) rfl dX9_reach_27 ?_
    refine Ex_iconst (v := 0) dX9_reach_30 (by decide) ?_
    refine Ex_ialdC (j := 0) 2 (kn_9_3 hq0) (by decide) (by decide) (by decide) dX9_reach_31 ?_
    refine Ex_icmp_ge (tgt := 99) dX9_reach_32 (by decide) ?_ ?_
    · refine Ex_perm [0, 1, 2, 3, 4] rfl ?_
      exact hk x3 x5
    · refine Ex_aload_n dX9_reach_35 rfl 0 rfl ?_
      refine Ex_iload_n dX9_reach_36 rfl 1 rfl ?_
      refine Ex_iload dX9_reach_37 5 rfl ?_
      refine Ex_iload_n dX9_reach_39 rfl 2 rfl ?_
      refine Ex_callVR (n := 3) (dp2 := 1) [.int x1, .int x5, .int x2] cvX9_128 hq0 rfl rfl (by decide) (by decide) (Nat.le_of_ble_eq_true rfl) rfl (fun v hv => c_X9_canGo a0 F μ q0 x1 x5 x2 hq0 hv) dX9_reach_40 (fun v_2 hv_4 => ?_)
      refine Ex_if_eq (tgt := 93) dX9_reach_43 (by decide) ?_ ?_
      · refine Ex_iinc (v := x5 + 1) (L2 := [(5, .int (x5 + 1)), (0, .ref (a0 + q0)), (1, .int x1), (2, .int x2), (3, .int x3), (4, .int x4)]) dX9_reach_93 5 rfl rfl (by decide) rfl ?_
        refine Ex_goto (tgt := 24) dX9_reach_96 (by decide) ?_
        refine Ex_perm [1, 2, 3, 4, 5, 0] rfl ?_
        exact ih x3 (x5 + 1)
      · refine Ex_iload_n dX9_reach_46 rfl 3 rfl ?_
        refine Ex_aload_n dX9_reach_47 rfl 0 rfl ?_
        refine Ex_get (v := .ref (a0 + (q0 + 4))) fgX9_20 hq0 (by decide) rfl dX9_reach_48 ?_
        refine Ex_iload dX9_reach_51 5 rfl ?_
        refine Ex_iald 16 (kn_9_4 hq0) (by decide) dX9_reach_53 ?_
        refine Ex_ishr dX9_reach_54 ?_
        refine Ex_iconst (v := 1) dX9_reach_55 (by decide) ?_
        refine Ex_iand dX9_reach_56 ?_
        refine Ex_iload_n dX9_reach_57 rfl 3 rfl ?_
        refine Ex_aload_n dX9_reach_58 rfl 0 rfl ?_
        refine Ex_get (v := .ref (a0 + (q0 + 5))) fgX9_23 hq0 (by decide) rfl dX9_reach_59 ?_
        refine Ex_iload dX9_reach_62 5 rfl ?_
        refine Ex_iald 16 (kn_9_5 hq0) (by decide) dX9_reach_64 ?_
        refine Ex_ishr dX9_reach_65 ?_
        refine Ex_iconst (v := 1) dX9_reach_66 (by decide) ?_
        refine Ex_iand dX9_reach_67 ?_
        refine Ex_icmp_eq (tgt := 93) dX9_reach_68 (by decide) ?_ ?_
        · refine Ex_iinc (v := x5 + 1) (L2 := [(5, .int (x5 + 1)), (0, .ref (a0 + q0)), (1, .int x1), (2, .int x2), (3, .int x3), (4, .int x4)]) dX9_reach_93 5 rfl rfl (by decide) rfl ?_
          refine Ex_goto (tgt := 24) dX9_reach_96 (by decide) ?_
          refine Ex_perm [1, 2, 3, 4, 5, 0] rfl ?_
          exact ih x3 (x5 + 1)
        · refine Ex_iload_n dX9_reach_71 rfl 3 rfl ?_
          refine Ex_iconst (v := 1) dX9_reach_72 (by decide) ?_
          refine Ex_aload_n dX9_reach_73 rfl 0 rfl ?_
          refine Ex_get (v := .ref (a0 + (q0 + 4))) fgX9_20 hq0 (by decide) rfl dX9_reach_74 ?_
          refine Ex_iload dX9_reach_77 5 rfl ?_
          refine Ex_iald 16 (kn_9_4 hq0) (by decide) dX9_reach_79 ?_
          refine Ex_ishl dX9_reach_80 ?_
          refine Ex_iconst (v := 1) dX9_reach_81 (by decide) ?_
          refine Ex_aload_n dX9_reach_82 rfl 0 rfl ?_
          refine Ex_get (v := .ref (a0 + (q0 + 5))) fgX9_23 hq0 (by decide) rfl dX9_reach_83 ?_
          refine Ex_iload dX9_reach_86 5 rfl ?_
          refine Ex_iald 16 (kn_9_5 hq0) (by decide) dX9_reach_88 ?_
          refine Ex_ishl dX9_reach_89 ?_
          refine Ex_ior dX9_reach_90 ?_
          refine Ex_ior dX9_reach_91 ?_
          refine Ex_top (fun x3_5 => ?_)
          refine Ex_istore_n (L2 := [(3, .int x3_5), (0, .ref (a0 + q0)), (1, .int x1), (2, .int x2), (4, .int x4), (5, .int x5)]) dX9_reach_92 rfl (by decide) rfl ?_
          refine Ex_iinc (v := x5 + 1) (L2 := [(5, .int (x5 + 1)), (3, .int x3_5), (0, .ref (a0 + q0)), (1, .int x1), (2, .int x2), (4, .int x4)]) dX9_reach_93 5 rfl rfl (by decide) rfl ?_
          refine Ex_goto (tgt := 24) dX9_reach_96 (by decide) ?_
          refine Ex_perm [2, 3, 4, 1, 5, 0] rfl ?_
          exact ih x3_5 (x5 + 1)

def f_X9_reach_L14 (F : Nat) (μ : Mem) (q0 : Nat) (x1 : Int32) (x2 : Int32) (k : Int32 → Int32 → Option (Int32)) : Nat → Int32 → Int32 → Option (Int32)
  | 0, _, _ => none
  | n + 1, x3, x4 => (if x4 < 8 then f_X9_reach_L24 F μ q0 x1 x2 x4 (fun x3_6 x5_7 => f_X9_reach_L14 F μ q0 x1 x2 k n x3_6 (x4 + 1)) F x3 0 else k x3 x4)
set_option maxRecDepth 100000 in
set_option maxHeartbeats 4000000 in
theorem c_X9_reach_L14 (a0 : Nat) (F : Nat) (μ : Mem) (q0 : Nat) (x1 : Int32) (x2 : Int32) (k : Int32 → Int32 → Option (Int32)) (hq0 : kd q0 = 9) (hk : ∀ (x3 : Int32) (x4 : Int32), Ex a0 RX9 cX9_reach 6 (some .int) 2 none (fun v => (some (.int v), μ)) 105 [(3, .int x3)] [] μ (k x3 x4)) : ∀ (n : Nat) (x3 : Int32) (x4 : Int32), Ex a0 RX9 cX9_reach 6 (some .int) 2 none (fun v => (some (.int v), μ)) 14 [(0, .ref (a0 + q0)), (1, .int x1), (2, .int x2), (3, .int x3), (4, .int x4)] [] μ (f_X9_reach_L14 F μ q0 x1 x2 k n x3 x4) := by
  intro n
  induction n with
  | zero => intro x3 x4; exact Ex_none
  | succ n ih =>
    intro x3 x4
    rw [f_X9_reach_L14]
    refine Ex_iload dX9_reach_14 4 rfl ?_
    refine Ex_bipush (v := 8) dX9_reach_16 (by decide) ?_
    refine Ex_icmp_ge (tgt := 105) dX9_reach_18 (by decide) ?_ ?_
    · refine Ex_perm [3] rfl ?_
      exact hk x3 x4
    · refine Ex_iconst (v := 0) dX9_reach_21 (by decide) ?_
      refine Ex_istore (L2 := [(5, .int 0), (0, .ref (a0 + q0)), (1, .int x1), (2, .int x2), (3, .int x3), (4, .int x4)]) dX9_reach_22 (by decide) rfl ?_
      refine Ex_perm [1, 2, 3, 4, 5, 0] rfl ?_
      refine c_X9_reach_L24 a0 F μ q0 x1 x2 x4 _ hq0 (fun x3_6 x5_7 => ?_) F x3 0
      refine Ex_iinc (v := x4 + 1) (L2 := [(4, .int (x4 + 1)), (0, .ref (a0 + q0)), (1, .int x1), (2, .int x2), (3, .int x3_6)]) dX9_reach_99 4 rfl rfl (by decide) rfl ?_
      refine Ex_goto (tgt := 14) dX9_reach_102 (by decide) ?_
      refine Ex_perm [1, 2, 3, 4, 0] rfl ?_
      exact ih x3_6 (x4 + 1)
def f_X9_reach (F : Nat) (μ : Mem) (t : Nat) (p1 : Int32) (p2 : Int32) : Option (Int32) := if ix (0 + p1) 531 = true then lt (1 <<< ((gI μ (t + 12) ((0 + p1).toNatClampNeg)) &&& 31)) (fun x3_1 => f_X9_reach_L14 F μ t p1 p2 (fun x3_8 x4_9 => some x3_8) F x3_1 0) else none
set_option maxRecDepth 100000 in
set_option maxHeartbeats 4000000 in
theorem c_X9_reach (a0 F : Nat) (μ : Mem) (t : Nat) (p1 : Int32) (p2 : Int32) (hk0 : kd t = 9) {v : Int32} (hr : f_X9_reach F μ t p1 p2 = some v) : Ct a0 yX9_reach cX9_reach 6 (some .int) 2 [.ref (a0 + t), .int p1, .int p2] μ (some (.int v)) μ := by
  refine Ct_of (own := RX9) (ι := (fun v => (some (.int v), μ))) (o := f_X9_reach F μ t p1 p2) (by decide +kernel) rfl (Nat.le_of_ble_eq_true rfl) ?_ hr rfl ⟨_, rfl⟩
  show Ex a0 RX9 cX9_reach 6 (some .int) 2 none (fun v => (some (.int v), μ)) 0 [(0, .ref (a0 + t)), (1, .int p1), (2, .int p2)] [] μ (f_X9_reach F μ t p1 p2)
  unfold f_X9_reach
  refine Ex_iconst (v := 1) dX9_reach_0 (by decide) ?_
  refine Ex_aload_n dX9_reach_1 rfl 0 rfl ?_
  refine Ex_get (v := .ref (a0 + (t + 12))) fgX9_44 hk0 (by decide) rfl dX9_reach_2 ?_
  refine Ex_iconst (v := 0) dX9_reach_5 (by decide) ?_
  refine Ex_iload_n dX9_reach_6 rfl 1 rfl ?_
  refine Ex_iadd dX9_reach_7 ?_
  refine Ex_iald 531 (kn_9_12 hk0) (by decide) dX9_reach_8 ?_
  refine Ex_ishl dX9_reach_9 ?_
  refine Ex_top (fun x3_1 => ?_)
  refine Ex_istore_n (L2 := [(3, .int x3_1), (0, .ref (a0 + t)), (1, .int p1), (2, .int p2)]) dX9_reach_10 rfl (by decide) rfl ?_
  refine Ex_iconst (v := 0) dX9_reach_11 (by decide) ?_
  refine Ex_istore (L2 := [(4, .int 0), (3, .int x3_1), (0, .ref (a0 + t)), (1, .int p1), (2, .int p2)]) dX9_reach_12 (by decide) rfl ?_
  refine Ex_perm [2, 3, 4, 1, 0] rfl ?_
  refine c_X9_reach_L14 a0 F μ t p1 p2 _ hk0 (fun x3_8 x4_9 => ?_) F x3_1 0
  refine Ex_iload_n dX9_reach_105 rfl 0 rfl ?_
  exact Ex_iret dX9_reach_106 rfl (fun ty h => by cases h; rfl)

def f_X9_mark (F : Nat) (μ : Mem) (t : Nat) (p1 : Int32) (p2 : Int32) : Option (Int32 × Mem) := (f_X9_in F μ p1 0 5).bind (fun v_1 => (if v_1 = 0 then some ((-1000000), μ) else (f_X9_isPerson F μ t p2).bind (fun v_4 => (if v_4 = 0 then some ((-1000000), μ) else (f_X9_wide F μ t p2).bind (fun v_7 => (f_X9_reach F μ t p2 (gI μ (t + 12) 15)).bind (fun v_10 => (f_X9_manyOf F μ v_10).bind (fun v_13 => (if p1 = 0 then lt (sL μ t ((gL μ t) + 1)) (fun μ_17 => (f_X9_wide F μ_17 t p2).bind (fun v_18 => some (v_18, μ_17))) else (if p1 = 1 then lt (sL μ t ((gL μ t) + 11)) (fun μ_22 => some (v_7 + v_13, μ_22)) else (if p1 = 2 then lt (sL μ t ((gL μ t) + 101)) (fun μ_24 => (f_X9_wide F μ_24 t p2).bind (fun v_25 => some (v_25 - p2, μ_24))) else (if p1 = 3 then lt (sL μ t ((gL μ t) + 1011)) (fun μ_29 => some (2 * (v_7 + v_13), μ_29)) else (if p1 = 4 then lt (sL μ t ((gL μ t) + 10101)) (fun μ_31 => (f_X9_wide F μ_31 t p2).bind (fun v_32 => if ix (10 + p2) 531 = true then some ((v_32 - p2) + (gI μ_31 (t + 12) ((10 + p2).toNatClampNeg)), μ_31) else none)) else lt (sL μ t ((gL μ t) + 100001)) (fun μ_35 => (f_X9_wide F μ_35 t p2).bind (fun v_36 => (f_X9_manyOf F μ_35 (gI μ_35 (t + 12) 15)).bind (fun v_39 => some (v_36 + v_39, μ_35))))))))))))))))
set_option maxRecDepth 100000 in
set_option maxHeartbeats 4000000 in
theorem c_X9_mark (a0 F : Nat) (μ : Mem) (t : Nat) (p1 : Int32) (p2 : Int32) (hk0 : kd t = 9) {v : Int32} {μ2 : Mem} (hr : f_X9_mark F μ t p1 p2 = some (v, μ2)) : Ct a0 yX9_mark cX9_mark 4 (some .int) 3 [.ref (a0 + t), .int p1, .int p2] μ (some (.int v)) μ2 := by
  refine Ct_of (own := RX9) (ι := (fun x => (some (.int x.1), x.2))) (o := f_X9_mark F μ t p1 p2) (by decide +kernel) rfl (Nat.le_of_ble_eq_true rfl) ?_ hr rfl ⟨_, rfl⟩
  show Ex a0 RX9 cX9_mark 4 (some .int) 3 none (fun x => (some (.int x.1), x.2)) 0 [(0, .ref (a0 + t)), (1, .int p1), (2, .int p2)] [] μ (f_X9_mark F μ t p1 p2)
  unfold f_X9_mark
  refine Ex_iload_n dX9_mark_0 rfl 1 rfl ?_
  refine Ex_iconst (v := 0) dX9_mark_1 (by decide) ?_
  refine Ex_iconst (v := 5) dX9_mark_2 (by decide) ?_
  refine Ex_callSR (n := 3) (dp2 := 0) [.int p1, .int 0, .int 5] cvX9_72 rfl (by decide) (by decide) (Nat.le_of_ble_eq_true rfl) rfl (fun v hv => c_X9_in a0 F μ p1 0 5 hv) dX9_mark_3 (fun v_1 hv_3 => ?_)
  refine Ex_if_eq (tgt := 17) dX9_mark_6 (by decide) ?_ ?_
  · refine Ex_ldc (v := (-1000000)) dX9_mark_17 cnX9_181 ?_
    exact Ex_iret dX9_mark_19 rfl (fun ty h => by cases h; rfl)
  · refine Ex_aload_n dX9_mark_9 rfl 0 rfl ?_
    refine Ex_iload_n dX9_mark_10 rfl 2 rfl ?_
    refine Ex_callVR (n := 1) (dp2 := 1) [.int p2] cvX9_141 hk0 rfl rfl (by decide) (by decide) (Nat.le_of_ble_eq_true rfl) rfl (fun v hv => c_X9_isPerson a0 F μ t p2 hk0 hv) dX9_mark_11 (fun v_4 hv_6 => ?_)
    refine Ex_if_ne (tgt := 20) dX9_mark_14 (by decide) ?_ ?_
    · refine Ex_aload_n dX9_mark_20 rfl 0 rfl ?_
      refine Ex_iload_n dX9_mark_21 rfl 2 rfl ?_
      refine Ex_callVR (n := 1) (dp2 := 0) [.int p2] cvX9_124 hk0 rfl rfl (by decide) (by decide) (Nat.le_of_ble_eq_true rfl) rfl (fun v hv => c_X9_wide a0 F μ t p2 hk0 hv) dX9_mark_22 (fun v_7 hv_9 => ?_)
      refine Ex_aload_n dX9_mark_25 rfl 0 rfl ?_
      refine Ex_iload_n dX9_mark_26 rfl 2 rfl ?_
      refine Ex_aload_n dX9_mark_27 rfl 0 rfl ?_
      refine Ex_get (v := .ref (a0 + (t + 12))) fgX9_44 hk0 (by decide) rfl dX9_mark_28 ?_
      refine Ex_bipush (v := 15) dX9_mark_31 (by decide) ?_
      refine Ex_ialdC (j := 15) 531 (kn_9_12 hk0) (by decide) (by decide) (by decide) dX9_mark_33 ?_
      refine Ex_callVR (n := 2) (dp2 := 2) [.int p2, .int (gI μ (t + 12) 15)] cvX9_131 hk0 rfl rfl (by decide) (by decide) (Nat.le_of_ble_eq_true rfl) rfl (fun v hv => c_X9_reach a0 F μ t p2 (gI μ (t + 12) 15) hk0 hv) dX9_mark_34 (fun v_10 hv_12 => ?_)
      refine Ex_callSR (n := 1) (dp2 := 0) [.int v_10] cvX9_157 rfl (by decide) (by decide) (Nat.le_of_ble_eq_true rfl) rfl (fun v hv => c_X9_manyOf a0 F μ v_10 hv) dX9_mark_37 (fun v_13 hv_15 => ?_)
      refine Ex_iadd dX9_mark_40 ?_
      refine Ex_istore_n (L2 := [(3, .int (v_7 + v_13)), (0, .ref (a0 + t)), (1, .int p1), (2, .int p2)]) dX9_mark_41 rfl (by decide) rfl ?_
      refine Ex_iload_n dX9_mark_42 rfl 2 rfl ?_
      refine Ex_if (p1 = 0) (fun hc_16 => ?_) (fun hc_16 => ?_)
      · refine Ex_tblC (tgt := 76) dX9_mark_43 (i := 0) (by rw [hc_16]; rfl) (by decide) (by decide) (off := 33) rfl (by decide) ?_
        refine Ex_aload_n dX9_mark_76 rfl 1 rfl ?_
        refine Ex_dup dX9_mark_77 rfl ?_
        refine Ex_get (v := .long (gL μ t)) fgX9_182 hk0 (by decide) rfl dX9_mark_78 ?_
        refine Ex_lconst (v := 1) dX9_mark_81 (by decide) ?_
        refine Ex_ladd dX9_mark_82 ?_
        refine Ex_putL fgX9_182 fp9_0 hk0 (by decide) rfl rfl (Nat.le_of_ble_eq_true rfl) (fs9_0 a0 μ t ((gL μ t) + 1)) dX9_mark_83 (fun μ_17 => ?_)
        refine Ex_aload_n dX9_mark_86 rfl 1 rfl ?_
        refine Ex_iload_n dX9_mark_87 rfl 3 rfl ?_
        refine Ex_callVR (n := 1) (dp2 := 0) [.int p2] cvX9_124 hk0 rfl rfl (by decide) (by decide) (Nat.le_of_ble_eq_true rfl) rfl (fun v hv => c_X9_wide a0 F μ_17 t p2 hk0 hv) dX9_mark_88 (fun v_18 hv_20 => ?_)
        exact Ex_iret dX9_mark_91 rfl (fun ty h => by cases h; rfl)
      · refine Ex_if (p1 = 1) (fun hc_21 => ?_) (fun hc_21 => ?_)
        · refine Ex_tblC (tgt := 92) dX9_mark_43 (i := 1) (by rw [hc_21]; rfl) (by decide) (by decide) (off := 49) rfl (by decide) ?_
          refine Ex_aload_n dX9_mark_92 rfl 1 rfl ?_
          refine Ex_dup dX9_mark_93 rfl ?_
          refine Ex_get (v := .long (gL μ t)) fgX9_182 hk0 (by decide) rfl dX9_mark_94 ?_
          refine Ex_ldc2 (v := 11) dX9_mark_97 cnX9_186 ?_
          refine Ex_ladd dX9_mark_100 ?_
          refine Ex_putL fgX9_182 fp9_0 hk0 (by decide) rfl rfl (Nat.le_of_ble_eq_true rfl) (fs9_0 a0 μ t ((gL μ t) + 11)) dX9_mark_101 (fun μ_22 => ?_)
          refine Ex_iload_n dX9_mark_104 rfl 0 rfl ?_
          exact Ex_iret dX9_mark_105 rfl (fun ty h => by cases h; rfl)
        · refine Ex_if (p1 = 2) (fun hc_23 => ?_) (fun hc_23 => ?_)
          · refine Ex_tblC (tgt := 106) dX9_mark_43 (i := 2) (by rw [hc_23]; rfl) (by decide) (by decide) (off := 63) rfl (by decide) ?_
            refine Ex_aload_n dX9_mark_106 rfl 1 rfl ?_
            refine Ex_dup dX9_mark_107 rfl ?_
            refine Ex_get (v := .long (gL μ t)) fgX9_182 hk0 (by decide) rfl dX9_mark_108 ?_
            refine Ex_ldc2 (v := 101) dX9_mark_111 cnX9_188 ?_
            refine Ex_ladd dX9_mark_114 ?_
            refine Ex_putL fgX9_182 fp9_0 hk0 (by decide) rfl rfl (Nat.le_of_ble_eq_true rfl) (fs9_0 a0 μ t ((gL μ t) + 101)) dX9_mark_115 (fun μ_24 => ?_)
            refine Ex_aload_n dX9_mark_118 rfl 1 rfl ?_
            refine Ex_iload_n dX9_mark_119 rfl 3 rfl ?_
            refine Ex_callVR (n := 1) (dp2 := 0) [.int p2] cvX9_124 hk0 rfl rfl (by decide) (by decide) (Nat.le_of_ble_eq_true rfl) rfl (fun v hv => c_X9_wide a0 F μ_24 t p2 hk0 hv) dX9_mark_120 (fun v_25 hv_27 => ?_)
            refine Ex_iload_n dX9_mark_123 rfl 3 rfl ?_
            refine Ex_isub dX9_mark_124 ?_
            exact Ex_iret dX9_mark_125 rfl (fun ty h => by cases h; rfl)
          · refine Ex_if (p1 = 3) (fun hc_28 => ?_) (fun hc_28 => ?_)
            · refine Ex_tblC (tgt := 126) dX9_mark_43 (i := 3) (by rw [hc_28]; rfl) (by decide) (by decide) (off := 83) rfl (by decide) ?_
              refine Ex_aload_n dX9_mark_126 rfl 1 rfl ?_
              refine Ex_dup dX9_mark_127 rfl ?_
              refine Ex_get (v := .long (gL μ t)) fgX9_182 hk0 (by decide) rfl dX9_mark_128 ?_
              refine Ex_ldc2 (v := 1011) dX9_mark_131 cnX9_190 ?_
              refine Ex_ladd dX9_mark_134 ?_
              refine Ex_putL fgX9_182 fp9_0 hk0 (by decide) rfl rfl (Nat.le_of_ble_eq_true rfl) (fs9_0 a0 μ t ((gL μ t) + 1011)) dX9_mark_135 (fun μ_29 => ?_)
              refine Ex_iconst (v := 2) dX9_mark_138 (by decide) ?_
              refine Ex_iload_n dX9_mark_139 rfl 0 rfl ?_
              refine Ex_imul dX9_mark_140 ?_
              exact Ex_iret dX9_mark_141 rfl (fun ty h => by cases h; rfl)
            · refine Ex_if (p1 = 4) (fun hc_30 => ?_) (fun hc_30 => ?_)
              · refine Ex_tblC (tgt := 142) dX9_mark_43 (i := 4) (by rw [hc_30]; rfl) (by decide) (by decide) (off := 99) rfl (by decide) ?_
                refine Ex_aload_n dX9_mark_142 rfl 1 rfl ?_
                refine Ex_dup dX9_mark_143 rfl ?_
                refine Ex_get (v := .long (gL μ t)) fgX9_182 hk0 (by decide) rfl dX9_mark_144 ?_
                refine Ex_ldc2 (v := 10101) dX9_mark_147 cnX9_192 ?_
                refine Ex_ladd dX9_mark_150 ?_
                refine Ex_putL fgX9_182 fp9_0 hk0 (by decide) rfl rfl (Nat.le_of_ble_eq_true rfl) (fs9_0 a0 μ t ((gL μ t) + 10101)) dX9_mark_151 (fun μ_31 => ?_)
                refine Ex_aload_n dX9_mark_154 rfl 1 rfl ?_
                refine Ex_iload_n dX9_mark_155 rfl 3 rfl ?_
                refine Ex_callVR (n := 1) (dp2 := 0) [.int p2] cvX9_124 hk0 rfl rfl (by decide) (by decide) (Nat.le_of_ble_eq_true rfl) rfl (fun v hv => c_X9_wide a0 F μ_31 t p2 hk0 hv) dX9_mark_156 (fun v_32 hv_34 => ?_)
                refine Ex_iload_n dX9_mark_159 rfl 3 rfl ?_
                refine Ex_isub dX9_mark_160 ?_
                refine Ex_aload_n dX9_mark_161 rfl 1 rfl ?_
                refine Ex_get (v := .ref (a0 + (t + 12))) fgX9_44 hk0 (by decide) rfl dX9_mark_162 ?_
                refine Ex_bipush (v := 10) dX9_mark_165 (by decide) ?_
                refine Ex_iload_n dX9_mark_167 rfl 3 rfl ?_
                refine Ex_iadd dX9_mark_168 ?_
                refine Ex_iald 531 (kn_9_12 hk0) (by decide) dX9_mark_169 ?_
                refine Ex_iadd dX9_mark_170 ?_
                exact Ex_iret dX9_mark_171 rfl (fun ty h => by cases h; rfl)
              · refine Ex_tblD (tgt := 172) dX9_mark_43 (by have q0 := lv_neT hc_16 (show (0 : Int32).toInt = 0 from rfl); have q1 := lv_neT hc_21 (show (1 : Int32).toInt = 1 from rfl); have q2 := lv_neT hc_23 (show (2 : Int32).toInt = 2 from rfl); have q3 := lv_neT hc_28 (show (3 : Int32).toInt = 3 from rfl); have q4 := lv_neT hc_30 (show (4 : Int32).toInt = 4 from rfl); omega) (by decide) ?_
                refine Ex_aload_n dX9_mark_172 rfl 1 rfl ?_
                refine Ex_dup dX9_mark_173 rfl ?_
                refine Ex_get (v := .long (gL μ t)) fgX9_182 hk0 (by decide) rfl dX9_mark_174 ?_
                refine Ex_ldc2 (v := 100001) dX9_mark_177 cnX9_194 ?_
                refine Ex_ladd dX9_mark_180 ?_
                refine Ex_putL fgX9_182 fp9_0 hk0 (by decide) rfl rfl (Nat.le_of_ble_eq_true rfl) (fs9_0 a0 μ t ((gL μ t) + 100001)) dX9_mark_181 (fun μ_35 => ?_)
                refine Ex_aload_n dX9_mark_184 rfl 1 rfl ?_
                refine Ex_iload_n dX9_mark_185 rfl 3 rfl ?_
                refine Ex_callVR (n := 1) (dp2 := 0) [.int p2] cvX9_124 hk0 rfl rfl (by decide) (by decide) (Nat.le_of_ble_eq_true rfl) rfl (fun v hv => c_X9_wide a0 F μ_35 t p2 hk0 hv) dX9_mark_186 (fun v_36 hv_38 => ?_)
                refine Ex_aload_n dX9_mark_189 rfl 1 rfl ?_
                refine Ex_get (v := .ref (a0 + (t + 12))) fgX9_44 hk0 (by decide) rfl dX9_mark_190 ?_
                refine Ex_bipush (v := 15) dX9_mark_193 (by decide) ?_
                refine Ex_ialdC (j := 15) 531 (kn_9_12 hk0) (by decide) (by decide) (by decide) dX9_mark_195 ?_
                refine Ex_callSR (n := 1) (dp2 := 0) [.int (gI μ_35 (t + 12) 15)] cvX9_157 rfl (by decide) (by decide) (Nat.le_of_ble_eq_true rfl) rfl (fun v hv => c_X9_manyOf a0 F μ_35 (gI μ_35 (t + 12) 15) hv) dX9_mark_196 (fun v_39 hv_41 => ?_)
                refine Ex_iadd dX9_mark_199 ?_
                exact Ex_iret dX9_mark_200 rfl (fun ty h => by cases h; rfl)
    · refine Ex_ldc (v := (-1000000)) dX9_mark_17 cnX9_181 ?_
      exact Ex_iret dX9_mark_19 rfl (fun ty h => by cases h; rfl)

def f_X9_outcome (F : Nat) (μ : Mem) (t : Nat) (p1 : Int32) (p2 : Int32) (p3 : Int32) : Option (Int32) := (f_X9_isClosed F μ t p3).bind (fun v_1 => (if v_1 = 0 then (f_X9_wide F μ t p1).bind (fun v_4 => if ix p3 16 = true then (if (gI μ (t + 6) p3.toNatClampNeg) < v_4 then some 4 else (f_X9_wide F μ t p2).bind (fun v_7 => if ix p3 16 = true then (if (gI μ (t + 6) p3.toNatClampNeg) < v_7 then some 4 else (f_X9_wide F μ t p1).bind (fun v_10 => (f_X9_wide F μ t p2).bind (fun v_13 => if ix p3 16 = true then (if (gI μ (t + 6) p3.toNatClampNeg) < (v_10 + v_13) then if ix (5 + p1) 531 = true then lt (gI μ (t + 12) ((5 + p1).toNatClampNeg)) (fun x4_16 => if ix (5 + p2) 531 = true then lt (gI μ (t + 12) ((5 + p2).toNatClampNeg)) (fun x5_17 => (if x5_17 < x4_16 then some 1 else (if x4_16 < x5_17 then some 2 else some 3))) else none) else none else some 0) else none))) else none)) else none) else some 5))
set_option maxRecDepth 100000 in
set_option maxHeartbeats 4000000 in
theorem c_X9_outcome (a0 F : Nat) (μ : Mem) (t : Nat) (p1 : Int32) (p2 : Int32) (p3 : Int32) (hk0 : kd t = 9) {v : Int32} (hr : f_X9_outcome F μ t p1 p2 p3 = some v) : Ct a0 yX9_outcome cX9_outcome 6 (some .int) 1 [.ref (a0 + t), .int p1, .int p2, .int p3] μ (some (.int v)) μ := by
  refine Ct_of (own := RX9) (ι := (fun v => (some (.int v), μ))) (o := f_X9_outcome F μ t p1 p2 p3) (by decide +kernel) rfl (Nat.le_of_ble_eq_true rfl) ?_ hr rfl ⟨_, rfl⟩
  show Ex a0 RX9 cX9_outcome 6 (some .int) 1 none (fun v => (some (.int v), μ)) 0 [(0, .ref (a0 + t)), (1, .int p1), (2, .int p2), (3, .int p3)] [] μ (f_X9_outcome F μ t p1 p2 p3)
  unfold f_X9_outcome
  refine Ex_aload_n dX9_outcome_0 rfl 0 rfl ?_
  refine Ex_iload_n dX9_outcome_1 rfl 3 rfl ?_
  refine Ex_callVR (n := 1) (dp2 := 0) [.int p3] cvX9_138 hk0 rfl rfl (by decide) (by decide) (Nat.le_of_ble_eq_true rfl) rfl (fun v hv => c_X9_isClosed a0 F μ t p3 hk0 hv) dX9_outcome_2 (fun v_1 hv_3 => ?_)
  refine Ex_if_eq (tgt := 10) dX9_outcome_5 (by decide) ?_ ?_
  · refine Ex_aload_n dX9_outcome_10 rfl 0 rfl ?_
    refine Ex_iload_n dX9_outcome_11 rfl 1 rfl ?_
    refine Ex_callVR (n := 1) (dp2 := 0) [.int p1] cvX9_124 hk0 rfl rfl (by decide) (by decide) (Nat.le_of_ble_eq_true rfl) rfl (fun v hv => c_X9_wide a0 F μ t p1 hk0 hv) dX9_outcome_12 (fun v_4 hv_6 => ?_)
    refine Ex_aload_n dX9_outcome_15 rfl 0 rfl ?_
    refine Ex_get (v := .ref (a0 + (t + 6))) fgX9_26 hk0 (by decide) rfl dX9_outcome_16 ?_
    refine Ex_iload_n dX9_outcome_19 rfl 3 rfl ?_
    refine Ex_iald 16 (kn_9_6 hk0) (by decide) dX9_outcome_20 ?_
    refine Ex_icmp_gt (tgt := 38) dX9_outcome_21 (by decide) ?_ ?_
    · refine Ex_iconst (v := 4) dX9_outcome_38 (by decide) ?_
      exact Ex_iret dX9_outcome_39 rfl (fun ty h => by cases h; rfl)
    · refine Ex_aload_n dX9_outcome_24 rfl 0 rfl ?_
      refine Ex_iload_n dX9_outcome_25 rfl 2 rfl ?_
      refine Ex_callVR (n := 1) (dp2 := 0) [.int p2] cvX9_124 hk0 rfl rfl (by decide) (by decide) (Nat.le_of_ble_eq_true rfl) rfl (fun v hv => c_X9_wide a0 F μ t p2 hk0 hv) dX9_outcome_26 (fun v_7 hv_9 => ?_)
      refine Ex_aload_n dX9_outcome_29 rfl 0 rfl ?_
      refine Ex_get (v := .ref (a0 + (t + 6))) fgX9_26 hk0 (by decide) rfl dX9_outcome_30 ?_
      refine Ex_iload_n dX9_outcome_33 rfl 3 rfl ?_
      refine Ex_iald 16 (kn_9_6 hk0) (by decide) dX9_outcome_34 ?_
      refine Ex_icmp_le (tgt := 40) dX9_outcome_35 (by decide) ?_ ?_
      · refine Ex_aload_n dX9_outcome_40 rfl 0 rfl ?_
        refine Ex_iload_n dX9_outcome_41 rfl 1 rfl ?_
        refine Ex_callVR (n := 1) (dp2 := 0) [.int p1] cvX9_124 hk0 rfl rfl (by decide) (by decide) (Nat.le_of_ble_eq_true rfl) rfl (fun v hv => c_X9_wide a0 F μ t p1 hk0 hv) dX9_outcome_42 (fun v_10 hv_12 => ?_)
        refine Ex_aload_n dX9_outcome_45 rfl 0 rfl ?_
        refine Ex_iload_n dX9_outcome_46 rfl 2 rfl ?_
        refine Ex_callVR (n := 1) (dp2 := 0) [.int p2] cvX9_124 hk0 rfl rfl (by decide) (by decide) (Nat.le_of_ble_eq_true rfl) rfl (fun v hv => c_X9_wide a0 F μ t p2 hk0 hv) dX9_outcome_47 (fun v_13 hv_15 => ?_)
        refine Ex_iadd dX9_outcome_50 ?_
        refine Ex_aload_n dX9_outcome_51 rfl 0 rfl ?_
        refine Ex_get (v := .ref (a0 + (t + 6))) fgX9_26 hk0 (by decide) rfl dX9_outcome_52 ?_
        refine Ex_iload_n dX9_outcome_55 rfl 3 rfl ?_
        refine Ex_iald 16 (kn_9_6 hk0) (by decide) dX9_outcome_56 ?_
        refine Ex_icmp_gt (tgt := 62) dX9_outcome_57 (by decide) ?_ ?_
        · refine Ex_aload_n dX9_outcome_62 rfl 0 rfl ?_
          refine Ex_get (v := .ref (a0 + (t + 12))) fgX9_44 hk0 (by decide) rfl dX9_outcome_63 ?_
          refine Ex_iconst (v := 5) dX9_outcome_66 (by decide) ?_
          refine Ex_iload_n dX9_outcome_67 rfl 1 rfl ?_
          refine Ex_iadd dX9_outcome_68 ?_
          refine Ex_iald 531 (kn_9_12 hk0) (by decide) dX9_outcome_69 ?_
          refine Ex_top (fun x4_16 => ?_)
          refine Ex_istore (L2 := [(4, .int x4_16), (0, .ref (a0 + t)), (1, .int p1), (2, .int p2), (3, .int p3)]) dX9_outcome_70 (by decide) rfl ?_
          refine Ex_aload_n dX9_outcome_72 rfl 1 rfl ?_
          refine Ex_get (v := .ref (a0 + (t + 12))) fgX9_44 hk0 (by decide) rfl dX9_outcome_73 ?_
          refine Ex_iconst (v := 5) dX9_outcome_76 (by decide) ?_
          refine Ex_iload_n dX9_outcome_77 rfl 3 rfl ?_
          refine Ex_iadd dX9_outcome_78 ?_
          refine Ex_iald 531 (kn_9_12 hk0) (by decide) dX9_outcome_79 ?_
          refine Ex_top (fun x5_17 => ?_)
          refine Ex_istore (L2 := [(5, .int x5_17), (4, .int x4_16), (0, .ref (a0 + t)), (1, .int p1), (2, .int p2), (3, .int p3)]) dX9_outcome_80 (by decide) rfl ?_
          refine Ex_iload dX9_outcome_82 1 rfl ?_
          refine Ex_iload dX9_outcome_84 0 rfl ?_
          refine Ex_icmp_le (tgt := 93) dX9_outcome_86 (by decide) ?_ ?_
          · refine Ex_iload dX9_outcome_93 1 rfl ?_
            refine Ex_iload dX9_outcome_95 0 rfl ?_
            refine Ex_icmp_ge (tgt := 104) dX9_outcome_97 (by decide) ?_ ?_
            · refine Ex_iconst (v := 3) dX9_outcome_104 (by decide) ?_
              exact Ex_iret dX9_outcome_105 rfl (fun ty h => by cases h; rfl)
            · refine Ex_iconst (v := 2) dX9_outcome_100 (by decide) ?_
              refine Ex_goto (tgt := 105) dX9_outcome_101 (by decide) ?_
              exact Ex_iret dX9_outcome_105 rfl (fun ty h => by cases h; rfl)
          · refine Ex_iconst (v := 1) dX9_outcome_89 (by decide) ?_
            refine Ex_goto (tgt := 105) dX9_outcome_90 (by decide) ?_
            exact Ex_iret dX9_outcome_105 rfl (fun ty h => by cases h; rfl)
        · refine Ex_iconst (v := 0) dX9_outcome_60 (by decide) ?_
          exact Ex_iret dX9_outcome_61 rfl (fun ty h => by cases h; rfl)
      · refine Ex_iconst (v := 4) dX9_outcome_38 (by decide) ?_
        exact Ex_iret dX9_outcome_39 rfl (fun ty h => by cases h; rfl)
  · refine Ex_iconst (v := 5) dX9_outcome_8 (by decide) ?_
    exact Ex_iret dX9_outcome_9 rfl (fun ty h => by cases h; rfl)

def f_X9_meeting (F : Nat) (μ : Mem) (t : Nat) (p1 : Int32) (p2 : Int32) (p3 : Int32) : Option (Int32) := (f_X9_isPerson F μ t p1).bind (fun v_1 => (if v_1 = 0 then some (-1) else (f_X9_isPerson F μ t p2).bind (fun v_4 => (if v_4 = 0 then some (-1) else (if p1 = p2 then some (-1) else (f_X9_isLane F μ t p3).bind (fun v_7 => (if v_7 = 0 then some (-1) else (f_X9_outcome F μ t p1 p2 p3).bind (fun v_10 => some v_10))))))))
set_option maxRecDepth 100000 in
set_option maxHeartbeats 4000000 in
theorem c_X9_meeting (a0 F : Nat) (μ : Mem) (t : Nat) (p1 : Int32) (p2 : Int32) (p3 : Int32) (hk0 : kd t = 9) {v : Int32} (hr : f_X9_meeting F μ t p1 p2 p3 = some v) : Ct a0 yX9_meeting cX9_meeting 4 (some .int) 2 [.ref (a0 + t), .int p1, .int p2, .int p3] μ (some (.int v)) μ := by
  refine Ct_of (own := RX9) (ι := (fun v => (some (.int v), μ))) (o := f_X9_meeting F μ t p1 p2 p3) (by decide +kernel) rfl (Nat.le_of_ble_eq_true rfl) ?_ hr rfl ⟨_, rfl⟩
  show Ex a0 RX9 cX9_meeting 4 (some .int) 2 none (fun v => (some (.int v), μ)) 0 [(0, .ref (a0 + t)), (1, .int p1), (2, .int p2), (3, .int p3)] [] μ (f_X9_meeting F μ t p1 p2 p3)
  unfold f_X9_meeting
  refine Ex_aload_n dX9_meeting_0 rfl 0 rfl ?_
  refine Ex_iload_n dX9_meeting_1 rfl 1 rfl ?_
  refine Ex_callVR (n := 1) (dp2 := 1) [.int p1] cvX9_141 hk0 rfl rfl (by decide) (by decide) (Nat.le_of_ble_eq_true rfl) rfl (fun v hv => c_X9_isPerson a0 F μ t p1 hk0 hv) dX9_meeting_2 (fun v_1 hv_3 => ?_)
  refine Ex_if_eq (tgt := 39) dX9_meeting_5 (by decide) ?_ ?_
  · refine Ex_iconst (v := (-1)) dX9_meeting_39 (by decide) ?_
    exact Ex_iret dX9_meeting_40 rfl (fun ty h => by cases h; rfl)
  · refine Ex_aload_n dX9_meeting_8 rfl 0 rfl ?_
    refine Ex_iload_n dX9_meeting_9 rfl 2 rfl ?_
    refine Ex_callVR (n := 1) (dp2 := 1) [.int p2] cvX9_141 hk0 rfl rfl (by decide) (by decide) (Nat.le_of_ble_eq_true rfl) rfl (fun v hv => c_X9_isPerson a0 F μ t p2 hk0 hv) dX9_meeting_10 (fun v_4 hv_6 => ?_)
    refine Ex_if_eq (tgt := 39) dX9_meeting_13 (by decide) ?_ ?_
    · refine Ex_iconst (v := (-1)) dX9_meeting_39 (by decide) ?_
      exact Ex_iret dX9_meeting_40 rfl (fun ty h => by cases h; rfl)
    · refine Ex_iload_n dX9_meeting_16 rfl 1 rfl ?_
      refine Ex_iload_n dX9_meeting_17 rfl 2 rfl ?_
      refine Ex_icmp_eq (tgt := 39) dX9_meeting_18 (by decide) ?_ ?_
      · refine Ex_iconst (v := (-1)) dX9_meeting_39 (by decide) ?_
        exact Ex_iret dX9_meeting_40 rfl (fun ty h => by cases h; rfl)
      · refine Ex_aload_n dX9_meeting_21 rfl 0 rfl ?_
        refine Ex_iload_n dX9_meeting_22 rfl 3 rfl ?_
        refine Ex_callVR (n := 1) (dp2 := 1) [.int p3] cvX9_134 hk0 rfl rfl (by decide) (by decide) (Nat.le_of_ble_eq_true rfl) rfl (fun v hv => c_X9_isLane a0 F μ t p3 hk0 hv) dX9_meeting_23 (fun v_7 hv_9 => ?_)
        refine Ex_if_eq (tgt := 39) dX9_meeting_26 (by decide) ?_ ?_
        · refine Ex_iconst (v := (-1)) dX9_meeting_39 (by decide) ?_
          exact Ex_iret dX9_meeting_40 rfl (fun ty h => by cases h; rfl)
        · refine Ex_aload_n dX9_meeting_29 rfl 0 rfl ?_
          refine Ex_iload_n dX9_meeting_30 rfl 1 rfl ?_
          refine Ex_iload_n dX9_meeting_31 rfl 2 rfl ?_
          refine Ex_iload_n dX9_meeting_32 rfl 3 rfl ?_
          refine Ex_callVR (n := 3) (dp2 := 1) [.int p1, .int p2, .int p3] cvX9_153 hk0 rfl rfl (by decide) (by decide) (Nat.le_of_ble_eq_true rfl) rfl (fun v hv => c_X9_outcome a0 F μ t p1 p2 p3 hk0 hv) dX9_meeting_33 (fun v_10 hv_12 => ?_)
          refine Ex_goto (tgt := 40) dX9_meeting_36 (by decide) ?_
          exact Ex_iret dX9_meeting_40 rfl (fun ty h => by cases h; rfl)

def f_X9_meets (F : Nat) (μ : Mem) (t : Nat) (p1 : Int32) (p2 : Int32) (p3 : Int32) : Option (Int32 × Mem) := (f_X9_isPerson F μ t p1).bind (fun v_1 => (if v_1 = 0 then some ((-1), μ) else (f_X9_isPerson F μ t p2).bind (fun v_4 => (if v_4 = 0 then some ((-1), μ) else (if p1 = p2 then some ((-1), μ) else (f_X9_isLane F μ t p3).bind (fun v_7 => (if v_7 = 0 then some ((-1), μ) else (f_X9_outcome F μ t p1 p2 p3).bind (fun v_10 => if ix (0 + p1) 531 = true then lt (gI μ (t + 12) ((0 + p1).toNatClampNeg)) (fun x5_13 => if ix (0 + p2) 531 = true then lt (gI μ (t + 12) ((0 + p2).toNatClampNeg)) (fun x6_14 => (if 3 < v_10 then some ((-2), μ) else (f_X9_ends F μ t p3 x5_13).bind (fun v_15 => (if v_15 = 0 then some ((-2), μ) else (f_X9_other F μ t p3 x5_13).bind (fun v_18 => (if v_18 = x6_14 then (f_X9_know F μ t).bind (fun μ_22 => (if v_10 < 2 then if ix (0 + p1) 531 = true then lt (sI μ_22 (t + 12) ((0 + p1).toNatClampNeg) x6_14) (fun μ_70 => (if v_10 = 0 then if ix (0 + p2) 531 = true then lt (sI μ_70 (t + 12) ((0 + p2).toNatClampNeg) x5_13) (fun μ_71 => if ix (10 + p1) 531 = true then (if v_10 = 2 then if ix (10 + p1) 531 = true then lt (sI μ_71 (t + 12) ((10 + p1).toNatClampNeg) ((gI μ_71 (t + 12) ((10 + p1).toNatClampNeg)) + 1)) (fun μ_79 => if ix (10 + p2) 531 = true then (if v_10 = 1 then if ix (10 + p2) 531 = true then lt (sI μ_79 (t + 12) ((10 + p2).toNatClampNeg) ((gI μ_79 (t + 12) ((10 + p2).toNatClampNeg)) + 1)) (fun μ_83 => (if v_10 = 3 then lt (sI μ_83 (t + 12) 15 ((gI μ_83 (t + 12) 15) ||| (1 <<< (p3 &&& 31)))) (fun μ_85 => some (v_10, μ_85)) else lt (sI μ_83 (t + 12) 15 ((gI μ_83 (t + 12) 15) ||| 0)) (fun μ_84 => some (v_10, μ_84)))) else none else if ix (10 + p2) 531 = true then lt (sI μ_79 (t + 12) ((10 + p2).toNatClampNeg) ((gI μ_79 (t + 12) ((10 + p2).toNatClampNeg)) + 0)) (fun μ_80 => (if v_10 = 3 then lt (sI μ_80 (t + 12) 15 ((gI μ_80 (t + 12) 15) ||| (1 <<< (p3 &&& 31)))) (fun μ_82 => some (v_10, μ_82)) else lt (sI μ_80 (t + 12) 15 ((gI μ_80 (t + 12) 15) ||| 0)) (fun μ_81 => some (v_10, μ_81)))) else none) else none) else none else if ix (10 + p1) 531 = true then lt (sI μ_71 (t + 12) ((10 + p1).toNatClampNeg) ((gI μ_71 (t + 12) ((10 + p1).toNatClampNeg)) + 0)) (fun μ_72 => if ix (10 + p2) 531 = true then (if v_10 = 1 then if ix (10 + p2) 531 = true then lt (sI μ_72 (t + 12) ((10 + p2).toNatClampNeg) ((gI μ_72 (t + 12) ((10 + p2).toNatClampNeg)) + 1)) (fun μ_76 => (if v_10 = 3 then lt (sI μ_76 (t + 12) 15 ((gI μ_76 (t + 12) 15) ||| (1 <<< (p3 &&& 31)))) (fun μ_78 => some (v_10, μ_78)) else lt (sI μ_76 (t + 12) 15 ((gI μ_76 (t + 12) 15) ||| 0)) (fun μ_77 => some (v_10, μ_77)))) else none else if ix (10 + p2) 531 = true then lt (sI μ_72 (t + 12) ((10 + p2).toNatClampNeg) ((gI μ_72 (t + 12) ((10 + p2).toNatClampNeg)) + 0)) (fun μ_73 => (if v_10 = 3 then lt (sI μ_73 (t + 12) 15 ((gI μ_73 (t + 12) 15) ||| (1 <<< (p3 &&& 31)))) (fun μ_75 => some (v_10, μ_75)) else lt (sI μ_73 (t + 12) 15 ((gI μ_73 (t + 12) 15) ||| 0)) (fun μ_74 => some (v_10, μ_74)))) else none) else none) else none) else none) else none else (if v_10 = 2 then if ix (0 + p2) 531 = true then lt (sI μ_70 (t + 12) ((0 + p2).toNatClampNeg) x5_13) (fun μ_101 => if ix (10 + p1) 531 = true then (if v_10 = 2 then if ix (10 + p1) 531 = true then lt (sI μ_101 (t + 12) ((10 + p1).toNatClampNeg) ((gI μ_101 (t + 12) ((10 + p1).toNatClampNeg)) + 1)) (fun μ_109 => if ix (10 + p2) 531 = true then (if v_10 = 1 then if ix (10 + p2) 531 = true then lt (sI μ_109 (t + 12) ((10 + p2).toNatClampNeg) ((gI μ_109 (t + 12) ((10 + p2).toNatClampNeg)) + 1)) (fun μ_113 => (if v_10 = 3 then lt (sI μ_113 (t + 12) 15 ((gI μ_113 (t + 12) 15) ||| (1 <<< (p3 &&& 31)))) (fun μ_115 => some (v_10, μ_115)) else lt (sI μ_113 (t + 12) 15 ((gI μ_113 (t + 12) 15) ||| 0)) (fun μ_114 => some (v_10, μ_114)))) else none else if ix (10 + p2) 531 = true then lt (sI μ_109 (t + 12) ((10 + p2).toNatClampNeg) ((gI μ_109 (t + 12) ((10 + p2).toNatClampNeg)) + 0)) (fun μ_110 => (if v_10 = 3 then lt (sI μ_110 (t + 12) 15 ((gI μ_110 (t + 12) 15) ||| (1 <<< (p3 &&& 31)))) (fun μ_112 => some (v_10, μ_112)) else lt (sI μ_110 (t + 12) 15 ((gI μ_110 (t + 12) 15) ||| 0)) (fun μ_111 => some (v_10, μ_111)))) else none) else none) else none else if ix (10 + p1) 531 = true then lt (sI μ_101 (t + 12) ((10 + p1).toNatClampNeg) ((gI μ_101 (t + 12) ((10 + p1).toNatClampNeg)) + 0)) (fun μ_102 => if ix (10 + p2) 531 = true then (if v_10 = 1 then if ix (10 + p2) 531 = true then lt (sI μ_102 (t + 12) ((10 + p2).toNatClampNeg) ((gI μ_102 (t + 12) ((10 + p2).toNatClampNeg)) + 1)) (fun μ_106 => (if v_10 = 3 then lt (sI μ_106 (t + 12) 15 ((gI μ_106 (t + 12) 15) ||| (1 <<< (p3 &&& 31)))) (fun μ_108 => some (v_10, μ_108)) else lt (sI μ_106 (t + 12) 15 ((gI μ_106 (t + 12) 15) ||| 0)) (fun μ_107 => some (v_10, μ_107)))) else none else if ix (10 + p2) 531 = true then lt (sI μ_102 (t + 12) ((10 + p2).toNatClampNeg) ((gI μ_102 (t + 12) ((10 + p2).toNatClampNeg)) + 0)) (fun μ_103 => (if v_10 = 3 then lt (sI μ_103 (t + 12) 15 ((gI μ_103 (t + 12) 15) ||| (1 <<< (p3 &&& 31)))) (fun μ_105 => some (v_10, μ_105)) else lt (sI μ_103 (t + 12) 15 ((gI μ_103 (t + 12) 15) ||| 0)) (fun μ_104 => some (v_10, μ_104)))) else none) else none) else none) else none) else none else if ix (0 + p2) 531 = true then lt (sI μ_70 (t + 12) ((0 + p2).toNatClampNeg) x6_14) (fun μ_86 => if ix (10 + p1) 531 = true then (if v_10 = 2 then if ix (10 + p1) 531 = true then lt (sI μ_86 (t + 12) ((10 + p1).toNatClampNeg) ((gI μ_86 (t + 12) ((10 + p1).toNatClampNeg)) + 1)) (fun μ_94 => if ix (10 + p2) 531 = true then (if v_10 = 1 then if ix (10 + p2) 531 = true then lt (sI μ_94 (t + 12) ((10 + p2).toNatClampNeg) ((gI μ_94 (t + 12) ((10 + p2).toNatClampNeg)) + 1)) (fun μ_98 => (if v_10 = 3 then lt (sI μ_98 (t + 12) 15 ((gI μ_98 (t + 12) 15) ||| (1 <<< (p3 &&& 31)))) (fun μ_100 => some (v_10, μ_100)) else lt (sI μ_98 (t + 12) 15 ((gI μ_98 (t + 12) 15) ||| 0)) (fun μ_99 => some (v_10, μ_99)))) else none else if ix (10 + p2) 531 = true then lt (sI μ_94 (t + 12) ((10 + p2).toNatClampNeg) ((gI μ_94 (t + 12) ((10 + p2).toNatClampNeg)) + 0)) (fun μ_95 => (if v_10 = 3 then lt (sI μ_95 (t + 12) 15 ((gI μ_95 (t + 12) 15) ||| (1 <<< (p3 &&& 31)))) (fun μ_97 => some (v_10, μ_97)) else lt (sI μ_95 (t + 12) 15 ((gI μ_95 (t + 12) 15) ||| 0)) (fun μ_96 => some (v_10, μ_96)))) else none) else none) else none else if ix (10 + p1) 531 = true then lt (sI μ_86 (t + 12) ((10 + p1).toNatClampNeg) ((gI μ_86 (t + 12) ((10 + p1).toNatClampNeg)) + 0)) (fun μ_87 => if ix (10 + p2) 531 = true then (if v_10 = 1 then if ix (10 + p2) 531 = true then lt (sI μ_87 (t + 12) ((10 + p2).toNatClampNeg) ((gI μ_87 (t + 12) ((10 + p2).toNatClampNeg)) + 1)) (fun μ_91 => (if v_10 = 3 then lt (sI μ_91 (t + 12) 15 ((gI μ_91 (t + 12) 15) ||| (1 <<< (p3 &&& 31)))) (fun μ_93 => some (v_10, μ_93)) else lt (sI μ_91 (t + 12) 15 ((gI μ_91 (t + 12) 15) ||| 0)) (fun μ_92 => some (v_10, μ_92)))) else none else if ix (10 + p2) 531 = true then lt (sI μ_87 (t + 12) ((10 + p2).toNatClampNeg) ((gI μ_87 (t + 12) ((10 + p2).toNatClampNeg)) + 0)) (fun μ_88 => (if v_10 = 3 then lt (sI μ_88 (t + 12) 15 ((gI μ_88 (t + 12) 15) ||| (1 <<< (p3 &&& 31)))) (fun μ_90 => some (v_10, μ_90)) else lt (sI μ_88 (t + 12) 15 ((gI μ_88 (t + 12) 15) ||| 0)) (fun μ_89 => some (v_10, μ_89)))) else none) else none) else none) else none) else none))) else none else if ix (0 + p1) 531 = true then lt (sI μ_22 (t + 12) ((0 + p1).toNatClampNeg) x5_13) (fun μ_24 => (if v_10 = 0 then if ix (0 + p2) 531 = true then lt (sI μ_24 (t + 12) ((0 + p2).toNatClampNeg) x5_13) (fun μ_25 => if ix (10 + p1) 531 = true then (if v_10 = 2 then if ix (10 + p1) 531 = true then lt (sI μ_25 (t + 12) ((10 + p1).toNatClampNeg) ((gI μ_25 (t + 12) ((10 + p1).toNatClampNeg)) + 1)) (fun μ_33 => if ix (10 + p2) 531 = true then (if v_10 = 1 then if ix (10 + p2) 531 = true then lt (sI μ_33 (t + 12) ((10 + p2).toNatClampNeg) ((gI μ_33 (t + 12) ((10 + p2).toNatClampNeg)) + 1)) (fun μ_37 => (if v_10 = 3 then lt (sI μ_37 (t + 12) 15 ((gI μ_37 (t + 12) 15) ||| (1 <<< (p3 &&& 31)))) (fun μ_39 => some (v_10, μ_39)) else lt (sI μ_37 (t + 12) 15 ((gI μ_37 (t + 12) 15) ||| 0)) (fun μ_38 => some (v_10, μ_38)))) else none else if ix (10 + p2) 531 = true then lt (sI μ_33 (t + 12) ((10 + p2).toNatClampNeg) ((gI μ_33 (t + 12) ((10 + p2).toNatClampNeg)) + 0)) (fun μ_34 => (if v_10 = 3 then lt (sI μ_34 (t + 12) 15 ((gI μ_34 (t + 12) 15) ||| (1 <<< (p3 &&& 31)))) (fun μ_36 => some (v_10, μ_36)) else lt (sI μ_34 (t + 12) 15 ((gI μ_34 (t + 12) 15) ||| 0)) (fun μ_35 => some (v_10, μ_35)))) else none) else none) else none else if ix (10 + p1) 531 = true then lt (sI μ_25 (t + 12) ((10 + p1).toNatClampNeg) ((gI μ_25 (t + 12) ((10 + p1).toNatClampNeg)) + 0)) (fun μ_26 => if ix (10 + p2) 531 = true then (if v_10 = 1 then if ix (10 + p2) 531 = true then lt (sI μ_26 (t + 12) ((10 + p2).toNatClampNeg) ((gI μ_26 (t + 12) ((10 + p2).toNatClampNeg)) + 1)) (fun μ_30 => (if v_10 = 3 then lt (sI μ_30 (t + 12) 15 ((gI μ_30 (t + 12) 15) ||| (1 <<< (p3 &&& 31)))) (fun μ_32 => some (v_10, μ_32)) else lt (sI μ_30 (t + 12) 15 ((gI μ_30 (t + 12) 15) ||| 0)) (fun μ_31 => some (v_10, μ_31)))) else none else if ix (10 + p2) 531 = true then lt (sI μ_26 (t + 12) ((10 + p2).toNatClampNeg) ((gI μ_26 (t + 12) ((10 + p2).toNatClampNeg)) + 0)) (fun μ_27 => (if v_10 = 3 then lt (sI μ_27 (t + 12) 15 ((gI μ_27 (t + 12) 15) ||| (1 <<< (p3 &&& 31)))) (fun μ_29 => some (v_10, μ_29)) else lt (sI μ_27 (t + 12) 15 ((gI μ_27 (t + 12) 15) ||| 0)) (fun μ_28 => some (v_10, μ_28)))) else none) else none) else none) else none) else none else (if v_10 = 2 then if ix (0 + p2) 531 = true then lt (sI μ_24 (t + 12) ((0 + p2).toNatClampNeg) x5_13) (fun μ_55 => if ix (10 + p1) 531 = true then (if v_10 = 2 then if ix (10 + p1) 531 = true then lt (sI μ_55 (t + 12) ((10 + p1).toNatClampNeg) ((gI μ_55 (t + 12) ((10 + p1).toNatClampNeg)) + 1)) (fun μ_63 => if ix (10 + p2) 531 = true then (if v_10 = 1 then if ix (10 + p2) 531 = true then lt (sI μ_63 (t + 12) ((10 + p2).toNatClampNeg) ((gI μ_63 (t + 12) ((10 + p2).toNatClampNeg)) + 1)) (fun μ_67 => (if v_10 = 3 then lt (sI μ_67 (t + 12) 15 ((gI μ_67 (t + 12) 15) ||| (1 <<< (p3 &&& 31)))) (fun μ_69 => some (v_10, μ_69)) else lt (sI μ_67 (t + 12) 15 ((gI μ_67 (t + 12) 15) ||| 0)) (fun μ_68 => some (v_10, μ_68)))) else none else if ix (10 + p2) 531 = true then lt (sI μ_63 (t + 12) ((10 + p2).toNatClampNeg) ((gI μ_63 (t + 12) ((10 + p2).toNatClampNeg)) + 0)) (fun μ_64 => (if v_10 = 3 then lt (sI μ_64 (t + 12) 15 ((gI μ_64 (t + 12) 15) ||| (1 <<< (p3 &&& 31)))) (fun μ_66 => some (v_10, μ_66)) else lt (sI μ_64 (t + 12) 15 ((gI μ_64 (t + 12) 15) ||| 0)) (fun μ_65 => some (v_10, μ_65)))) else none) else none) else none else if ix (10 + p1) 531 = true then lt (sI μ_55 (t + 12) ((10 + p1).toNatClampNeg) ((gI μ_55 (t + 12) ((10 + p1).toNatClampNeg)) + 0)) (fun μ_56 => if ix (10 + p2) 531 = true then (if v_10 = 1 then if ix (10 + p2) 531 = true then lt (sI μ_56 (t + 12) ((10 + p2).toNatClampNeg) ((gI μ_56 (t + 12) ((10 + p2).toNatClampNeg)) + 1)) (fun μ_60 => (if v_10 = 3 then lt (sI μ_60 (t + 12) 15 ((gI μ_60 (t + 12) 15) ||| (1 <<< (p3 &&& 31)))) (fun μ_62 => some (v_10, μ_62)) else lt (sI μ_60 (t + 12) 15 ((gI μ_60 (t + 12) 15) ||| 0)) (fun μ_61 => some (v_10, μ_61)))) else none else if ix (10 + p2) 531 = true then lt (sI μ_56 (t + 12) ((10 + p2).toNatClampNeg) ((gI μ_56 (t + 12) ((10 + p2).toNatClampNeg)) + 0)) (fun μ_57 => (if v_10 = 3 then lt (sI μ_57 (t + 12) 15 ((gI μ_57 (t + 12) 15) ||| (1 <<< (p3 &&& 31)))) (fun μ_59 => some (v_10, μ_59)) else lt (sI μ_57 (t + 12) 15 ((gI μ_57 (t + 12) 15) ||| 0)) (fun μ_58 => some (v_10, μ_58)))) else none) else none) else none) else none) else none else if ix (0 + p2) 531 = true then lt (sI μ_24 (t + 12) ((0 + p2).toNatClampNeg) x6_14) (fun μ_40 => if ix (10 + p1) 531 = true then (if v_10 = 2 then if ix (10 + p1) 531 = true then lt (sI μ_40 (t + 12) ((10 + p1).toNatClampNeg) ((gI μ_40 (t + 12) ((10 + p1).toNatClampNeg)) + 1)) (fun μ_48 => if ix (10 + p2) 531 = true then (if v_10 = 1 then if ix (10 + p2) 531 = true then lt (sI μ_48 (t + 12) ((10 + p2).toNatClampNeg) ((gI μ_48 (t + 12) ((10 + p2).toNatClampNeg)) + 1)) (fun μ_52 => (if v_10 = 3 then lt (sI μ_52 (t + 12) 15 ((gI μ_52 (t + 12) 15) ||| (1 <<< (p3 &&& 31)))) (fun μ_54 => some (v_10, μ_54)) else lt (sI μ_52 (t + 12) 15 ((gI μ_52 (t + 12) 15) ||| 0)) (fun μ_53 => some (v_10, μ_53)))) else none else if ix (10 + p2) 531 = true then lt (sI μ_48 (t + 12) ((10 + p2).toNatClampNeg) ((gI μ_48 (t + 12) ((10 + p2).toNatClampNeg)) + 0)) (fun μ_49 => (if v_10 = 3 then lt (sI μ_49 (t + 12) 15 ((gI μ_49 (t + 12) 15) ||| (1 <<< (p3 &&& 31)))) (fun μ_51 => some (v_10, μ_51)) else lt (sI μ_49 (t + 12) 15 ((gI μ_49 (t + 12) 15) ||| 0)) (fun μ_50 => some (v_10, μ_50)))) else none) else none) else none else if ix (10 + p1) 531 = true then lt (sI μ_40 (t + 12) ((10 + p1).toNatClampNeg) ((gI μ_40 (t + 12) ((10 + p1).toNatClampNeg)) + 0)) (fun μ_41 => if ix (10 + p2) 531 = true then (if v_10 = 1 then if ix (10 + p2) 531 = true then lt (sI μ_41 (t + 12) ((10 + p2).toNatClampNeg) ((gI μ_41 (t + 12) ((10 + p2).toNatClampNeg)) + 1)) (fun μ_45 => (if v_10 = 3 then lt (sI μ_45 (t + 12) 15 ((gI μ_45 (t + 12) 15) ||| (1 <<< (p3 &&& 31)))) (fun μ_47 => some (v_10, μ_47)) else lt (sI μ_45 (t + 12) 15 ((gI μ_45 (t + 12) 15) ||| 0)) (fun μ_46 => some (v_10, μ_46)))) else none else if ix (10 + p2) 531 = true then lt (sI μ_41 (t + 12) ((10 + p2).toNatClampNeg) ((gI μ_41 (t + 12) ((10 + p2).toNatClampNeg)) + 0)) (fun μ_42 => (if v_10 = 3 then lt (sI μ_42 (t + 12) 15 ((gI μ_42 (t + 12) 15) ||| (1 <<< (p3 &&& 31)))) (fun μ_44 => some (v_10, μ_44)) else lt (sI μ_42 (t + 12) 15 ((gI μ_42 (t + 12) 15) ||| 0)) (fun μ_43 => some (v_10, μ_43)))) else none) else none) else none) else none) else none))) else none)) else some ((-2), μ))))))) else none) else none))))))))
set_option maxRecDepth 100000 in
set_option maxHeartbeats 4000000 in
theorem c_X9_meets (a0 F : Nat) (μ : Mem) (t : Nat) (p1 : Int32) (p2 : Int32) (p3 : Int32) (hk0 : kd t = 9) {v : Int32} {μ2 : Mem} (hr : f_X9_meets F μ t p1 p2 p3 = some (v, μ2)) : Ct a0 yX9_meets cX9_meets 7 (some .int) 2 [.ref (a0 + t), .int p1, .int p2, .int p3] μ (some (.int v)) μ2 := by
  refine Ct_of (own := RX9) (ι := (fun x => (some (.int x.1), x.2))) (o := f_X9_meets F μ t p1 p2 p3) (by decide +kernel) rfl (Nat.le_of_ble_eq_true rfl) ?_ hr rfl ⟨_, rfl⟩
  show Ex a0 RX9 cX9_meets 7 (some .int) 2 none (fun x => (some (.int x.1), x.2)) 0 [(0, .ref (a0 + t)), (1, .int p1), (2, .int p2), (3, .int p3)] [] μ (f_X9_meets F μ t p1 p2 p3)
  unfold f_X9_meets
  refine Ex_aload_n dX9_meets_0 rfl 0 rfl ?_
  refine Ex_iload_n dX9_meets_1 rfl 1 rfl ?_
  refine Ex_callVR (n := 1) (dp2 := 1) [.int p1] cvX9_141 hk0 rfl rfl (by decide) (by decide) (Nat.le_of_ble_eq_true rfl) rfl (fun v hv => c_X9_isPerson a0 F μ t p1 hk0 hv) dX9_meets_2 (fun v_1 hv_3 => ?_)
  refine Ex_if_eq (tgt := 29) dX9_meets_5 (by decide) ?_ ?_
  · refine Ex_iconst (v := (-1)) dX9_meets_29 (by decide) ?_
    exact Ex_iret dX9_meets_30 rfl (fun ty h => by cases h; rfl)
  · refine Ex_aload_n dX9_meets_8 rfl 0 rfl ?_
    refine Ex_iload_n dX9_meets_9 rfl 2 rfl ?_
    refine Ex_callVR (n := 1) (dp2 := 1) [.int p2] cvX9_141 hk0 rfl rfl (by decide) (by decide) (Nat.le_of_ble_eq_true rfl) rfl (fun v hv => c_X9_isPerson a0 F μ t p2 hk0 hv) dX9_meets_10 (fun v_4 hv_6 => ?_)
    refine Ex_if_eq (tgt := 29) dX9_meets_13 (by decide) ?_ ?_
    · refine Ex_iconst (v := (-1)) dX9_meets_29 (by decide) ?_
      exact Ex_iret dX9_meets_30 rfl (fun ty h => by cases h; rfl)
    · refine Ex_iload_n dX9_meets_16 rfl 1 rfl ?_
      refine Ex_iload_n dX9_meets_17 rfl 2 rfl ?_
      refine Ex_icmp_eq (tgt := 29) dX9_meets_18 (by decide) ?_ ?_
      · refine Ex_iconst (v := (-1)) dX9_meets_29 (by decide) ?_
        exact Ex_iret dX9_meets_30 rfl (fun ty h => by cases h; rfl)
      · refine Ex_aload_n dX9_meets_21 rfl 0 rfl ?_
        refine Ex_iload_n dX9_meets_22 rfl 3 rfl ?_
        refine Ex_callVR (n := 1) (dp2 := 1) [.int p3] cvX9_134 hk0 rfl rfl (by decide) (by decide) (Nat.le_of_ble_eq_true rfl) rfl (fun v hv => c_X9_isLane a0 F μ t p3 hk0 hv) dX9_meets_23 (fun v_7 hv_9 => ?_)
        refine Ex_if_ne (tgt := 31) dX9_meets_26 (by decide) ?_ ?_
        · refine Ex_aload_n dX9_meets_31 rfl 0 rfl ?_
          refine Ex_iload_n dX9_meets_32 rfl 1 rfl ?_
          refine Ex_iload_n dX9_meets_33 rfl 2 rfl ?_
          refine Ex_iload_n dX9_meets_34 rfl 3 rfl ?_
          refine Ex_callVR (n := 3) (dp2 := 1) [.int p1, .int p2, .int p3] cvX9_153 hk0 rfl rfl (by decide) (by decide) (Nat.le_of_ble_eq_true rfl) rfl (fun v hv => c_X9_outcome a0 F μ t p1 p2 p3 hk0 hv) dX9_meets_35 (fun v_10 hv_12 => ?_)
          refine Ex_istore (L2 := [(4, .int v_10), (0, .ref (a0 + t)), (1, .int p1), (2, .int p2), (3, .int p3)]) dX9_meets_38 (by decide) rfl ?_
          refine Ex_aload_n dX9_meets_40 rfl 1 rfl ?_
          refine Ex_get (v := .ref (a0 + (t + 12))) fgX9_44 hk0 (by decide) rfl dX9_meets_41 ?_
          refine Ex_iconst (v := 0) dX9_meets_44 (by decide) ?_
          refine Ex_iload_n dX9_meets_45 rfl 2 rfl ?_
          refine Ex_iadd dX9_meets_46 ?_
          refine Ex_iald 531 (kn_9_12 hk0) (by decide) dX9_meets_47 ?_
          refine Ex_top (fun x5_13 => ?_)
          refine Ex_istore (L2 := [(5, .int x5_13), (4, .int v_10), (0, .ref (a0 + t)), (1, .int p1), (2, .int p2), (3, .int p3)]) dX9_meets_48 (by decide) rfl ?_
          refine Ex_aload_n dX9_meets_50 rfl 2 rfl ?_
          refine Ex_get (v := .ref (a0 + (t + 12))) fgX9_44 hk0 (by decide) rfl dX9_meets_51 ?_
          refine Ex_iconst (v := 0) dX9_meets_54 (by decide) ?_
          refine Ex_iload_n dX9_meets_55 rfl 4 rfl ?_
          refine Ex_iadd dX9_meets_56 ?_
          refine Ex_iald 531 (kn_9_12 hk0) (by decide) dX9_meets_57 ?_
          refine Ex_top (fun x6_14 => ?_)
          refine Ex_istore (L2 := [(6, .int x6_14), (5, .int x5_13), (4, .int v_10), (0, .ref (a0 + t)), (1, .int p1), (2, .int p2), (3, .int p3)]) dX9_meets_58 (by decide) rfl ?_
          refine Ex_iload dX9_meets_60 2 rfl ?_
          refine Ex_iconst (v := 3) dX9_meets_62 (by decide) ?_
          refine Ex_icmp_gt (tgt := 88) dX9_meets_63 (by decide) ?_ ?_
          · refine Ex_bipush (v := (-2)) dX9_meets_88 (by decide) ?_
            exact Ex_iret dX9_meets_90 rfl (fun ty h => by cases h; rfl)
          · refine Ex_aload_n dX9_meets_66 rfl 3 rfl ?_
            refine Ex_iload_n dX9_meets_67 rfl 6 rfl ?_
            refine Ex_iload dX9_meets_68 1 rfl ?_
            refine Ex_callVR (n := 2) (dp2 := 0) [.int p3, .int x5_13] cvX9_144 hk0 rfl rfl (by decide) (by decide) (Nat.le_of_ble_eq_true rfl) rfl (fun v hv => c_X9_ends a0 F μ t p3 x5_13 hk0 hv) dX9_meets_70 (fun v_15 hv_17 => ?_)
            refine Ex_if_eq (tgt := 88) dX9_meets_73 (by decide) ?_ ?_
            · refine Ex_bipush (v := (-2)) dX9_meets_88 (by decide) ?_
              exact Ex_iret dX9_meets_90 rfl (fun ty h => by cases h; rfl)
            · refine Ex_aload_n dX9_meets_76 rfl 3 rfl ?_
              refine Ex_iload_n dX9_meets_77 rfl 6 rfl ?_
              refine Ex_iload dX9_meets_78 1 rfl ?_
              refine Ex_callVR (n := 2) (dp2 := 0) [.int p3, .int x5_13] cvX9_150 hk0 rfl rfl (by decide) (by decide) (Nat.le_of_ble_eq_true rfl) rfl (fun v hv => c_X9_other a0 F μ t p3 x5_13 hk0 hv) dX9_meets_80 (fun v_18 hv_20 => ?_)
              refine Ex_iload dX9_meets_83 0 rfl ?_
              refine Ex_icmp_eq (tgt := 91) dX9_meets_85 (by decide) ?_ ?_
              · refine Ex_aload_n dX9_meets_91 rfl 3 rfl ?_
                refine Ex_callVV (n := 0) (dp2 := 0) [] cvX9_147 hk0 rfl rfl (by decide) (by decide) (Nat.le_of_ble_eq_true rfl) rfl (fun μ2 hv => c_X9_know a0 F μ t hk0 hv) dX9_meets_92 (fun μ_22 hv_23 => ?_)
                refine Ex_aload_n dX9_meets_95 rfl 3 rfl ?_
                refine Ex_get (v := .ref (a0 + (t + 12))) fgX9_44 hk0 (by decide) rfl dX9_meets_96 ?_
                refine Ex_iconst (v := 0) dX9_meets_99 (by decide) ?_
                refine Ex_iload_n dX9_meets_100 rfl 4 rfl ?_
                refine Ex_iadd dX9_meets_101 ?_
                refine Ex_iload dX9_meets_102 2 rfl ?_
                refine Ex_iconst (v := 2) dX9_meets_104 (by decide) ?_
                refine Ex_icmp_ge (tgt := 113) dX9_meets_105 (by decide) ?_ ?_
                · refine Ex_iload dX9_meets_113 1 rfl ?_
                  refine Ex_iast 531 (kn_9_12 hk0) (by decide) dX9_meets_115 (fun μ_24 => ?_)
                  refine Ex_aload_n dX9_meets_116 rfl 3 rfl ?_
                  refine Ex_get (v := .ref (a0 + (t + 12))) fgX9_44 hk0 (by decide) rfl dX9_meets_117 ?_
                  refine Ex_iconst (v := 0) dX9_meets_120 (by decide) ?_
                  refine Ex_iload_n dX9_meets_121 rfl 5 rfl ?_
                  refine Ex_iadd dX9_meets_122 ?_
                  refine Ex_iload dX9_meets_123 2 rfl ?_
                  refine Ex_if_eq (tgt := 134) dX9_meets_125 (by decide) ?_ ?_
                  · refine Ex_iload dX9_meets_134 1 rfl ?_
                    refine Ex_goto (tgt := 141) dX9_meets_136 (by decide) ?_
                    refine Ex_iast 531 (kn_9_12 hk0) (by decide) dX9_meets_141 (fun μ_25 => ?_)
                    refine Ex_aload_n dX9_meets_142 rfl 3 rfl ?_
                    refine Ex_get (v := .ref (a0 + (t + 12))) fgX9_44 hk0 (by decide) rfl dX9_meets_143 ?_
                    refine Ex_bipush (v := 10) dX9_meets_146 (by decide) ?_
                    refine Ex_iload_n dX9_meets_148 rfl 4 rfl ?_
                    refine Ex_iadd dX9_meets_149 ?_
                    refine Ex_dup2 dX9_meets_150 rfl rfl ?_
                    refine Ex_iald 531 (kn_9_12 hk0) (by decide) dX9_meets_151 ?_
                    refine Ex_iload dX9_meets_152 2 rfl ?_
                    refine Ex_iconst (v := 2) dX9_meets_154 (by decide) ?_
                    refine Ex_icmp_ne (tgt := 162) dX9_meets_155 (by decide) ?_ ?_
                    · refine Ex_iconst (v := 0) dX9_meets_162 (by decide) ?_
                      refine Ex_iadd dX9_meets_163 ?_
                      refine Ex_iast 531 (kn_9_12 hk0) (by decide) dX9_meets_164 (fun μ_26 => ?_)
                      refine Ex_aload_n dX9_meets_165 rfl 3 rfl ?_
                      refine Ex_get (v := .ref (a0 + (t + 12))) fgX9_44 hk0 (by decide) rfl dX9_meets_166 ?_
                      refine Ex_bipush (v := 10) dX9_meets_169 (by decide) ?_
                      refine Ex_iload_n dX9_meets_171 rfl 5 rfl ?_
                      refine Ex_iadd dX9_meets_172 ?_
                      refine Ex_dup2 dX9_meets_173 rfl rfl ?_
                      refine Ex_iald 531 (kn_9_12 hk0) (by decide) dX9_meets_174 ?_
                      refine Ex_iload dX9_meets_175 2 rfl ?_
                      refine Ex_iconst (v := 1) dX9_meets_177 (by decide) ?_
                      refine Ex_icmp_ne (tgt := 185) dX9_meets_178 (by decide) ?_ ?_
                      · refine Ex_iconst (v := 0) dX9_meets_185 (by decide) ?_
                        refine Ex_iadd dX9_meets_186 ?_
                        refine Ex_iast 531 (kn_9_12 hk0) (by decide) dX9_meets_187 (fun μ_27 => ?_)
                        refine Ex_aload_n dX9_meets_188 rfl 3 rfl ?_
                        refine Ex_get (v := .ref (a0 + (t + 12))) fgX9_44 hk0 (by decide) rfl dX9_meets_189 ?_
                        refine Ex_bipush (v := 15) dX9_meets_192 (by decide) ?_
                        refine Ex_dup2 dX9_meets_194 rfl rfl ?_
                        refine Ex_ialdC (j := 15) 531 (kn_9_12 hk0) (by decide) (by decide) (by decide) dX9_meets_195 ?_
                        refine Ex_iload dX9_meets_196 2 rfl ?_
                        refine Ex_iconst (v := 3) dX9_meets_198 (by decide) ?_
                        refine Ex_icmp_ne (tgt := 208) dX9_meets_199 (by decide) ?_ ?_
                        · refine Ex_iconst (v := 0) dX9_meets_208 (by decide) ?_
                          refine Ex_ior dX9_meets_209 ?_
                          refine Ex_iastC (j := 15) 531 (kn_9_12 hk0) (by decide) (by decide) (by decide) dX9_meets_210 (fun μ_28 => ?_)
                          refine Ex_iload dX9_meets_211 2 rfl ?_
                          exact Ex_iret dX9_meets_213 rfl (fun ty h => by cases h; rfl)
                        · refine Ex_iconst (v := 1) dX9_meets_202 (by decide) ?_
                          refine Ex_iload_n dX9_meets_203 rfl 6 rfl ?_
                          refine Ex_ishl dX9_meets_204 ?_
                          refine Ex_goto (tgt := 209) dX9_meets_205 (by decide) ?_
                          refine Ex_ior dX9_meets_209 ?_
                          refine Ex_iastC (j := 15) 531 (kn_9_12 hk0) (by decide) (by decide) (by decide) dX9_meets_210 (fun μ_29 => ?_)
                          refine Ex_iload dX9_meets_211 2 rfl ?_
                          exact Ex_iret dX9_meets_213 rfl (fun ty h => by cases h; rfl)
                      · refine Ex_iconst (v := 1) dX9_meets_181 (by decide) ?_
                        refine Ex_goto (tgt := 186) dX9_meets_182 (by decide) ?_
                        refine Ex_iadd dX9_meets_186 ?_
                        refine Ex_iast 531 (kn_9_12 hk0) (by decide) dX9_meets_187 (fun μ_30 => ?_)
                        refine Ex_aload_n dX9_meets_188 rfl 3 rfl ?_
                        refine Ex_get (v := .ref (a0 + (t + 12))) fgX9_44 hk0 (by decide) rfl dX9_meets_189 ?_
                        refine Ex_bipush (v := 15) dX9_meets_192 (by decide) ?_
                        refine Ex_dup2 dX9_meets_194 rfl rfl ?_
                        refine Ex_ialdC (j := 15) 531 (kn_9_12 hk0) (by decide) (by decide) (by decide) dX9_meets_195 ?_
                        refine Ex_iload dX9_meets_196 2 rfl ?_
                        refine Ex_iconst (v := 3) dX9_meets_198 (by decide) ?_
                        refine Ex_icmp_ne (tgt := 208) dX9_meets_199 (by decide) ?_ ?_
                        · refine Ex_iconst (v := 0) dX9_meets_208 (by decide) ?_
                          refine Ex_ior dX9_meets_209 ?_
                          refine Ex_iastC (j := 15) 531 (kn_9_12 hk0) (by decide) (by decide) (by decide) dX9_meets_210 (fun μ_31 => ?_)
                          refine Ex_iload dX9_meets_211 2 rfl ?_
                          exact Ex_iret dX9_meets_213 rfl (fun ty h => by cases h; rfl)
                        · refine Ex_iconst (v := 1) dX9_meets_202 (by decide) ?_
                          refine Ex_iload_n dX9_meets_203 rfl 6 rfl ?_
                          refine Ex_ishl dX9_meets_204 ?_
                          refine Ex_goto (tgt := 209) dX9_meets_205 (by decide) ?_
                          refine Ex_ior dX9_meets_209 ?_
                          refine Ex_iastC (j := 15) 531 (kn_9_12 hk0) (by decide) (by decide) (by decide) dX9_meets_210 (fun μ_32 => ?_)
                          refine Ex_iload dX9_meets_211 2 rfl ?_
                          exact Ex_iret dX9_meets_213 rfl (fun ty h => by cases h; rfl)
                    · refine Ex_iconst (v := 1) dX9_meets_158 (by decide) ?_
                      refine Ex_goto (tgt := 163) dX9_meets_159 (by decide) ?_
                      refine Ex_iadd dX9_meets_163 ?_
                      refine Ex_iast 531 (kn_9_12 hk0) (by decide) dX9_meets_164 (fun μ_33 => ?_)
                      refine Ex_aload_n dX9_meets_165 rfl 3 rfl ?_
                      refine Ex_get (v := .ref (a0 + (t + 12))) fgX9_44 hk0 (by decide) rfl dX9_meets_166 ?_
                      refine Ex_bipush (v := 10) dX9_meets_169 (by decide) ?_
                      refine Ex_iload_n dX9_meets_171 rfl 5 rfl ?_
                      refine Ex_iadd dX9_meets_172 ?_
                      refine Ex_dup2 dX9_meets_173 rfl rfl ?_
                      refine Ex_iald 531 (kn_9_12 hk0) (by decide) dX9_meets_174 ?_
                      refine Ex_iload dX9_meets_175 2 rfl ?_
                      refine Ex_iconst (v := 1) dX9_meets_177 (by decide) ?_
                      refine Ex_icmp_ne (tgt := 185) dX9_meets_178 (by decide) ?_ ?_
                      · refine Ex_iconst (v := 0) dX9_meets_185 (by decide) ?_
                        refine Ex_iadd dX9_meets_186 ?_
                        refine Ex_iast 531 (kn_9_12 hk0) (by decide) dX9_meets_187 (fun μ_34 => ?_)
                        refine Ex_aload_n dX9_meets_188 rfl 3 rfl ?_
                        refine Ex_get (v := .ref (a0 + (t + 12))) fgX9_44 hk0 (by decide) rfl dX9_meets_189 ?_
                        refine Ex_bipush (v := 15) dX9_meets_192 (by decide) ?_
                        refine Ex_dup2 dX9_meets_194 rfl rfl ?_
                        refine Ex_ialdC (j := 15) 531 (kn_9_12 hk0) (by decide) (by decide) (by decide) dX9_meets_195 ?_
                        refine Ex_iload dX9_meets_196 2 rfl ?_
                        refine Ex_iconst (v := 3) dX9_meets_198 (by decide) ?_
                        refine Ex_icmp_ne (tgt := 208) dX9_meets_199 (by decide) ?_ ?_
                        · refine Ex_iconst (v := 0) dX9_meets_208 (by decide) ?_
                          refine Ex_ior dX9_meets_209 ?_
                          refine Ex_iastC (j := 15) 531 (kn_9_12 hk0) (by decide) (by decide) (by decide) dX9_meets_210 (fun μ_35 => ?_)
                          refine Ex_iload dX9_meets_211 2 rfl ?_
                          exact Ex_iret dX9_meets_213 rfl (fun ty h => by cases h; rfl)
                        · refine Ex_iconst (v := 1) dX9_meets_202 (by decide) ?_
                          refine Ex_iload_n dX9_meets_203 rfl 6 rfl ?_
                          refine Ex_ishl dX9_meets_204 ?_
                          refine Ex_goto (tgt := 209) dX9_meets_205 (by decide) ?_
                          refine Ex_ior dX9_meets_209 ?_
                          refine Ex_iastC (j := 15) 531 (kn_9_12 hk0) (by decide) (by decide) (by decide) dX9_meets_210 (fun μ_36 => ?_)
                          refine Ex_iload dX9_meets_211 2 rfl ?_
                          exact Ex_iret dX9_meets_213 rfl (fun ty h => by cases h; rfl)
                      · refine Ex_iconst (v := 1) dX9_meets_181 (by decide) ?_
                        refine Ex_goto (tgt := 186) dX9_meets_182 (by decide) ?_
                        refine Ex_iadd dX9_meets_186 ?_
                        refine Ex_iast 531 (kn_9_12 hk0) (by decide) dX9_meets_187 (fun μ_37 => ?_)
                        refine Ex_aload_n dX9_meets_188 rfl 3 rfl ?_
                        refine Ex_get (v := .ref (a0 + (t + 12))) fgX9_44 hk0 (by decide) rfl dX9_meets_189 ?_
                        refine Ex_bipush (v := 15) dX9_meets_192 (by decide) ?_
                        refine Ex_dup2 dX9_meets_194 rfl rfl ?_
                        refine Ex_ialdC (j := 15) 531 (kn_9_12 hk0) (by decide) (by decide) (by decide) dX9_meets_195 ?_
                        refine Ex_iload dX9_meets_196 2 rfl ?_
                        refine Ex_iconst (v := 3) dX9_meets_198 (by decide) ?_
                        refine Ex_icmp_ne (tgt := 208) dX9_meets_199 (by decide) ?_ ?_
                        · refine Ex_iconst (v := 0) dX9_meets_208 (by decide) ?_
                          refine Ex_ior dX9_meets_209 ?_
                          refine Ex_iastC (j := 15) 531 (kn_9_12 hk0) (by decide) (by decide) (by decide) dX9_meets_210 (fun μ_38 => ?_)
                          refine Ex_iload dX9_meets_211 2 rfl ?_
                          exact Ex_iret dX9_meets_213 rfl (fun ty h => by cases h; rfl)
                        · refine Ex_iconst (v := 1) dX9_meets_202 (by decide) ?_
                          refine Ex_iload_n dX9_meets_203 rfl 6 rfl ?_
                          refine Ex_ishl dX9_meets_204 ?_
                          refine Ex_goto (tgt := 209) dX9_meets_205 (by decide) ?_
                          refine Ex_ior dX9_meets_209 ?_
                          refine Ex_iastC (j := 15) 531 (kn_9_12 hk0) (by decide) (by decide) (by decide) dX9_meets_210 (fun μ_39 => ?_)
                          refine Ex_iload dX9_meets_211 2 rfl ?_
                          exact Ex_iret dX9_meets_213 rfl (fun ty h => by cases h; rfl)
                  · refine Ex_iload dX9_meets_128 2 rfl ?_
                    refine Ex_iconst (v := 2) dX9_meets_130 (by decide) ?_
                    refine Ex_icmp_ne (tgt := 139) dX9_meets_131 (by decide) ?_ ?_
                    · refine Ex_iload dX9_meets_139 0 rfl ?_
                      refine Ex_iast 531 (kn_9_12 hk0) (by decide) dX9_meets_141 (fun μ_40 => ?_)
                      refine Ex_aload_n dX9_meets_142 rfl 3 rfl ?_
                      refine Ex_get (v := .ref (a0 + (t + 12))) fgX9_44 hk0 (by decide) rfl dX9_meets_143 ?_
                      refine Ex_bipush (v := 10) dX9_meets_146 (by decide) ?_
                      refine Ex_iload_n dX9_meets_148 rfl 4 rfl ?_
                      refine Ex_iadd dX9_meets_149 ?_
                      refine Ex_dup2 dX9_meets_150 rfl rfl ?_
                      refine Ex_iald 531 (kn_9_12 hk0) (by decide) dX9_meets_151 ?_
                      refine Ex_iload dX9_meets_152 2 rfl ?_
                      refine Ex_iconst (v := 2) dX9_meets_154 (by decide) ?_
                      refine Ex_icmp_ne (tgt := 162) dX9_meets_155 (by decide) ?_ ?_
                      · refine Ex_iconst (v := 0) dX9_meets_162 (by decide) ?_
                        refine Ex_iadd dX9_meets_163 ?_
                        refine Ex_iast 531 (kn_9_12 hk0) (by decide) dX9_meets_164 (fun μ_41 => ?_)
                        refine Ex_aload_n dX9_meets_165 rfl 3 rfl ?_
                        refine Ex_get (v := .ref (a0 + (t + 12))) fgX9_44 hk0 (by decide) rfl dX9_meets_166 ?_
                        refine Ex_bipush (v := 10) dX9_meets_169 (by decide) ?_
                        refine Ex_iload_n dX9_meets_171 rfl 5 rfl ?_
                        refine Ex_iadd dX9_meets_172 ?_
                        refine Ex_dup2 dX9_meets_173 rfl rfl ?_
                        refine Ex_iald 531 (kn_9_12 hk0) (by decide) dX9_meets_174 ?_
                        refine Ex_iload dX9_meets_175 2 rfl ?_
                        refine Ex_iconst (v := 1) dX9_meets_177 (by decide) ?_
                        refine Ex_icmp_ne (tgt := 185) dX9_meets_178 (by decide) ?_ ?_
                        · refine Ex_iconst (v := 0) dX9_meets_185 (by decide) ?_
                          refine Ex_iadd dX9_meets_186 ?_
                          refine Ex_iast 531 (kn_9_12 hk0) (by decide) dX9_meets_187 (fun μ_42 => ?_)
                          refine Ex_aload_n dX9_meets_188 rfl 3 rfl ?_
                          refine Ex_get (v := .ref (a0 + (t + 12))) fgX9_44 hk0 (by decide) rfl dX9_meets_189 ?_
                          refine Ex_bipush (v := 15) dX9_meets_192 (by decide) ?_
                          refine Ex_dup2 dX9_meets_194 rfl rfl ?_
                          refine Ex_ialdC (j := 15) 531 (kn_9_12 hk0) (by decide) (by decide) (by decide) dX9_meets_195 ?_
                          refine Ex_iload dX9_meets_196 2 rfl ?_
                          refine Ex_iconst (v := 3) dX9_meets_198 (by decide) ?_
                          refine Ex_icmp_ne (tgt := 208) dX9_meets_199 (by decide) ?_ ?_
                          · refine Ex_iconst (v := 0) dX9_meets_208 (by decide) ?_
                            refine Ex_ior dX9_meets_209 ?_
                            refine Ex_iastC (j := 15) 531 (kn_9_12 hk0) (by decide) (by decide) (by decide) dX9_meets_210 (fun μ_43 => ?_)
                            refine Ex_iload dX9_meets_211 2 rfl ?_
                            exact Ex_iret dX9_meets_213 rfl (fun ty h => by cases h; rfl)
                          · refine Ex_iconst (v := 1) dX9_meets_202 (by decide) ?_
                            refine Ex_iload_n dX9_meets_203 rfl 6 rfl ?_
                            refine Ex_ishl dX9_meets_204 ?_
                            refine Ex_goto (tgt := 209) dX9_meets_205 (by decide) ?_
                            refine Ex_ior dX9_meets_209 ?_
                            refine Ex_iastC (j := 15) 531 (kn_9_12 hk0) (by decide) (by decide) (by decide) dX9_meets_210 (fun μ_44 => ?_)
                            refine Ex_iload dX9_meets_211 2 rfl ?_
                            exact Ex_iret dX9_meets_213 rfl (fun ty h => by cases h; rfl)
                        · refine Ex_iconst (v := 1) dX9_meets_181 (by decide) ?_
                          refine Ex_goto (tgt := 186) dX9_meets_182 (by decide) ?_
                          refine Ex_iadd dX9_meets_186 ?_
                          refine Ex_iast 531 (kn_9_12 hk0) (by decide) dX9_meets_187 (fun μ_45 => ?_)
                          refine Ex_aload_n dX9_meets_188 rfl 3 rfl ?_
                          refine Ex_get (v := .ref (a0 + (t + 12))) fgX9_44 hk0 (by decide) rfl dX9_meets_189 ?_
                          refine Ex_bipush (v := 15) dX9_meets_192 (by decide) ?_
                          refine Ex_dup2 dX9_meets_194 rfl rfl ?_
                          refine Ex_ialdC (j := 15) 531 (kn_9_12 hk0) (by decide) (by decide) (by decide) dX9_meets_195 ?_
                          refine Ex_iload dX9_meets_196 2 rfl ?_
                          refine Ex_iconst (v := 3) dX9_meets_198 (by decide) ?_
                          refine Ex_icmp_ne (tgt := 208) dX9_meets_199 (by decide) ?_ ?_
                          · refine Ex_iconst (v := 0) dX9_meets_208 (by decide) ?_
                            refine Ex_ior dX9_meets_209 ?_
                            refine Ex_iastC (j := 15) 531 (kn_9_12 hk0) (by decide) (by decide) (by decide) dX9_meets_210 (fun μ_46 => ?_)
                            refine Ex_iload dX9_meets_211 2 rfl ?_
                            exact Ex_iret dX9_meets_213 rfl (fun ty h => by cases h; rfl)
                          · refine Ex_iconst (v := 1) dX9_meets_202 (by decide) ?_
                            refine Ex_iload_n dX9_meets_203 rfl 6 rfl ?_
                            refine Ex_ishl dX9_meets_204 ?_
                            refine Ex_goto (tgt := 209) dX9_meets_205 (by decide) ?_
                            refine Ex_ior dX9_meets_209 ?_
                            refine Ex_iastC (j := 15) 531 (kn_9_12 hk0) (by decide) (by decide) (by decide) dX9_meets_210 (fun μ_47 => ?_)
                            refine Ex_iload dX9_meets_211 2 rfl ?_
                            exact Ex_iret dX9_meets_213 rfl (fun ty h => by cases h; rfl)
                      · refine Ex_iconst (v := 1) dX9_meets_158 (by decide) ?_
                        refine Ex_goto (tgt := 163) dX9_meets_159 (by decide) ?_
                        refine Ex_iadd dX9_meets_163 ?_
                        refine Ex_iast 531 (kn_9_12 hk0) (by decide) dX9_meets_164 (fun μ_48 => ?_)
                        refine Ex_aload_n dX9_meets_165 rfl 3 rfl ?_
                        refine Ex_get (v := .ref (a0 + (t + 12))) fgX9_44 hk0 (by decide) rfl dX9_meets_166 ?_
                        refine Ex_bipush (v := 10) dX9_meets_169 (by decide) ?_
                        refine Ex_iload_n dX9_meets_171 rfl 5 rfl ?_
                        refine Ex_iadd dX9_meets_172 ?_
                        refine Ex_dup2 dX9_meets_173 rfl rfl ?_
                        refine Ex_iald 531 (kn_9_12 hk0) (by decide) dX9_meets_174 ?_
                        refine Ex_iload dX9_meets_175 2 rfl ?_
                        refine Ex_iconst (v := 1) dX9_meets_177 (by decide) ?_
                        refine Ex_icmp_ne (tgt := 185) dX9_meets_178 (by decide) ?_ ?_
                        · refine Ex_iconst (v := 0) dX9_meets_185 (by decide) ?_
                          refine Ex_iadd dX9_meets_186 ?_
                          refine Ex_iast 531 (kn_9_12 hk0) (by decide) dX9_meets_187 (fun μ_49 => ?_)
                          refine Ex_aload_n dX9_meets_188 rfl 3 rfl ?_
                          refine Ex_get (v := .ref (a0 + (t + 12))) fgX9_44 hk0 (by decide) rfl dX9_meets_189 ?_
                          refine Ex_bipush (v := 15) dX9_meets_192 (by decide) ?_
                          refine Ex_dup2 dX9_meets_194 rfl rfl ?_
                          refine Ex_ialdC (j := 15) 531 (kn_9_12 hk0) (by decide) (by decide) (by decide) dX9_meets_195 ?_
                          refine Ex_iload dX9_meets_196 2 rfl ?_
                          refine Ex_iconst (v := 3) dX9_meets_198 (by decide) ?_
                          refine Ex_icmp_ne (tgt := 208) dX9_meets_199 (by decide) ?_ ?_
                          · refine Ex_iconst (v := 0) dX9_meets_208 (by decide) ?_
                            refine Ex_ior dX9_meets_209 ?_
                            refine Ex_iastC (j := 15) 531 (kn_9_12 hk0) (by decide) (by decide) (by decide) dX9_meets_210 (fun μ_50 => ?_)
                            refine Ex_iload dX9_meets_211 2 rfl ?_
                            exact Ex_iret dX9_meets_213 rfl (fun ty h => by cases h; rfl)
                          · refine Ex_iconst (v := 1) dX9_meets_202 (by decide) ?_
                            refine Ex_iload_n dX9_meets_203 rfl 6 rfl ?_
                            refine Ex_ishl dX9_meets_204 ?_
                            refine Ex_goto (tgt := 209) dX9_meets_205 (by decide) ?_
                            refine Ex_ior dX9_meets_209 ?_
                            refine Ex_iastC (j := 15) 531 (kn_9_12 hk0) (by decide) (by decide) (by decide) dX9_meets_210 (fun μ_51 => ?_)
                            refine Ex_iload dX9_meets_211 2 rfl ?_
                            exact Ex_iret dX9_meets_213 rfl (fun ty h => by cases h; rfl)
                        · refine Ex_iconst (v := 1) dX9_meets_181 (by decide) ?_
                          refine Ex_goto (tgt := 186) dX9_meets_182 (by decide) ?_
                          refine Ex_iadd dX9_meets_186 ?_
                          refine Ex_iast 531 (kn_9_12 hk0) (by decide) dX9_meets_187 (fun μ_52 => ?_)
                          refine Ex_aload_n dX9_meets_188 rfl 3 rfl ?_
                          refine Ex_get (v := .ref (a0 + (t + 12))) fgX9_44 hk0 (by decide) rfl dX9_meets_189 ?_
                          refine Ex_bipush (v := 15) dX9_meets_192 (by decide) ?_
                          refine Ex_dup2 dX9_meets_194 rfl rfl ?_
                          refine Ex_ialdC (j := 15) 531 (kn_9_12 hk0) (by decide) (by decide) (by decide) dX9_meets_195 ?_
                          refine Ex_iload dX9_meets_196 2 rfl ?_
                          refine Ex_iconst (v := 3) dX9_meets_198 (by decide) ?_
                          refine Ex_icmp_ne (tgt := 208) dX9_meets_199 (by decide) ?_ ?_
                          · refine Ex_iconst (v := 0) dX9_meets_208 (by decide) ?_
                            refine Ex_ior dX9_meets_209 ?_
                            refine Ex_iastC (j := 15) 531 (kn_9_12 hk0) (by decide) (by decide) (by decide) dX9_meets_210 (fun μ_53 => ?_)
                            refine Ex_iload dX9_meets_211 2 rfl ?_
                            exact Ex_iret dX9_meets_213 rfl (fun ty h => by cases h; rfl)
                          · refine Ex_iconst (v := 1) dX9_meets_202 (by decide) ?_
                            refine Ex_iload_n dX9_meets_203 rfl 6 rfl ?_
                            refine Ex_ishl dX9_meets_204 ?_
                            refine Ex_goto (tgt := 209) dX9_meets_205 (by decide) ?_
                            refine Ex_ior dX9_meets_209 ?_
                            refine Ex_iastC (j := 15) 531 (kn_9_12 hk0) (by decide) (by decide) (by decide) dX9_meets_210 (fun μ_54 => ?_)
                            refine Ex_iload dX9_meets_211 2 rfl ?_
                            exact Ex_iret dX9_meets_213 rfl (fun ty h => by cases h; rfl)
                    · refine Ex_iload dX9_meets_134 1 rfl ?_
                      refine Ex_goto (tgt := 141) dX9_meets_136 (by decide) ?_
                      refine Ex_iast 531 (kn_9_12 hk0) (by decide) dX9_meets_141 (fun μ_55 => ?_)
                      refine Ex_aload_n dX9_meets_142 rfl 3 rfl ?_
                      refine Ex_get (v := .ref (a0 + (t + 12))) fgX9_44 hk0 (by decide) rfl dX9_meets_143 ?_
                      refine Ex_bipush (v := 10) dX9_meets_146 (by decide) ?_
                      refine Ex_iload_n dX9_meets_148 rfl 4 rfl ?_
                      refine Ex_iadd dX9_meets_149 ?_
                      refine Ex_dup2 dX9_meets_150 rfl rfl ?_
                      refine Ex_iald 531 (kn_9_12 hk0) (by decide) dX9_meets_151 ?_
                      refine Ex_iload dX9_meets_152 2 rfl ?_
                      refine Ex_iconst (v := 2) dX9_meets_154 (by decide) ?_
                      refine Ex_icmp_ne (tgt := 162) dX9_meets_155 (by decide) ?_ ?_
                      · refine Ex_iconst (v := 0) dX9_meets_162 (by decide) ?_
                        refine Ex_iadd dX9_meets_163 ?_
                        refine Ex_iast 531 (kn_9_12 hk0) (by decide) dX9_meets_164 (fun μ_56 => ?_)
                        refine Ex_aload_n dX9_meets_165 rfl 3 rfl ?_
                        refine Ex_get (v := .ref (a0 + (t + 12))) fgX9_44 hk0 (by decide) rfl dX9_meets_166 ?_
                        refine Ex_bipush (v := 10) dX9_meets_169 (by decide) ?_
                        refine Ex_iload_n dX9_meets_171 rfl 5 rfl ?_
                        refine Ex_iadd dX9_meets_172 ?_
                        refine Ex_dup2 dX9_meets_173 rfl rfl ?_
                        refine Ex_iald 531 (kn_9_12 hk0) (by decide) dX9_meets_174 ?_
                        refine Ex_iload dX9_meets_175 2 rfl ?_
                        refine Ex_iconst (v := 1) dX9_meets_177 (by decide) ?_
                        refine Ex_icmp_ne (tgt := 185) dX9_meets_178 (by decide) ?_ ?_
                        · refine Ex_iconst (v := 0) dX9_meets_185 (by decide) ?_
                          refine Ex_iadd dX9_meets_186 ?_
                          refine Ex_iast 531 (kn_9_12 hk0) (by decide) dX9_meets_187 (fun μ_57 => ?_)
                          refine Ex_aload_n dX9_meets_188 rfl 3 rfl ?_
                          refine Ex_get (v := .ref (a0 + (t + 12))) fgX9_44 hk0 (by decide) rfl dX9_meets_189 ?_
                          refine Ex_bipush (v := 15) dX9_meets_192 (by decide) ?_
                          refine Ex_dup2 dX9_meets_194 rfl rfl ?_
                          refine Ex_ialdC (j := 15) 531 (kn_9_12 hk0) (by decide) (by decide) (by decide) dX9_meets_195 ?_
                          refine Ex_iload dX9_meets_196 2 rfl ?_
                          refine Ex_iconst (v := 3) dX9_meets_198 (by decide) ?_
                          refine Ex_icmp_ne (tgt := 208) dX9_meets_199 (by decide) ?_ ?_
                          · refine Ex_iconst (v := 0) dX9_meets_208 (by decide) ?_
                            refine Ex_ior dX9_meets_209 ?_
                            refine Ex_iastC (j := 15) 531 (kn_9_12 hk0) (by decide) (by decide) (by decide) dX9_meets_210 (fun μ_58 => ?_)
                            refine Ex_iload dX9_meets_211 2 rfl ?_
                            exact Ex_iret dX9_meets_213 rfl (fun ty h => by cases h; rfl)
                          · refine Ex_iconst (v := 1) dX9_meets_202 (by decide) ?_
                            refine Ex_iload_n dX9_meets_203 rfl 6 rfl ?_
                            refine Ex_ishl dX9_meets_204 ?_
                            refine Ex_goto (tgt := 209) dX9_meets_205 (by decide) ?_
                            refine Ex_ior dX9_meets_209 ?_
                            refine Ex_iastC (j := 15) 531 (kn_9_12 hk0) (by decide) (by decide) (by decide) dX9_meets_210 (fun μ_59 => ?_)
                            refine Ex_iload dX9_meets_211 2 rfl ?_
                            exact Ex_iret dX9_meets_213 rfl (fun ty h => by cases h; rfl)
                        · refine Ex_iconst (v := 1) dX9_meets_181 (by decide) ?_
                          refine Ex_goto (tgt := 186) dX9_meets_182 (by decide) ?_
                          refine Ex_iadd dX9_meets_186 ?_
                          refine Ex_iast 531 (kn_9_12 hk0) (by decide) dX9_meets_187 (fun μ_60 => ?_)
                          refine Ex_aload_n dX9_meets_188 rfl 3 rfl ?_
                          refine Ex_get (v := .ref (a0 + (t + 12))) fgX9_44 hk0 (by decide) rfl dX9_meets_189 ?_
                          refine Ex_bipush (v := 15) dX9_meets_192 (by decide) ?_
                          refine Ex_dup2 dX9_meets_194 rfl rfl ?_
                          refine Ex_ialdC (j := 15) 531 (kn_9_12 hk0) (by decide) (by decide) (by decide) dX9_meets_195 ?_
                          refine Ex_iload dX9_meets_196 2 rfl ?_
                          refine Ex_iconst (v := 3) dX9_meets_198 (by decide) ?_
                          refine Ex_icmp_ne (tgt := 208) dX9_meets_199 (by decide) ?_ ?_
                          · refine Ex_iconst (v := 0) dX9_meets_208 (by decide) ?_
                            refine Ex_ior dX9_meets_209 ?_
                            refine Ex_iastC (j := 15) 531 (kn_9_12 hk0) (by decide) (by decide) (by decide) dX9_meets_210 (fun μ_61 => ?_)
                            refine Ex_iload dX9_meets_211 2 rfl ?_
                            exact Ex_iret dX9_meets_213 rfl (fun ty h => by cases h; rfl)
                          · refine Ex_iconst (v := 1) dX9_meets_202 (by decide) ?_
                            refine Ex_iload_n dX9_meets_203 rfl 6 rfl ?_
                            refine Ex_ishl dX9_meets_204 ?_
                            refine Ex_goto (tgt := 209) dX9_meets_205 (by decide) ?_
                            refine Ex_ior dX9_meets_209 ?_
                            refine Ex_iastC (j := 15) 531 (kn_9_12 hk0) (by decide) (by decide) (by decide) dX9_meets_210 (fun μ_62 => ?_)
                            refine Ex_iload dX9_meets_211 2 rfl ?_
                            exact Ex_iret dX9_meets_213 rfl (fun ty h => by cases h; rfl)
                      · refine Ex_iconst (v := 1) dX9_meets_158 (by decide) ?_
                        refine Ex_goto (tgt := 163) dX9_meets_159 (by decide) ?_
                        refine Ex_iadd dX9_meets_163 ?_
                        refine Ex_iast 531 (kn_9_12 hk0) (by decide) dX9_meets_164 (fun μ_63 => ?_)
                        refine Ex_aload_n dX9_meets_165 rfl 3 rfl ?_
                        refine Ex_get (v := .ref (a0 + (t + 12))) fgX9_44 hk0 (by decide) rfl dX9_meets_166 ?_
                        refine Ex_bipush (v := 10) dX9_meets_169 (by decide) ?_
                        refine Ex_iload_n dX9_meets_171 rfl 5 rfl ?_
                        refine Ex_iadd dX9_meets_172 ?_
                        refine Ex_dup2 dX9_meets_173 rfl rfl ?_
                        refine Ex_iald 531 (kn_9_12 hk0) (by decide) dX9_meets_174 ?_
                        refine Ex_iload dX9_meets_175 2 rfl ?_
                        refine Ex_iconst (v := 1) dX9_meets_177 (by decide) ?_
                        refine Ex_icmp_ne (tgt := 185) dX9_meets_178 (by decide) ?_ ?_
                        · refine Ex_iconst (v := 0) dX9_meets_185 (by decide) ?_
                          refine Ex_iadd dX9_meets_186 ?_
                          refine Ex_iast 531 (kn_9_12 hk0) (by decide) dX9_meets_187 (fun μ_64 => ?_)
                          refine Ex_aload_n dX9_meets_188 rfl 3 rfl ?_
                          refine Ex_get (v := .ref (a0 + (t + 12))) fgX9_44 hk0 (by decide) rfl dX9_meets_189 ?_
                          refine Ex_bipush (v := 15) dX9_meets_192 (by decide) ?_
                          refine Ex_dup2 dX9_meets_194 rfl rfl ?_
                          refine Ex_ialdC (j := 15) 531 (kn_9_12 hk0) (by decide) (by decide) (by decide) dX9_meets_195 ?_
                          refine Ex_iload dX9_meets_196 2 rfl ?_
                          refine Ex_iconst (v := 3) dX9_meets_198 (by decide) ?_
                          refine Ex_icmp_ne (tgt := 208) dX9_meets_199 (by decide) ?_ ?_
                          · refine Ex_iconst (v := 0) dX9_meets_208 (by decide) ?_
                            refine Ex_ior dX9_meets_209 ?_
                            refine Ex_iastC (j := 15) 531 (kn_9_12 hk0) (by decide) (by decide) (by decide) dX9_meets_210 (fun μ_65 => ?_)
                            refine Ex_iload dX9_meets_211 2 rfl ?_
                            exact Ex_iret dX9_meets_213 rfl (fun ty h => by cases h; rfl)
                          · refine Ex_iconst (v := 1) dX9_meets_202 (by decide) ?_
                            refine Ex_iload_n dX9_meets_203 rfl 6 rfl ?_
                            refine Ex_ishl dX9_meets_204 ?_
                            refine Ex_goto (tgt := 209) dX9_meets_205 (by decide) ?_
                            refine Ex_ior dX9_meets_209 ?_
                            refine Ex_iastC (j := 15) 531 (kn_9_12 hk0) (by decide) (by decide) (by decide) dX9_meets_210 (fun μ_66 => ?_)
                            refine Ex_iload dX9_meets_211 2 rfl ?_
                            exact Ex_iret dX9_meets_213 rfl (fun ty h => by cases h; rfl)
                        · refine Ex_iconst (v := 1) dX9_meets_181 (by decide) ?_
                          refine Ex_goto (tgt := 186) dX9_meets_182 (by decide) ?_
                          refine Ex_iadd dX9_meets_186 ?_
                          refine Ex_iast 531 (kn_9_12 hk0) (by decide) dX9_meets_187 (fun μ_67 => ?_)
                          refine Ex_aload_n dX9_meets_188 rfl 3 rfl ?_
                          refine Ex_get (v := .ref (a0 + (t + 12))) fgX9_44 hk0 (by decide) rfl dX9_meets_189 ?_
                          refine Ex_bipush (v := 15) dX9_meets_192 (by decide) ?_
                          refine Ex_dup2 dX9_meets_194 rfl rfl ?_
                          refine Ex_ialdC (j := 15) 531 (kn_9_12 hk0) (by decide) (by decide) (by decide) dX9_meets_195 ?_
                          refine Ex_iload dX9_meets_196 2 rfl ?_
                          refine Ex_iconst (v := 3) dX9_meets_198 (by decide) ?_
                          refine Ex_icmp_ne (tgt := 208) dX9_meets_199 (by decide) ?_ ?_
                          · refine Ex_iconst (v := 0) dX9_meets_208 (by decide) ?_
                            refine Ex_ior dX9_meets_209 ?_
                            refine Ex_iastC (j := 15) 531 (kn_9_12 hk0) (by decide) (by decide) (by decide) dX9_meets_210 (fun μ_68 => ?_)
                            refine Ex_iload dX9_meets_211 2 rfl ?_
                            exact Ex_iret dX9_meets_213 rfl (fun ty h => by cases h; rfl)
                          · refine Ex_iconst (v := 1) dX9_meets_202 (by decide) ?_
                            refine Ex_iload_n dX9_meets_203 rfl 6 rfl ?_
                            refine Ex_ishl dX9_meets_204 ?_
                            refine Ex_goto (tgt := 209) dX9_meets_205 (by decide) ?_
                            refine Ex_ior dX9_meets_209 ?_
                            refine Ex_iastC (j := 15) 531 (kn_9_12 hk0) (by decide) (by decide) (by decide) dX9_meets_210 (fun μ_69 => ?_)
                            refine Ex_iload dX9_meets_211 2 rfl ?_
                            exact Ex_iret dX9_meets_213 rfl (fun ty h => by cases h; rfl)
                · refine Ex_iload dX9_meets_108 0 rfl ?_
                  refine Ex_goto (tgt := 115) dX9_meets_110 (by decide) ?_
                  refine Ex_iast 531 (kn_9_12 hk0) (by decide) dX9_meets_115 (fun μ_70 => ?_)
                  refine Ex_aload_n dX9_meets_116 rfl 3 rfl ?_
                  refine Ex_get (v := .ref (a0 + (t + 12))) fgX9_44 hk0 (by decide) rfl dX9_meets_117 ?_
                  refine Ex_iconst (v := 0) dX9_meets_120 (by decide) ?_
                  refine Ex_iload_n dX9_meets_121 rfl 5 rfl ?_
                  refine Ex_iadd dX9_meets_122 ?_
                  refine Ex_iload dX9_meets_123 2 rfl ?_
                  refine Ex_if_eq (tgt := 134) dX9_meets_125 (by decide) ?_ ?_
                  · refine Ex_iload dX9_meets_134 1 rfl ?_
                    refine Ex_goto (tgt := 141) dX9_meets_136 (by decide) ?_
                    refine Ex_iast 531 (kn_9_12 hk0) (by decide) dX9_meets_141 (fun μ_71 => ?_)
                    refine Ex_aload_n dX9_meets_142 rfl 3 rfl ?_
                    refine Ex_get (v := .ref (a0 + (t + 12))) fgX9_44 hk0 (by decide) rfl dX9_meets_143 ?_
                    refine Ex_bipush (v := 10) dX9_meets_146 (by decide) ?_
                    refine Ex_iload_n dX9_meets_148 rfl 4 rfl ?_
                    refine Ex_iadd dX9_meets_149 ?_
                    refine Ex_dup2 dX9_meets_150 rfl rfl ?_
                    refine Ex_iald 531 (kn_9_12 hk0) (by decide) dX9_meets_151 ?_
                    refine Ex_iload dX9_meets_152 2 rfl ?_
                    refine Ex_iconst (v := 2) dX9_meets_154 (by decide) ?_
                    refine Ex_icmp_ne (tgt := 162) dX9_meets_155 (by decide) ?_ ?_
                    · refine Ex_iconst (v := 0) dX9_meets_162 (by decide) ?_
                      refine Ex_iadd dX9_meets_163 ?_
                      refine Ex_iast 531 (kn_9_12 hk0) (by decide) dX9_meets_164 (fun μ_72 => ?_)
                      refine Ex_aload_n dX9_meets_165 rfl 3 rfl ?_
                      refine Ex_get (v := .ref (a0 + (t + 12))) fgX9_44 hk0 (by decide) rfl dX9_meets_166 ?_
                      refine Ex_bipush (v := 10) dX9_meets_169 (by decide) ?_
                      refine Ex_iload_n dX9_meets_171 rfl 5 rfl ?_
                      refine Ex_iadd dX9_meets_172 ?_
                      refine Ex_dup2 dX9_meets_173 rfl rfl ?_
                      refine Ex_iald 531 (kn_9_12 hk0) (by decide) dX9_meets_174 ?_
                      refine Ex_iload dX9_meets_175 2 rfl ?_
                      refine Ex_iconst (v := 1) dX9_meets_177 (by decide) ?_
                      refine Ex_icmp_ne (tgt := 185) dX9_meets_178 (by decide) ?_ ?_
                      · refine Ex_iconst (v := 0) dX9_meets_185 (by decide) ?_
                        refine Ex_iadd dX9_meets_186 ?_
                        refine Ex_iast 531 (kn_9_12 hk0) (by decide) dX9_meets_187 (fun μ_73 => ?_)
                        refine Ex_aload_n dX9_meets_188 rfl 3 rfl ?_
                        refine Ex_get (v := .ref (a0 + (t + 12))) fgX9_44 hk0 (by decide) rfl dX9_meets_189 ?_
                        refine Ex_bipush (v := 15) dX9_meets_192 (by decide) ?_
                        refine Ex_dup2 dX9_meets_194 rfl rfl ?_
                        refine Ex_ialdC (j := 15) 531 (kn_9_12 hk0) (by decide) (by decide) (by decide) dX9_meets_195 ?_
                        refine Ex_iload dX9_meets_196 2 rfl ?_
                        refine Ex_iconst (v := 3) dX9_meets_198 (by decide) ?_
                        refine Ex_icmp_ne (tgt := 208) dX9_meets_199 (by decide) ?_ ?_
                        · refine Ex_iconst (v := 0) dX9_meets_208 (by decide) ?_
                          refine Ex_ior dX9_meets_209 ?_
                          refine Ex_iastC (j := 15) 531 (kn_9_12 hk0) (by decide) (by decide) (by decide) dX9_meets_210 (fun μ_74 => ?_)
                          refine Ex_iload dX9_meets_211 2 rfl ?_
                          exact Ex_iret dX9_meets_213 rfl (fun ty h => by cases h; rfl)
                        · refine Ex_iconst (v := 1) dX9_meets_202 (by decide) ?_
                          refine Ex_iload_n dX9_meets_203 rfl 6 rfl ?_
                          refine Ex_ishl dX9_meets_204 ?_
                          refine Ex_goto (tgt := 209) dX9_meets_205 (by decide) ?_
                          refine Ex_ior dX9_meets_209 ?_
                          refine Ex_iastC (j := 15) 531 (kn_9_12 hk0) (by decide) (by decide) (by decide) dX9_meets_210 (fun μ_75 => ?_)
                          refine Ex_iload dX9_meets_211 2 rfl ?_
                          exact Ex_iret dX9_meets_213 rfl (fun ty h => by cases h; rfl)
                      · refine Ex_iconst (v := 1) dX9_meets_181 (by decide) ?_
                        refine Ex_goto (tgt := 186) dX9_meets_182 (by decide) ?_
                        refine Ex_iadd dX9_meets_186 ?_
                        refine Ex_iast 531 (kn_9_12 hk0) (by decide) dX9_meets_187 (fun μ_76 => ?_)
                        refine Ex_aload_n dX9_meets_188 rfl 3 rfl ?_
                        refine Ex_get (v := .ref (a0 + (t + 12))) fgX9_44 hk0 (by decide) rfl dX9_meets_189 ?_
                        refine Ex_bipush (v := 15) dX9_meets_192 (by decide) ?_
                        refine Ex_dup2 dX9_meets_194 rfl rfl ?_
                        refine Ex_ialdC (j := 15) 531 (kn_9_12 hk0) (by decide) (by decide) (by decide) dX9_meets_195 ?_
                        refine Ex_iload dX9_meets_196 2 rfl ?_
                        refine Ex_iconst (v := 3) dX9_meets_198 (by decide) ?_
                        refine Ex_icmp_ne (tgt := 208) dX9_meets_199 (by decide) ?_ ?_
                        · refine Ex_iconst (v := 0) dX9_meets_208 (by decide) ?_
                          refine Ex_ior dX9_meets_209 ?_
                          refine Ex_iastC (j := 15) 531 (kn_9_12 hk0) (by decide) (by decide) (by decide) dX9_meets_210 (fun μ_77 => ?_)
                          refine Ex_iload dX9_meets_211 2 rfl ?_
                          exact Ex_iret dX9_meets_213 rfl (fun ty h => by cases h; rfl)
                        · refine Ex_iconst (v := 1) dX9_meets_202 (by decide) ?_
                          refine Ex_iload_n dX9_meets_203 rfl 6 rfl ?_
                          refine Ex_ishl dX9_meets_204 ?_
                          refine Ex_goto (tgt := 209) dX9_meets_205 (by decide) ?_
                          refine Ex_ior dX9_meets_209 ?_
                          refine Ex_iastC (j := 15) 531 (kn_9_12 hk0) (by decide) (by decide) (by decide) dX9_meets_210 (fun μ_78 => ?_)
                          refine Ex_iload dX9_meets_211 2 rfl ?_
                          exact Ex_iret dX9_meets_213 rfl (fun ty h => by cases h; rfl)
                    · refine Ex_iconst (v := 1) dX9_meets_158 (by decide) ?_
                      refine Ex_goto (tgt := 163) dX9_meets_159 (by decide) ?_
                      refine Ex_iadd dX9_meets_163 ?_
                      refine Ex_iast 531 (kn_9_12 hk0) (by decide) dX9_meets_164 (fun μ_79 => ?_)
                      refine Ex_aload_n dX9_meets_165 rfl 3 rfl ?_
                      refine Ex_get (v := .ref (a0 + (t + 12))) fgX9_44 hk0 (by decide) rfl dX9_meets_166 ?_
                      refine Ex_bipush (v := 10) dX9_meets_169 (by decide) ?_
                      refine Ex_iload_n dX9_meets_171 rfl 5 rfl ?_
                      refine Ex_iadd dX9_meets_172 ?_
                      refine Ex_dup2 dX9_meets_173 rfl rfl ?_
                      refine Ex_iald 531 (kn_9_12 hk0) (by decide) dX9_meets_174 ?_
                      refine Ex_iload dX9_meets_175 2 rfl ?_
                      refine Ex_iconst (v := 1) dX9_meets_177 (by decide) ?_
                      refine Ex_icmp_ne (tgt := 185) dX9_meets_178 (by decide) ?_ ?_
                      · refine Ex_iconst (v := 0) dX9_meets_185 (by decide) ?_
                        refine Ex_iadd dX9_meets_186 ?_
                        refine Ex_iast 531 (kn_9_12 hk0) (by decide) dX9_meets_187 (fun μ_80 => ?_)
                        refine Ex_aload_n dX9_meets_188 rfl 3 rfl ?_
                        refine Ex_get (v := .ref (a0 + (t + 12))) fgX9_44 hk0 (by decide) rfl dX9_meets_189 ?_
                        refine Ex_bipush (v := 15) dX9_meets_192 (by decide) ?_
                        refine Ex_dup2 dX9_meets_194 rfl rfl ?_
                        refine Ex_ialdC (j := 15) 531 (kn_9_12 hk0) (by decide) (by decide) (by decide) dX9_meets_195 ?_
                        refine Ex_iload dX9_meets_196 2 rfl ?_
                        refine Ex_iconst (v := 3) dX9_meets_198 (by decide) ?_
                        refine Ex_icmp_ne (tgt := 208) dX9_meets_199 (by decide) ?_ ?_
                        · refine Ex_iconst (v := 0) dX9_meets_208 (by decide) ?_
                          refine Ex_ior dX9_meets_209 ?_
                          refine Ex_iastC (j := 15) 531 (kn_9_12 hk0) (by decide) (by decide) (by decide) dX9_meets_210 (fun μ_81 => ?_)
                          refine Ex_iload dX9_meets_211 2 rfl ?_
                          exact Ex_iret dX9_meets_213 rfl (fun ty h => by cases h; rfl)
                        · refine Ex_iconst (v := 1) dX9_meets_202 (by decide) ?_
                          refine Ex_iload_n dX9_meets_203 rfl 6 rfl ?_
                          refine Ex_ishl dX9_meets_204 ?_
                          refine Ex_goto (tgt := 209) dX9_meets_205 (by decide) ?_
                          refine Ex_ior dX9_meets_209 ?_
                          refine Ex_iastC (j := 15) 531 (kn_9_12 hk0) (by decide) (by decide) (by decide) dX9_meets_210 (fun μ_82 => ?_)
                          refine Ex_iload dX9_meets_211 2 rfl ?_
                          exact Ex_iret dX9_meets_213 rfl (fun ty h => by cases h; rfl)
                      · refine Ex_iconst (v := 1) dX9_meets_181 (by decide) ?_
                        refine Ex_goto (tgt := 186) dX9_meets_182 (by decide) ?_
                        refine Ex_iadd dX9_meets_186 ?_
                        refine Ex_iast 531 (kn_9_12 hk0) (by decide) dX9_meets_187 (fun μ_83 => ?_)
                        refine Ex_aload_n dX9_meets_188 rfl 3 rfl ?_
                        refine Ex_get (v := .ref (a0 + (t + 12))) fgX9_44 hk0 (by decide) rfl dX9_meets_189 ?_
                        refine Ex_bipush (v := 15) dX9_meets_192 (by decide) ?_
                        refine Ex_dup2 dX9_meets_194 rfl rfl ?_
                        refine Ex_ialdC (j := 15) 531 (kn_9_12 hk0) (by decide) (by decide) (by decide) dX9_meets_195 ?_
                        refine Ex_iload dX9_meets_196 2 rfl ?_
                        refine Ex_iconst (v := 3) dX9_meets_198 (by decide) ?_
                        refine Ex_icmp_ne (tgt := 208) dX9_meets_199 (by decide) ?_ ?_
                        · refine Ex_iconst (v := 0) dX9_meets_208 (by decide) ?_
                          refine Ex_ior dX9_meets_209 ?_
                          refine Ex_iastC (j := 15) 531 (kn_9_12 hk0) (by decide) (by decide) (by decide) dX9_meets_210 (fun μ_84 => ?_)
                          refine Ex_iload dX9_meets_211 2 rfl ?_
                          exact Ex_iret dX9_meets_213 rfl (fun ty h => by cases h; rfl)
                        · refine Ex_iconst (v := 1) dX9_meets_202 (by decide) ?_
                          refine Ex_iload_n dX9_meets_203 rfl 6 rfl ?_
                          refine Ex_ishl dX9_meets_204 ?_
                          refine Ex_goto (tgt := 209) dX9_meets_205 (by decide) ?_
                          refine Ex_ior dX9_meets_209 ?_
                          refine Ex_iastC (j := 15) 531 (kn_9_12 hk0) (by decide) (by decide) (by decide) dX9_meets_210 (fun μ_85 => ?_)
                          refine Ex_iload dX9_meets_211 2 rfl ?_
                          exact Ex_iret dX9_meets_213 rfl (fun ty h => by cases h; rfl)
                  · refine Ex_iload dX9_meets_128 2 rfl ?_
                    refine Ex_iconst (v := 2) dX9_meets_130 (by decide) ?_
                    refine Ex_icmp_ne (tgt := 139) dX9_meets_131 (by decide) ?_ ?_
                    · refine Ex_iload dX9_meets_139 0 rfl ?_
                      refine Ex_iast 531 (kn_9_12 hk0) (by decide) dX9_meets_141 (fun μ_86 => ?_)
                      refine Ex_aload_n dX9_meets_142 rfl 3 rfl ?_
                      refine Ex_get (v := .ref (a0 + (t + 12))) fgX9_44 hk0 (by decide) rfl dX9_meets_143 ?_
                      refine Ex_bipush (v := 10) dX9_meets_146 (by decide) ?_
                      refine Ex_iload_n dX9_meets_148 rfl 4 rfl ?_
                      refine Ex_iadd dX9_meets_149 ?_
                      refine Ex_dup2 dX9_meets_150 rfl rfl ?_
                      refine Ex_iald 531 (kn_9_12 hk0) (by decide) dX9_meets_151 ?_
                      refine Ex_iload dX9_meets_152 2 rfl ?_
                      refine Ex_iconst (v := 2) dX9_meets_154 (by decide) ?_
                      refine Ex_icmp_ne (tgt := 162) dX9_meets_155 (by decide) ?_ ?_
                      · refine Ex_iconst (v := 0) dX9_meets_162 (by decide) ?_
                        refine Ex_iadd dX9_meets_163 ?_
                        refine Ex_iast 531 (kn_9_12 hk0) (by decide) dX9_meets_164 (fun μ_87 => ?_)
                        refine Ex_aload_n dX9_meets_165 rfl 3 rfl ?_
                        refine Ex_get (v := .ref (a0 + (t + 12))) fgX9_44 hk0 (by decide) rfl dX9_meets_166 ?_
                        refine Ex_bipush (v := 10) dX9_meets_169 (by decide) ?_
                        refine Ex_iload_n dX9_meets_171 rfl 5 rfl ?_
                        refine Ex_iadd dX9_meets_172 ?_
                        refine Ex_dup2 dX9_meets_173 rfl rfl ?_
                        refine Ex_iald 531 (kn_9_12 hk0) (by decide) dX9_meets_174 ?_
                        refine Ex_iload dX9_meets_175 2 rfl ?_
                        refine Ex_iconst (v := 1) dX9_meets_177 (by decide) ?_
                        refine Ex_icmp_ne (tgt := 185) dX9_meets_178 (by decide) ?_ ?_
                        · refine Ex_iconst (v := 0) dX9_meets_185 (by decide) ?_
                          refine Ex_iadd dX9_meets_186 ?_
                          refine Ex_iast 531 (kn_9_12 hk0) (by decide) dX9_meets_187 (fun μ_88 => ?_)
                          refine Ex_aload_n dX9_meets_188 rfl 3 rfl ?_
                          refine Ex_get (v := .ref (a0 + (t + 12))) fgX9_44 hk0 (by decide) rfl dX9_meets_189 ?_
                          refine Ex_bipush (v := 15) dX9_meets_192 (by decide) ?_
                          refine Ex_dup2 dX9_meets_194 rfl rfl ?_
                          refine Ex_ialdC (j := 15) 531 (kn_9_12 hk0) (by decide) (by decide) (by decide) dX9_meets_195 ?_
                          refine Ex_iload dX9_meets_196 2 rfl ?_
                          refine Ex_iconst (v := 3) dX9_meets_198 (by decide) ?_
                          refine Ex_icmp_ne (tgt := 208) dX9_meets_199 (by decide) ?_ ?_
                          · refine Ex_iconst (v := 0) dX9_meets_208 (by decide) ?_
                            refine Ex_ior dX9_meets_209 ?_
                            refine Ex_iastC (j := 15) 531 (kn_9_12 hk0) (by decide) (by decide) (by decide) dX9_meets_210 (fun μ_89 => ?_)
                            refine Ex_iload dX9_meets_211 2 rfl ?_
                            exact Ex_iret dX9_meets_213 rfl (fun ty h => by cases h; rfl)
                          · refine Ex_iconst (v := 1) dX9_meets_202 (by decide) ?_
                            refine Ex_iload_n dX9_meets_203 rfl 6 rfl ?_
                            refine Ex_ishl dX9_meets_204 ?_
                            refine Ex_goto (tgt := 209) dX9_meets_205 (by decide) ?_
                            refine Ex_ior dX9_meets_209 ?_
                            refine Ex_iastC (j := 15) 531 (kn_9_12 hk0) (by decide) (by decide) (by decide) dX9_meets_210 (fun μ_90 => ?_)
                            refine Ex_iload dX9_meets_211 2 rfl ?_
                            exact Ex_iret dX9_meets_213 rfl (fun ty h => by cases h; rfl)
                        · refine Ex_iconst (v := 1) dX9_meets_181 (by decide) ?_
                          refine Ex_goto (tgt := 186) dX9_meets_182 (by decide) ?_
                          refine Ex_iadd dX9_meets_186 ?_
                          refine Ex_iast 531 (kn_9_12 hk0) (by decide) dX9_meets_187 (fun μ_91 => ?_)
                          refine Ex_aload_n dX9_meets_188 rfl 3 rfl ?_
                          refine Ex_get (v := .ref (a0 + (t + 12))) fgX9_44 hk0 (by decide) rfl dX9_meets_189 ?_
                          refine Ex_bipush (v := 15) dX9_meets_192 (by decide) ?_
                          refine Ex_dup2 dX9_meets_194 rfl rfl ?_
                          refine Ex_ialdC (j := 15) 531 (kn_9_12 hk0) (by decide) (by decide) (by decide) dX9_meets_195 ?_
                          refine Ex_iload dX9_meets_196 2 rfl ?_
                          refine Ex_iconst (v := 3) dX9_meets_198 (by decide) ?_
                          refine Ex_icmp_ne (tgt := 208) dX9_meets_199 (by decide) ?_ ?_
                          · refine Ex_iconst (v := 0) dX9_meets_208 (by decide) ?_
                            refine Ex_ior dX9_meets_209 ?_
                            refine Ex_iastC (j := 15) 531 (kn_9_12 hk0) (by decide) (by decide) (by decide) dX9_meets_210 (fun μ_92 => ?_)
                            refine Ex_iload dX9_meets_211 2 rfl ?_
                            exact Ex_iret dX9_meets_213 rfl (fun ty h => by cases h; rfl)
                          · refine Ex_iconst (v := 1) dX9_meets_202 (by decide) ?_
                            refine Ex_iload_n dX9_meets_203 rfl 6 rfl ?_
                            refine Ex_ishl dX9_meets_204 ?_
                            refine Ex_goto (tgt := 209) dX9_meets_205 (by decide) ?_
                            refine Ex_ior dX9_meets_209 ?_
                            refine Ex_iastC (j := 15) 531 (kn_9_12 hk0) (by decide) (by decide) (by decide) dX9_meets_210 (fun μ_93 => ?_)
                            refine Ex_iload dX9_meets_211 2 rfl ?_
                            exact Ex_iret dX9_meets_213 rfl (fun ty h => by cases h; rfl)
                      · refine Ex_iconst (v := 1) dX9_meets_158 (by decide) ?_
                        refine Ex_goto (tgt := 163) dX9_meets_159 (by decide) ?_
                        refine Ex_iadd dX9_meets_163 ?_
                        refine Ex_iast 531 (kn_9_12 hk0) (by decide) dX9_meets_164 (fun μ_94 => ?_)
                        refine Ex_aload_n dX9_meets_165 rfl 3 rfl ?_
                        refine Ex_get (v := .ref (a0 + (t + 12))) fgX9_44 hk0 (by decide) rfl dX9_meets_166 ?_
                        refine Ex_bipush (v := 10) dX9_meets_169 (by decide) ?_
                        refine Ex_iload_n dX9_meets_171 rfl 5 rfl ?_
                        refine Ex_iadd dX9_meets_172 ?_
                        refine Ex_dup2 dX9_meets_173 rfl rfl ?_
                        refine Ex_iald 531 (kn_9_12 hk0) (by decide) dX9_meets_174 ?_
                        refine Ex_iload dX9_meets_175 2 rfl ?_
                        refine Ex_iconst (v := 1) dX9_meets_177 (by decide) ?_
                        refine Ex_icmp_ne (tgt := 185) dX9_meets_178 (by decide) ?_ ?_
                        · refine Ex_iconst (v := 0) dX9_meets_185 (by decide) ?_
                          refine Ex_iadd dX9_meets_186 ?_
                          refine Ex_iast 531 (kn_9_12 hk0) (by decide) dX9_meets_187 (fun μ_95 => ?_)
                          refine Ex_aload_n dX9_meets_188 rfl 3 rfl ?_
                          refine Ex_get (v := .ref (a0 + (t + 12))) fgX9_44 hk0 (by decide) rfl dX9_meets_189 ?_
                          refine Ex_bipush (v := 15) dX9_meets_192 (by decide) ?_
                          refine Ex_dup2 dX9_meets_194 rfl rfl ?_
                          refine Ex_ialdC (j := 15) 531 (kn_9_12 hk0) (by decide) (by decide) (by decide) dX9_meets_195 ?_
                          refine Ex_iload dX9_meets_196 2 rfl ?_
                          refine Ex_iconst (v := 3) dX9_meets_198 (by decide) ?_
                          refine Ex_icmp_ne (tgt := 208) dX9_meets_199 (by decide) ?_ ?_
                          · refine Ex_iconst (v := 0) dX9_meets_208 (by decide) ?_
                            refine Ex_ior dX9_meets_209 ?_
                            refine Ex_iastC (j := 15) 531 (kn_9_12 hk0) (by decide) (by decide) (by decide) dX9_meets_210 (fun μ_96 => ?_)
                            refine Ex_iload dX9_meets_211 2 rfl ?_
                            exact Ex_iret dX9_meets_213 rfl (fun ty h => by cases h; rfl)
                          · refine Ex_iconst (v := 1) dX9_meets_202 (by decide) ?_
                            refine Ex_iload_n dX9_meets_203 rfl 6 rfl ?_
                            refine Ex_ishl dX9_meets_204 ?_
                            refine Ex_goto (tgt := 209) dX9_meets_205 (by decide) ?_
                            refine Ex_ior dX9_meets_209 ?_
                            refine Ex_iastC (j := 15) 531 (kn_9_12 hk0) (by decide) (by decide) (by decide) dX9_meets_210 (fun μ_97 => ?_)
                            refine Ex_iload dX9_meets_211 2 rfl ?_
                            exact Ex_iret dX9_meets_213 rfl (fun ty h => by cases h; rfl)
                        · refine Ex_iconst (v := 1) dX9_meets_181 (by decide) ?_
                          refine Ex_goto (tgt := 186) dX9_meets_182 (by decide) ?_
                          refine Ex_iadd dX9_meets_186 ?_
                          refine Ex_iast 531 (kn_9_12 hk0) (by decide) dX9_meets_187 (fun μ_98 => ?_)
                          refine Ex_aload_n dX9_meets_188 rfl 3 rfl ?_
                          refine Ex_get (v := .ref (a0 + (t + 12))) fgX9_44 hk0 (by decide) rfl dX9_meets_189 ?_
                          refine Ex_bipush (v := 15) dX9_meets_192 (by decide) ?_
                          refine Ex_dup2 dX9_meets_194 rfl rfl ?_
                          refine Ex_ialdC (j := 15) 531 (kn_9_12 hk0) (by decide) (by decide) (by decide) dX9_meets_195 ?_
                          refine Ex_iload dX9_meets_196 2 rfl ?_
                          refine Ex_iconst (v := 3) dX9_meets_198 (by decide) ?_
                          refine Ex_icmp_ne (tgt := 208) dX9_meets_199 (by decide) ?_ ?_
                          · refine Ex_iconst (v := 0) dX9_meets_208 (by decide) ?_
                            refine Ex_ior dX9_meets_209 ?_
                            refine Ex_iastC (j := 15) 531 (kn_9_12 hk0) (by decide) (by decide) (by decide) dX9_meets_210 (fun μ_99 => ?_)
                            refine Ex_iload dX9_meets_211 2 rfl ?_
                            exact Ex_iret dX9_meets_213 rfl (fun ty h => by cases h; rfl)
                          · refine Ex_iconst (v := 1) dX9_meets_202 (by decide) ?_
                            refine Ex_iload_n dX9_meets_203 rfl 6 rfl ?_
                            refine Ex_ishl dX9_meets_204 ?_
                            refine Ex_goto (tgt := 209) dX9_meets_205 (by decide) ?_
                            refine Ex_ior dX9_meets_209 ?_
                            refine Ex_iastC (j := 15) 531 (kn_9_12 hk0) (by decide) (by decide) (by decide) dX9_meets_210 (fun μ_100 => ?_)
                            refine Ex_iload dX9_meets_211 2 rfl ?_
                            exact Ex_iret dX9_meets_213 rfl (fun ty h => by cases h; rfl)
                    · refine Ex_iload dX9_meets_134 1 rfl ?_
                      refine Ex_goto (tgt := 141) dX9_meets_136 (by decide) ?_
                      refine Ex_iast 531 (kn_9_12 hk0) (by decide) dX9_meets_141 (fun μ_101 => ?_)
                      refine Ex_aload_n dX9_meets_142 rfl 3 rfl ?_
                      refine Ex_get (v := .ref (a0 + (t + 12))) fgX9_44 hk0 (by decide) rfl dX9_meets_143 ?_
                      refine Ex_bipush (v := 10) dX9_meets_146 (by decide) ?_
                      refine Ex_iload_n dX9_meets_148 rfl 4 rfl ?_
                      refine Ex_iadd dX9_meets_149 ?_
                      refine Ex_dup2 dX9_meets_150 rfl rfl ?_
                      refine Ex_iald 531 (kn_9_12 hk0) (by decide) dX9_meets_151 ?_
                      refine Ex_iload dX9_meets_152 2 rfl ?_
                      refine Ex_iconst (v := 2) dX9_meets_154 (by decide) ?_
                      refine Ex_icmp_ne (tgt := 162) dX9_meets_155 (by decide) ?_ ?_
                      · refine Ex_iconst (v := 0) dX9_meets_162 (by decide) ?_
                        refine Ex_iadd dX9_meets_163 ?_
                        refine Ex_iast 531 (kn_9_12 hk0) (by decide) dX9_meets_164 (fun μ_102 => ?_)
                        refine Ex_aload_n dX9_meets_165 rfl 3 rfl ?_
                        refine Ex_get (v := .ref (a0 + (t + 12))) fgX9_44 hk0 (by decide) rfl dX9_meets_166 ?_
                        refine Ex_bipush (v := 10) dX9_meets_169 (by decide) ?_
                        refine Ex_iload_n dX9_meets_171 rfl 5 rfl ?_
                        refine Ex_iadd dX9_meets_172 ?_
                        refine Ex_dup2 dX9_meets_173 rfl rfl ?_
                        refine Ex_iald 531 (kn_9_12 hk0) (by decide) dX9_meets_174 ?_
                        refine Ex_iload dX9_meets_175 2 rfl ?_
                        refine Ex_iconst (v := 1) dX9_meets_177 (by decide) ?_
                        refine Ex_icmp_ne (tgt := 185) dX9_meets_178 (by decide) ?_ ?_
                        · refine Ex_iconst (v := 0) dX9_meets_185 (by decide) ?_
                          refine Ex_iadd dX9_meets_186 ?_
                          refine Ex_iast 531 (kn_9_12 hk0) (by decide) dX9_meets_187 (fun μ_103 => ?_)
                          refine Ex_aload_n dX9_meets_188 rfl 3 rfl ?_
                          refine Ex_get (v := .ref (a0 + (t + 12))) fgX9_44 hk0 (by decide) rfl dX9_meets_189 ?_
                          refine Ex_bipush (v := 15) dX9_meets_192 (by decide) ?_
                          refine Ex_dup2 dX9_meets_194 rfl rfl ?_
                          refine Ex_ialdC (j := 15) 531 (kn_9_12 hk0) (by decide) (by decide) (by decide) dX9_meets_195 ?_
                          refine Ex_iload dX9_meets_196 2 rfl ?_
                          refine Ex_iconst (v := 3) dX9_meets_198 (by decide) ?_
                          refine Ex_icmp_ne (tgt := 208) dX9_meets_199 (by decide) ?_ ?_
                          · refine Ex_iconst (v := 0) dX9_meets_208 (by decide) ?_
                            refine Ex_ior dX9_meets_209 ?_
                            refine Ex_iastC (j := 15) 531 (kn_9_12 hk0) (by decide) (by decide) (by decide) dX9_meets_210 (fun μ_104 => ?_)
                            refine Ex_iload dX9_meets_211 2 rfl ?_
                            exact Ex_iret dX9_meets_213 rfl (fun ty h => by cases h; rfl)
                          · refine Ex_iconst (v := 1) dX9_meets_202 (by decide) ?_
                            refine Ex_iload_n dX9_meets_203 rfl 6 rfl ?_
                            refine Ex_ishl dX9_meets_204 ?_
                            refine Ex_goto (tgt := 209) dX9_meets_205 (by decide) ?_
                            refine Ex_ior dX9_meets_209 ?_
                            refine Ex_iastC (j := 15) 531 (kn_9_12 hk0) (by decide) (by decide) (by decide) dX9_meets_210 (fun μ_105 => ?_)
                            refine Ex_iload dX9_meets_211 2 rfl ?_
                            exact Ex_iret dX9_meets_213 rfl (fun ty h => by cases h; rfl)
                        · refine Ex_iconst (v := 1) dX9_meets_181 (by decide) ?_
                          refine Ex_goto (tgt := 186) dX9_meets_182 (by decide) ?_
                          refine Ex_iadd dX9_meets_186 ?_
                          refine Ex_iast 531 (kn_9_12 hk0) (by decide) dX9_meets_187 (fun μ_106 => ?_)
                          refine Ex_aload_n dX9_meets_188 rfl 3 rfl ?_
                          refine Ex_get (v := .ref (a0 + (t + 12))) fgX9_44 hk0 (by decide) rfl dX9_meets_189 ?_
                          refine Ex_bipush (v := 15) dX9_meets_192 (by decide) ?_
                          refine Ex_dup2 dX9_meets_194 rfl rfl ?_
                          refine Ex_ialdC (j := 15) 531 (kn_9_12 hk0) (by decide) (by decide) (by decide) dX9_meets_195 ?_
                          refine Ex_iload dX9_meets_196 2 rfl ?_
                          refine Ex_iconst (v := 3) dX9_meets_198 (by decide) ?_
                          refine Ex_icmp_ne (tgt := 208) dX9_meets_199 (by decide) ?_ ?_
                          · refine Ex_iconst (v := 0) dX9_meets_208 (by decide) ?_
                            refine Ex_ior dX9_meets_209 ?_
                            refine Ex_iastC (j := 15) 531 (kn_9_12 hk0) (by decide) (by decide) (by decide) dX9_meets_210 (fun μ_107 => ?_)
                            refine Ex_iload dX9_meets_211 2 rfl ?_
                            exact Ex_iret dX9_meets_213 rfl (fun ty h => by cases h; rfl)
                          · refine Ex_iconst (v := 1) dX9_meets_202 (by decide) ?_
                            refine Ex_iload_n dX9_meets_203 rfl 6 rfl ?_
                            refine Ex_ishl dX9_meets_204 ?_
                            refine Ex_goto (tgt := 209) dX9_meets_205 (by decide) ?_
                            refine Ex_ior dX9_meets_209 ?_
                            refine Ex_iastC (j := 15) 531 (kn_9_12 hk0) (by decide) (by decide) (by decide) dX9_meets_210 (fun μ_108 => ?_)
                            refine Ex_iload dX9_meets_211 2 rfl ?_
                            exact Ex_iret dX9_meets_213 rfl (fun ty h => by cases h; rfl)
                      · refine Ex_iconst (v := 1) dX9_meets_158 (by decide) ?_
                        refine Ex_goto (tgt := 163) dX9_meets_159 (by decide) ?_
                        refine Ex_iadd dX9_meets_163 ?_
                        refine Ex_iast 531 (kn_9_12 hk0) (by decide) dX9_meets_164 (fun μ_109 => ?_)
                        refine Ex_aload_n dX9_meets_165 rfl 3 rfl ?_
                        refine Ex_get (v := .ref (a0 + (t + 12))) fgX9_44 hk0 (by decide) rfl dX9_meets_166 ?_
                        refine Ex_bipush (v := 10) dX9_meets_169 (by decide) ?_
                        refine Ex_iload_n dX9_meets_171 rfl 5 rfl ?_
                        refine Ex_iadd dX9_meets_172 ?_
                        refine Ex_dup2 dX9_meets_173 rfl rfl ?_
                        refine Ex_iald 531 (kn_9_12 hk0) (by decide) dX9_meets_174 ?_
                        refine Ex_iload dX9_meets_175 2 rfl ?_
                        refine Ex_iconst (v := 1) dX9_meets_177 (by decide) ?_
                        refine Ex_icmp_ne (tgt := 185) dX9_meets_178 (by decide) ?_ ?_
                        · refine Ex_iconst (v := 0) dX9_meets_185 (by decide) ?_
                          refine Ex_iadd dX9_meets_186 ?_
                          refine Ex_iast 531 (kn_9_12 hk0) (by decide) dX9_meets_187 (fun μ_110 => ?_)
                          refine Ex_aload_n dX9_meets_188 rfl 3 rfl ?_
                          refine Ex_get (v := .ref (a0 + (t + 12))) fgX9_44 hk0 (by decide) rfl dX9_meets_189 ?_
                          refine Ex_bipush (v := 15) dX9_meets_192 (by decide) ?_
                          refine Ex_dup2 dX9_meets_194 rfl rfl ?_
                          refine Ex_ialdC (j := 15) 531 (kn_9_12 hk0) (by decide) (by decide) (by decide) dX9_meets_195 ?_
                          refine Ex_iload dX9_meets_196 2 rfl ?_
                          refine Ex_iconst (v := 3) dX9_meets_198 (by decide) ?_
                          refine Ex_icmp_ne (tgt := 208) dX9_meets_199 (by decide) ?_ ?_
                          · refine Ex_iconst (v := 0) dX9_meets_208 (by decide) ?_
                            refine Ex_ior dX9_meets_209 ?_
                            refine Ex_iastC (j := 15) 531 (kn_9_12 hk0) (by decide) (by decide) (by decide) dX9_meets_210 (fun μ_111 => ?_)
                            refine Ex_iload dX9_meets_211 2 rfl ?_
                            exact Ex_iret dX9_meets_213 rfl (fun ty h => by cases h; rfl)
                          · refine Ex_iconst (v := 1) dX9_meets_202 (by decide) ?_
                            refine Ex_iload_n dX9_meets_203 rfl 6 rfl ?_
                            refine Ex_ishl dX9_meets_204 ?_
                            refine Ex_goto (tgt := 209) dX9_meets_205 (by decide) ?_
                            refine Ex_ior dX9_meets_209 ?_
                            refine Ex_iastC (j := 15) 531 (kn_9_12 hk0) (by decide) (by decide) (by decide) dX9_meets_210 (fun μ_112 => ?_)
                            refine Ex_iload dX9_meets_211 2 rfl ?_
                            exact Ex_iret dX9_meets_213 rfl (fun ty h => by cases h; rfl)
                        · refine Ex_iconst (v := 1) dX9_meets_181 (by decide) ?_
                          refine Ex_goto (tgt := 186) dX9_meets_182 (by decide) ?_
                          refine Ex_iadd dX9_meets_186 ?_
                          refine Ex_iast 531 (kn_9_12 hk0) (by decide) dX9_meets_187 (fun μ_113 => ?_)
                          refine Ex_aload_n dX9_meets_188 rfl 3 rfl ?_
                          refine Ex_get (v := .ref (a0 + (t + 12))) fgX9_44 hk0 (by decide) rfl dX9_meets_189 ?_
                          refine Ex_bipush (v := 15) dX9_meets_192 (by decide) ?_
                          refine Ex_dup2 dX9_meets_194 rfl rfl ?_
                          refine Ex_ialdC (j := 15) 531 (kn_9_12 hk0) (by decide) (by decide) (by decide) dX9_meets_195 ?_
                          refine Ex_iload dX9_meets_196 2 rfl ?_
                          refine Ex_iconst (v := 3) dX9_meets_198 (by decide) ?_
                          refine Ex_icmp_ne (tgt := 208) dX9_meets_199 (by decide) ?_ ?_
                          · refine Ex_iconst (v := 0) dX9_meets_208 (by decide) ?_
                            refine Ex_ior dX9_meets_209 ?_
                            refine Ex_iastC (j := 15) 531 (kn_9_12 hk0) (by decide) (by decide) (by decide) dX9_meets_210 (fun μ_114 => ?_)
                            refine Ex_iload dX9_meets_211 2 rfl ?_
                            exact Ex_iret dX9_meets_213 rfl (fun ty h => by cases h; rfl)
                          · refine Ex_iconst (v := 1) dX9_meets_202 (by decide) ?_
                            refine Ex_iload_n dX9_meets_203 rfl 6 rfl ?_
                            refine Ex_ishl dX9_meets_204 ?_
                            refine Ex_goto (tgt := 209) dX9_meets_205 (by decide) ?_
                            refine Ex_ior dX9_meets_209 ?_
                            refine Ex_iastC (j := 15) 531 (kn_9_12 hk0) (by decide) (by decide) (by decide) dX9_meets_210 (fun μ_115 => ?_)
                            refine Ex_iload dX9_meets_211 2 rfl ?_
                            exact Ex_iret dX9_meets_213 rfl (fun ty h => by cases h; rfl)
              · refine Ex_bipush (v := (-2)) dX9_meets_88 (by decide) ?_
                exact Ex_iret dX9_meets_90 rfl (fun ty h => by cases h; rfl)
        · refine Ex_iconst (v := (-1)) dX9_meets_29 (by decide) ?_
          exact Ex_iret dX9_meets_30 rfl (fun ty h => by cases h; rfl)

def f_X9_reaches (F : Nat) (μ : Mem) (t : Nat) (p1 : Int32) (p2 : Int32) (p3 : Int32) : Option (Int32) := (f_X9_reach F μ t p1 p3).bind (fun v_1 => (if ((v_1 >>> (p2 &&& 31)) &&& 1) = 1 then some 1 else some 0))
set_option maxRecDepth 100000 in
set_option maxHeartbeats 4000000 in
theorem c_X9_reaches (a0 F : Nat) (μ : Mem) (t : Nat) (p1 : Int32) (p2 : Int32) (p3 : Int32) (hk0 : kd t = 9) {v : Int32} (hr : f_X9_reaches F μ t p1 p2 p3 = some v) : Ct a0 yX9_reaches cX9_reaches 4 (some .boolean) 3 [.ref (a0 + t), .int p1, .int p2, .int p3] μ (some (.int v)) μ := by
  refine Ct_of (own := RX9) (ι := (fun v => (some (.int v), μ))) (o := f_X9_reaches F μ t p1 p2 p3) (by decide +kernel) rfl (Nat.le_of_ble_eq_true rfl) ?_ hr rfl ⟨_, rfl⟩
  show Ex a0 RX9 cX9_reaches 4 (some .boolean) 3 none (fun v => (some (.int v), μ)) 0 [(0, .ref (a0 + t)), (1, .int p1), (2, .int p2), (3, .int p3)] [] μ (f_X9_reaches F μ t p1 p2 p3)
  unfold f_X9_reaches
  refine Ex_aload_n dX9_reaches_0 rfl 0 rfl ?_
  refine Ex_iload_n dX9_reaches_1 rfl 1 rfl ?_
  refine Ex_iload_n dX9_reaches_2 rfl 3 rfl ?_
  refine Ex_callVR (n := 2) (dp2 := 2) [.int p1, .int p3] cvX9_131 hk0 rfl rfl (by decide) (by decide) (Nat.le_of_ble_eq_true rfl) rfl (fun v hv => c_X9_reach a0 F μ t p1 p3 hk0 hv) dX9_reaches_3 (fun v_1 hv_3 => ?_)
  refine Ex_iload_n dX9_reaches_6 rfl 2 rfl ?_
  refine Ex_ishr dX9_reaches_7 ?_
  refine Ex_iconst (v := 1) dX9_reaches_8 (by decide) ?_
  refine Ex_iand dX9_reaches_9 ?_
  refine Ex_iconst (v := 1) dX9_reaches_10 (by decide) ?_
  refine Ex_icmp_ne (tgt := 18) dX9_reaches_11 (by decide) ?_ ?_
  · refine Ex_iconst (v := 0) dX9_reaches_18 (by decide) ?_
    exact Ex_iret dX9_reaches_19 rfl (fun ty h => by cases h; rfl)
  · refine Ex_iconst (v := 1) dX9_reaches_14 (by decide) ?_
    refine Ex_goto (tgt := 19) dX9_reaches_15 (by decide) ?_
    exact Ex_iret dX9_reaches_19 rfl (fun ty h => by cases h; rfl)

def f_X9_must_L23 (F : Nat) (μ : Mem) (q0 : Nat) (x1 : Int32) (x2 : Int32) (k : Int32 → Int32 → Option (Int32)) : Nat → Int32 → Int32 → Option (Int32)
  | 0, _, _ => none
  | n + 1, x3, x4 => (if x4 < (gI μ (q0 + 3) 0) then (f_X9_reaches F μ q0 x1 x2 ((gI μ (q0 + 12) 15) ||| (1 <<< (x4 &&& 31)))).bind (fun v_7 => (if v_7 = 0 then f_X9_must_L23 F μ q0 x1 x2 k n (x3 ||| (1 <<< (x4 &&& 31))) (x4 + 1) else f_X9_must_L23 F μ q0 x1 x2 k n (x3 ||| 0) (x4 + 1))) else k x3 x4)
set_option maxRecDepth 100000 in
set_option maxHeartbeats 4000000 in
theorem c_X9_must_L23 (a0 : Nat) (F : Nat) (μ : Mem) (q0 : Nat) (x1 : Int32) (x2 : Int32) (k : Int32 → Int32 → Option (Int32)) (hq0 : kd q0 = 9) (hk : ∀ (x3 : Int32) (x4 : Int32), Ex a0 RX9 cX9_must 5 (some .int) 4 none (fun v => (some (.int v), μ)) 72 [(0, .ref (a0 + q0)), (1, .int x1), (2, .int x2), (3, .int x3)] [] μ (k x3 x4)) : ∀ (n : Nat) (x3 : Int32) (x4 : Int32), Ex a0 RX9 cX9_must 5 (some .int) 4 none (fun v => (some (.int v), μ)) 23 [(0, .ref (a0 + q0)), (1, .int x1), (2, .int x2), (3, .int x3), (4, .int x4)] [] μ (f_X9_must_L23 F μ q0 x1 x2 k n x3 x4) := by
  intro n
  induction n with
  | zero => intro x3 x4; exact Ex_none
  | succ n ih =>
    intro x3 x4
    rw [f_X9_must_L23]
    refine Ex_iload dX9_must_23 4 rfl ?_
    refine Ex_aload_n dX9_must_25 rfl 0 rfl ?_
    refine Ex_get (v := .ref (a0 + (q0 + 3))) fgX9_17 hq0 (by decide) rfl dX9_must_26 ?_
    refine Ex_iconst (v := 0) dX9_must_29 (by decide) ?_
    refine Ex_ialdC (j := 0) 2 (kn_9_3 hq0) (by decide) (by decide) (by decide) dX9_must_30 ?_
    refine Ex_icmp_ge (tgt := 72) dX9_must_31 (by decide) ?_ ?_
    · refine Ex_perm [0, 1, 2, 3] rfl ?_
      exact hk x3 x4
    · refine Ex_iload_n dX9_must_34 rfl 3 rfl ?_
      refine Ex_aload_n dX9_must_35 rfl 0 rfl ?_
      refine Ex_iload_n dX9_must_36 rfl 1 rfl ?_
      refine Ex_iload_n dX9_must_37 rfl 2 rfl ?_
      refine Ex_aload_n dX9_must_38 rfl 0 rfl ?_
      refine Ex_get (v := .ref (a0 + (q0 + 12))) fgX9_44 hq0 (by decide) rfl dX9_must_39 ?_
      refine Ex_bipush (v := 15) dX9_must_42 (by decide) ?_
      refine Ex_ialdC (j := 15) 531 (kn_9_12 hq0) (by decide) (by decide) (by decide) dX9_must_44 ?_
      refine Ex_iconst (v := 1) dX9_must_45 (by decide) ?_
      refine Ex_iload dX9_must_46 4 rfl ?_
      refine Ex_ishl dX9_must_48 ?_
      refine Ex_ior dX9_must_49 ?_
      refine Ex_callVR (n := 3) (dp2 := 3) [.int x1, .int x2, .int ((gI μ (q0 + 12) 15) ||| (1 <<< (x4 &&& 31)))] cvX9_175 hq0 rfl rfl (by decide) (by decide) (Nat.le_of_ble_eq_true rfl) rfl (fun v hv => c_X9_reaches a0 F μ q0 x1 x2 ((gI μ (q0 + 12) 15) ||| (1 <<< (x4 &&& 31))) hq0 hv) dX9_must_50 (fun v_7 hv_9 => ?_)
      refine Ex_if_ne (tgt := 63) dX9_must_53 (by decide) ?_ ?_
      · refine Ex_iconst (v := 0) dX9_must_63 (by decide) ?_
        refine Ex_ior dX9_must_64 ?_
        refine Ex_istore_n (L2 := [(3, .int (x3 ||| 0)), (0, .ref (a0 + q0)), (1, .int x1), (2, .int x2), (4, .int x4)]) dX9_must_65 rfl (by decide) rfl ?_
        refine Ex_iinc (v := x4 + 1) (L2 := [(4, .int (x4 + 1)), (3, .int (x3 ||| 0)), (0, .ref (a0 + q0)), (1, .int x1), (2, .int x2)]) dX9_must_66 4 rfl rfl (by decide) rfl ?_
        refine Ex_goto (tgt := 23) dX9_must_69 (by decide) ?_
        refine Ex_perm [2, 3, 4, 1, 0] rfl ?_
        exact ih (x3 ||| 0) (x4 + 1)
      · refine Ex_iconst (v := 1) dX9_must_56 (by decide) ?_
        refine Ex_iload dX9_must_57 4 rfl ?_
        refine Ex_ishl dX9_must_59 ?_
        refine Ex_goto (tgt := 64) dX9_must_60 (by decide) ?_
        refine Ex_ior dX9_must_64 ?_
        refine Ex_istore_n (L2 := [(3, .int (x3 ||| (1 <<< (x4 &&& 31)))), (0, .ref (a0 + q0)), (1, .int x1), (2, .int x2), (4, .int x4)]) dX9_must_65 rfl (by decide) rfl ?_
        refine Ex_iinc (v := x4 + 1) (L2 := [(4, .int (x4 + 1)), (3, .int (x3 ||| (1 <<< (x4 &&& 31)))), (0, .ref (a0 + q0)), (1, .int x1), (2, .int x2)]) dX9_must_66 4 rfl rfl (by decide) rfl ?_
        refine Ex_goto (tgt := 23) dX9_must_69 (by decide) ?_
        refine Ex_perm [2, 3, 4, 1, 0] rfl ?_
        exact ih (x3 ||| (1 <<< (x4 &&& 31))) (x4 + 1)
def f_X9_must (F : Nat) (μ : Mem) (t : Nat) (p1 : Int32) (p2 : Int32) : Option (Int32) := (f_X9_isPerson F μ t p1).bind (fun v_1 => (if v_1 = 0 then some (-1) else (f_X9_isPlace F μ t p2).bind (fun v_4 => (if v_4 = 0 then some (-1) else f_X9_must_L23 F μ t p1 p2 (fun x3_10 x4_11 => (f_X9_reaches F μ t p1 p2 (gI μ (t + 12) 15)).bind (fun v_12 => (if v_12 = 0 then some 0 else some x3_10))) F 0 0))))
set_option maxRecDepth 100000 in
set_option maxHeartbeats 4000000 in
theorem c_X9_must (a0 F : Nat) (μ : Mem) (t : Nat) (p1 : Int32) (p2 : Int32) (hk0 : kd t = 9) {v : Int32} (hr : f_X9_must F μ t p1 p2 = some v) : Ct a0 yX9_must cX9_must 5 (some .int) 4 [.ref (a0 + t), .int p1, .int p2] μ (some (.int v)) μ := by
  refine Ct_of (own := RX9) (ι := (fun v => (some (.int v), μ))) (o := f_X9_must F μ t p1 p2) (by decide +kernel) rfl (Nat.le_of_ble_eq_true rfl) ?_ hr rfl ⟨_, rfl⟩
  show Ex a0 RX9 cX9_must 5 (some .int) 4 none (fun v => (some (.int v), μ)) 0 [(0, .ref (a0 + t)), (1, .int p1), (2, .int p2)] [] μ (f_X9_must F μ t p1 p2)
  unfold f_X9_must
  refine Ex_aload_n dX9_must_0 rfl 0 rfl ?_
  refine Ex_iload_n dX9_must_1 rfl 1 rfl ?_
  refine Ex_callVR (n := 1) (dp2 := 1) [.int p1] cvX9_141 hk0 rfl rfl (by decide) (by decide) (Nat.le_of_ble_eq_true rfl) rfl (fun v hv => c_X9_isPerson a0 F μ t p1 hk0 hv) dX9_must_2 (fun v_1 hv_3 => ?_)
  refine Ex_if_eq (tgt := 16) dX9_must_5 (by decide) ?_ ?_
  · refine Ex_iconst (v := (-1)) dX9_must_16 (by decide) ?_
    exact Ex_iret dX9_must_17 rfl (fun ty h => by cases h; rfl)
  · refine Ex_aload_n dX9_must_8 rfl 0 rfl ?_
    refine Ex_iload_n dX9_must_9 rfl 2 rfl ?_
    refine Ex_callVR (n := 1) (dp2 := 1) [.int p2] cvX9_168 hk0 rfl rfl (by decide) (by decide) (Nat.le_of_ble_eq_true rfl) rfl (fun v hv => c_X9_isPlace a0 F μ t p2 hk0 hv) dX9_must_10 (fun v_4 hv_6 => ?_)
    refine Ex_if_ne (tgt := 18) dX9_must_13 (by decide) ?_ ?_
    · refine Ex_iconst (v := 0) dX9_must_18 (by decide) ?_
      refine Ex_istore_n (L2 := [(3, .int 0), (0, .ref (a0 + t)), (1, .int p1), (2, .int p2)]) dX9_must_19 rfl (by decide) rfl ?_
      refine Ex_iconst (v := 0) dX9_must_20 (by decide) ?_
      refine Ex_istore (L2 := [(4, .int 0), (3, .int 0), (0, .ref (a0 + t)), (1, .int p1), (2, .int p2)]) dX9_must_21 (by decide) rfl ?_
      refine Ex_perm [2, 3, 4, 1, 0] rfl ?_
      refine c_X9_must_L23 a0 F μ t p1 p2 _ hk0 (fun x3_10 x4_11 => ?_) F 0 0
      refine Ex_aload_n dX9_must_72 rfl 0 rfl ?_
      refine Ex_iload_n dX9_must_73 rfl 1 rfl ?_
      refine Ex_iload_n dX9_must_74 rfl 2 rfl ?_
      refine Ex_aload_n dX9_must_75 rfl 0 rfl ?_
      refine Ex_get (v := .ref (a0 + (t + 12))) fgX9_44 hk0 (by decide) rfl dX9_must_76 ?_
      refine Ex_bipush (v := 15) dX9_must_79 (by decide) ?_
      refine Ex_ialdC (j := 15) 531 (kn_9_12 hk0) (by decide) (by decide) (by decide) dX9_must_81 ?_
      refine Ex_callVR (n := 3) (dp2 := 3) [.int p1, .int p2, .int (gI μ (t + 12) 15)] cvX9_175 hk0 rfl rfl (by decide) (by decide) (Nat.le_of_ble_eq_true rfl) rfl (fun v hv => c_X9_reaches a0 F μ t p1 p2 (gI μ (t + 12) 15) hk0 hv) dX9_must_82 (fun v_12 hv_14 => ?_)
      refine Ex_if_eq (tgt := 92) dX9_must_85 (by decide) ?_ ?_
      · refine Ex_iconst (v := 0) dX9_must_92 (by decide) ?_
        exact Ex_iret dX9_must_93 rfl (fun ty h => by cases h; rfl)
      · refine Ex_iload_n dX9_must_88 rfl 3 rfl ?_
        refine Ex_goto (tgt := 93) dX9_must_89 (by decide) ?_
        exact Ex_iret dX9_must_93 rfl (fun ty h => by cases h; rfl)
    · refine Ex_iconst (v := (-1)) dX9_must_16 (by decide) ?_
      exact Ex_iret dX9_must_17 rfl (fun ty h => by cases h; rfl)

def f_X9_narrow_L33 (F : Nat) (μ : Mem) (q0 : Nat) (x1 : Int32) (x2 : Int32) (x3 : Int32) (k : Int32 → Int32 → Option (Int32)) : Nat → Int32 → Int32 → Option (Int32)
  | 0, _, _ => none
  | n + 1, x4, x5 => (if x5 < (gI μ (q0 + 7) 0) then (if ((x3 >>> (x5 &&& 31)) &&& 1) = 1 then f_X9_narrow_L33 F μ q0 x1 x2 x3 k n (x4 + (gI μ (q0 + 10) 0)) (x5 + 1) else (f_X9_wide F μ q0 x5).bind (fun v_4 => f_X9_narrow_L33 F μ q0 x1 x2 x3 k n (x4 + v_4) (x5 + 1))) else k x4 x5)
set_option maxRecDepth 100000 in
set_option maxHeartbeats 4000000 in
theorem c_X9_narrow_L33 (a0 : Nat) (F : Nat) (μ : Mem) (q0 : Nat) (x1 : Int32) (x2 : Int32) (x3 : Int32) (k : Int32 → Int32 → Option (Int32)) (hq0 : kd q0 = 9) (hk : ∀ (x4 : Int32) (x5 : Int32), Ex a0 RX9 cX9_narrow 6 (some .int) 2 none (fun v => (some (.int v), μ)) 80 [(0, .ref (a0 + q0)), (1, .int x1), (2, .int x2), (3, .int x3), (4, .int x4)] [] μ (k x4 x5)) : ∀ (n : Nat) (x4 : Int32) (x5 : Int32), Ex a0 RX9 cX9_narrow 6 (some .int) 2 none (fun v => (some (.int v), μ)) 33 [(0, .ref (a0 + q0)), (1, .int x1), (2, .int x2), (3, .int x3), (4, .int x4), (5, .int x5)] [] μ (f_X9_narrow_L33 F μ q0 x1 x2 x3 k n x4 x5) := by
  intro n
  induction n with
  | zero => intro x4 x5; exact Ex_none
  | succ n ih =>
    intro x4 x5
    rw [f_X9_narrow_L33]
    refine Ex_iload dX9_narrow_33 5 rfl ?_
    refine Ex_aload_n dX9_narrow_35 rfl 0 rfl ?_
    refine Ex_get (v := .ref (a0 + (q0 + 7))) fgX9_29 hq0 (by decide) rfl dX9_narrow_36 ?_
    refine Ex_iconst (v := 0) dX9_narrow_39 (by decide) ?_
    refine Ex_ialdC (j := 0) 2 (kn_9_7 hq0) (by decide) (by decide) (by decide) dX9_narrow_40 ?_
    refine Ex_icmp_ge (tgt := 80) dX9_narrow_41 (by decide) ?_ ?_
    · refine Ex_perm [0, 1, 2, 3, 4] rfl ?_
      exact hk x4 x5
    · refine Ex_iload dX9_narrow_44 4 rfl ?_
      refine Ex_iload_n dX9_narrow_46 rfl 3 rfl ?_
      refine Ex_iload dX9_narrow_47 5 rfl ?_
      refine Ex_ishr dX9_narrow_49 ?_
      refine Ex_iconst (v := 1) dX9_narrow_50 (by decide) ?_
      refine Ex_iand dX9_narrow_51 ?_
      refine Ex_iconst (v := 1) dX9_narrow_52 (by decide) ?_
      refine Ex_icmp_ne (tgt := 65) dX9_narrow_53 (by decide) ?_ ?_
      · refine Ex_aload_n dX9_narrow_65 rfl 0 rfl ?_
        refine Ex_iload dX9_narrow_66 5 rfl ?_
        refine Ex_callVR (n := 1) (dp2 := 0) [.int x5] cvX9_124 hq0 rfl rfl (by decide) (by decide) (Nat.le_of_ble_eq_true rfl) rfl (fun v hv => c_X9_wide a0 F μ q0 x5 hq0 hv) dX9_narrow_68 (fun v_4 hv_6 => ?_)
        refine Ex_iadd dX9_narrow_71 ?_
        refine Ex_istore (L2 := [(4, .int (x4 + v_4)), (0, .ref (a0 + q0)), (1, .int x1), (2, .int x2), (3, .int x3), (5, .int x5)]) dX9_narrow_72 (by decide) rfl ?_
        refine Ex_iinc (v := x5 + 1) (L2 := [(5, .int (x5 + 1)), (4, .int (x4 + v_4)), (0, .ref (a0 + q0)), (1, .int x1), (2, .int x2), (3, .int x3)]) dX9_narrow_74 5 rfl rfl (by decide) rfl ?_
        refine Ex_goto (tgt := 33) dX9_narrow_77 (by decide) ?_
        refine Ex_perm [2, 3, 4, 5, 1, 0] rfl ?_
        exact ih (x4 + v_4) (x5 + 1)
      · refine Ex_aload_n dX9_narrow_56 rfl 0 rfl ?_
        refine Ex_get (v := .ref (a0 + (q0 + 10))) fgX9_38 hq0 (by decide) rfl dX9_narrow_57 ?_
        refine Ex_iconst (v := 0) dX9_narrow_60 (by decide) ?_
        refine Ex_ialdC (j := 0) 2 (kn_9_10 hq0) (by decide) (by decide) (by decide) dX9_narrow_61 ?_
        refine Ex_goto (tgt := 71) dX9_narrow_62 (by decide) ?_
        refine Ex_iadd dX9_narrow_71 ?_
        refine Ex_istore (L2 := [(4, .int (x4 + (gI μ (q0 + 10) 0))), (0, .ref (a0 + q0)), (1, .int x1), (2, .int x2), (3, .int x3), (5, .int x5)]) dX9_narrow_72 (by decide) rfl ?_
        refine Ex_iinc (v := x5 + 1) (L2 := [(5, .int (x5 + 1)), (4, .int (x4 + (gI μ (q0 + 10) 0))), (0, .ref (a0 + q0)), (1, .int x1), (2, .int x2), (3, .int x3)]) dX9_narrow_74 5 rfl rfl (by decide) rfl ?_
        refine Ex_goto (tgt := 33) dX9_narrow_77 (by decide) ?_
        refine Ex_perm [2, 3, 4, 5, 1, 0] rfl ?_
        exact ih (x4 + (gI μ (q0 + 10) 0)) (x5 + 1)

def f_X9_narrow_L15 (F : Nat) (μ : Mem) (q0 : Nat) (x1 : Int32) (k : Int32 → Int32 → Option (Int32)) : Nat → Int32 → Int32 → Option (Int32)
  | 0, _, _ => none
  | n + 1, x2, x3 => (if x3 < (1 <<< ((gI μ (q0 + 7) 0) &&& 31)) then f_X9_narrow_L33 F μ q0 x1 x2 x3 (fun x4_7 x5_8 => if ix x1 16 = true then (if (gI μ (q0 + 6) x1.toNatClampNeg) < x4_7 then f_X9_narrow_L15 F μ q0 x1 k n x2 (x3 + 1) else (if x2 = (-9) then f_X9_narrow_L15 F μ q0 x1 k n x3 (x3 + 1) else (f_X9_manyOf F μ x3).bind (fun v_9 => (f_X9_manyOf F μ x2).bind (fun v_12 => (if v_9 < v_12 then f_X9_narrow_L15 F μ q0 x1 k n x3 (x3 + 1) else f_X9_narrow_L15 F μ q0 x1 k n x2 (x3 + 1)))))) else none) F 0 0 else k x2 x3)
set_option maxRecDepth 100000 in
set_option maxHeartbeats 4000000 in
theorem c_X9_narrow_L15 (a0 : Nat) (F : Nat) (μ : Mem) (q0 : Nat) (x1 : Int32) (k : Int32 → Int32 → Option (Int32)) (hq0 : kd q0 = 9) (hk : ∀ (x2 : Int32) (x3 : Int32), Ex a0 RX9 cX9_narrow 6 (some .int) 2 none (fun v => (some (.int v), μ)) 120 [(2, .int x2)] [] μ (k x2 x3)) : ∀ (n : Nat) (x2 : Int32) (x3 : Int32), Ex a0 RX9 cX9_narrow 6 (some .int) 2 none (fun v => (some (.int v), μ)) 15 [(0, .ref (a0 + q0)), (1, .int x1), (2, .int x2), (3, .int x3)] [] μ (f_X9_narrow_L15 F μ q0 x1 k n x2 x3) := by
  intro n
  induction n with
  | zero => intro x2 x3; exact Ex_none
  | succ n ih =>
    intro x2 x3
    rw [f_X9_narrow_L15]
    refine Ex_iload_n dX9_narrow_15 rfl 3 rfl ?_
    refine Ex_iconst (v := 1) dX9_narrow_16 (by decide) ?_
    refine Ex_aload_n dX9_narrow_17 rfl 0 rfl ?_
    refine Ex_get (v := .ref (a0 + (q0 + 7))) fgX9_29 hq0 (by decide) rfl dX9_narrow_18 ?_
    refine Ex_iconst (v := 0) dX9_narrow_21 (by decide) ?_
    refine Ex_ialdC (j := 0) 2 (kn_9_7 hq0) (by decide) (by decide) (by decide) dX9_narrow_22 ?_
    refine Ex_ishl dX9_narrow_23 ?_
    refine Ex_icmp_ge (tgt := 120) dX9_narrow_24 (by decide) ?_ ?_
    · refine Ex_perm [2] rfl ?_
      exact hk x2 x3
    · refine Ex_iconst (v := 0) dX9_narrow_27 (by decide) ?_
      refine Ex_istore (L2 := [(4, .int 0), (0, .ref (a0 + q0)), (1, .int x1), (2, .int x2), (3, .int x3)]) dX9_narrow_28 (by decide) rfl ?_
      refine Ex_iconst (v := 0) dX9_narrow_30 (by decide) ?_
      refine Ex_istore (L2 := [(5, .int 0), (4, .int 0), (0, .ref (a0 + q0)), (1, .int x1), (2, .int x2), (3, .int x3)]) dX9_narrow_31 (by decide) rfl ?_
      refine Ex_perm [2, 3, 4, 5, 1, 0] rfl ?_
      refine c_X9_narrow_L33 a0 F μ q0 x1 x2 x3 _ hq0 (fun x4_7 x5_8 => ?_) F 0 0
      refine Ex_iload dX9_narrow_80 4 rfl ?_
      refine Ex_aload_n dX9_narrow_82 rfl 0 rfl ?_
      refine Ex_get (v := .ref (a0 + (q0 + 6))) fgX9_26 hq0 (by decide) rfl dX9_narrow_83 ?_
      refine Ex_iload_n dX9_narrow_86 rfl 1 rfl ?_
      refine Ex_iald 16 (kn_9_6 hq0) (by decide) dX9_narrow_87 ?_
      refine Ex_icmp_gt (tgt := 112) dX9_narrow_88 (by decide) ?_ ?_
      · refine Ex_iload_n dX9_narrow_112 rfl 2 rfl ?_
        refine Ex_istore_n (L2 := [(2, .int x2), (0, .ref (a0 + q0)), (1, .int x1), (3, .int x3), (4, .int x4_7)]) dX9_narrow_113 rfl (by decide) rfl ?_
        refine Ex_iinc (v := x3 + 1) (L2 := [(3, .int (x3 + 1)), (2, .int x2), (0, .ref (a0 + q0)), (1, .int x1), (4, .int x4_7)]) dX9_narrow_114 3 rfl rfl (by decide) rfl ?_
        refine Ex_goto (tgt := 15) dX9_narrow_117 (by decide) ?_
        refine Ex_perm [2, 3, 1, 0] rfl ?_
        exact ih x2 (x3 + 1)
      · refine Ex_iload_n dX9_narrow_91 rfl 2 rfl ?_
        refine Ex_bipush (v := (-9)) dX9_narrow_92 (by decide) ?_
        refine Ex_icmp_eq (tgt := 108) dX9_narrow_94 (by decide) ?_ ?_
        · refine Ex_iload_n dX9_narrow_108 rfl 3 rfl ?_
          refine Ex_goto (tgt := 113) dX9_narrow_109 (by decide) ?_
          refine Ex_istore_n (L2 := [(2, .int x3), (0, .ref (a0 + q0)), (1, .int x1), (3, .int x3), (4, .int x4_7)]) dX9_narrow_113 rfl (by decide) rfl ?_
          refine Ex_iinc (v := x3 + 1) (L2 := [(3, .int (x3 + 1)), (2, .int x3), (0, .ref (a0 + q0)), (1, .int x1), (4, .int x4_7)]) dX9_narrow_114 3 rfl rfl (by decide) rfl ?_
          refine Ex_goto (tgt := 15) dX9_narrow_117 (by decide) ?_
          refine Ex_perm [2, 3, 1, 0] rfl ?_
          exact ih x3 (x3 + 1)
        · refine Ex_iload_n dX9_narrow_97 rfl 3 rfl ?_
          refine Ex_callSR (n := 1) (dp2 := 0) [.int x3] cvX9_157 rfl (by decide) (by decide) (Nat.le_of_ble_eq_true rfl) rfl (fun v hv => c_X9_manyOf a0 F μ x3 hv) dX9_narrow_98 (fun v_9 hv_11 => ?_)
          refine Ex_iload_n dX9_narrow_101 rfl 2 rfl ?_
          refine Ex_callSR (n := 1) (dp2 := 0) [.int x2] cvX9_157 rfl (by decide) (by decide) (Nat.le_of_ble_eq_true rfl) rfl (fun v hv => c_X9_manyOf a0 F μ x2 hv) dX9_narrow_102 (fun v_12 hv_14 => ?_)
          refine Ex_icmp_ge (tgt := 112) dX9_narrow_105 (by decide) ?_ ?_
          · refine Ex_iload_n dX9_narrow_112 rfl 2 rfl ?_
            refine Ex_istore_n (L2 := [(2, .int x2), (0, .ref (a0 + q0)), (1, .int x1), (3, .int x3), (4, .int x4_7)]) dX9_narrow_113 rfl (by decide) rfl ?_
            refine Ex_iinc (v := x3 + 1) (L2 := [(3, .int (x3 + 1)), (2, .int x2), (0, .ref (a0 + q0)), (1, .int x1), (4, .int x4_7)]) dX9_narrow_114 3 rfl rfl (by decide) rfl ?_
            refine Ex_goto (tgt := 15) dX9_narrow_117 (by decide) ?_
            refine Ex_perm [2, 3, 1, 0] rfl ?_
            exact ih x2 (x3 + 1)
          · refine Ex_iload_n dX9_narrow_108 rfl 3 rfl ?_
            refine Ex_goto (tgt := 113) dX9_narrow_109 (by decide) ?_
            refine Ex_istore_n (L2 := [(2, .int x3), (0, .ref (a0 + q0)), (1, .int x1), (3, .int x3), (4, .int x4_7)]) dX9_narrow_113 rfl (by decide) rfl ?_
            refine Ex_iinc (v := x3 + 1) (L2 := [(3, .int (x3 + 1)), (2, .int x3), (0, .ref (a0 + q0)), (1, .int x1), (4, .int x4_7)]) dX9_narrow_114 3 rfl rfl (by decide) rfl ?_
            refine Ex_goto (tgt := 15) dX9_narrow_117 (by decide) ?_
            refine Ex_perm [2, 3, 1, 0] rfl ?_
            exact ih x3 (x3 + 1)
def f_X9_narrow (F : Nat) (μ : Mem) (t : Nat) (p1 : Int32) : Option (Int32) := (f_X9_isLane F μ t p1).bind (fun v_1 => (if v_1 = 0 then some (-1) else f_X9_narrow_L15 F μ t p1 (fun x2_15 x3_16 => some x2_15) F (-9) 0))
set_option maxRecDepth 100000 in
set_option maxHeartbeats 4000000 in
theorem c_X9_narrow (a0 F : Nat) (μ : Mem) (t : Nat) (p1 : Int32) (hk0 : kd t = 9) {v : Int32} (hr : f_X9_narrow F μ t p1 = some v) : Ct a0 yX9_narrow cX9_narrow 6 (some .int) 2 [.ref (a0 + t), .int p1] μ (some (.int v)) μ := by
  refine Ct_of (own := RX9) (ι := (fun v => (some (.int v), μ))) (o := f_X9_narrow F μ t p1) (by decide +kernel) rfl (Nat.le_of_ble_eq_true rfl) ?_ hr rfl ⟨_, rfl⟩
  show Ex a0 RX9 cX9_narrow 6 (some .int) 2 none (fun v => (some (.int v), μ)) 0 [(0, .ref (a0 + t)), (1, .int p1)] [] μ (f_X9_narrow F μ t p1)
  unfold f_X9_narrow
  refine Ex_aload_n dX9_narrow_0 rfl 0 rfl ?_
  refine Ex_iload_n dX9_narrow_1 rfl 1 rfl ?_
  refine Ex_callVR (n := 1) (dp2 := 1) [.int p1] cvX9_134 hk0 rfl rfl (by decide) (by decide) (Nat.le_of_ble_eq_true rfl) rfl (fun v hv => c_X9_isLane a0 F μ t p1 hk0 hv) dX9_narrow_2 (fun v_1 hv_3 => ?_)
  refine Ex_if_ne (tgt := 10) dX9_narrow_5 (by decide) ?_ ?_
  · refine Ex_bipush (v := (-9)) dX9_narrow_10 (by decide) ?_
    refine Ex_istore_n (L2 := [(2, .int (-9)), (0, .ref (a0 + t)), (1, .int p1)]) dX9_narrow_12 rfl (by decide) rfl ?_
    refine Ex_iconst (v := 0) dX9_narrow_13 (by decide) ?_
    refine Ex_istore_n (L2 := [(3, .int 0), (2, .int (-9)), (0, .ref (a0 + t)), (1, .int p1)]) dX9_narrow_14 rfl (by decide) rfl ?_
    refine Ex_perm [2, 3, 1, 0] rfl ?_
    refine c_X9_narrow_L15 a0 F μ t p1 _ hk0 (fun x2_15 x3_16 => ?_) F (-9) 0
    refine Ex_iload_n dX9_narrow_120 rfl 0 rfl ?_
    exact Ex_iret dX9_narrow_121 rfl (fun ty h => by cases h; rfl)
  · refine Ex_iconst (v := (-1)) dX9_narrow_8 (by decide) ?_
    exact Ex_iret dX9_narrow_9 rfl (fun ty h => by cases h; rfl)

def f_X9_now_L42 (F : Nat) (μ : Mem) (q0 : Nat) (k : Int32 → Int32 → Option (Int32)) : Nat → Int32 → Int32 → Option (Int32)
  | 0, _, _ => none
  | n + 1, x2, x3 => (if x3 < (gI μ (q0 + 7) 0) then if ix (10 + x3) 531 = true then lt (x2 + (gI μ (q0 + 12) ((10 + x3).toNatClampNeg))) (fun x2_3 => f_X9_now_L42 F μ q0 k n x2_3 (x3 + 1)) else none else k x2 x3)
set_option maxRecDepth 100000 in
set_option maxHeartbeats 4000000 in
theorem c_X9_now_L42 (a0 : Nat) (F : Nat) (μ : Mem) (q0 : Nat) (k : Int32 → Int32 → Option (Int32)) (hq0 : kd q0 = 9) (hk : ∀ (x2 : Int32) (x3 : Int32), Ex a0 RX9 cX9_now 4 (some .int) 2 none (fun v => (some (.int v), μ)) 70 [(2, .int x2)] [] μ (k x2 x3)) : ∀ (n : Nat) (x2 : Int32) (x3 : Int32), Ex a0 RX9 cX9_now 4 (some .int) 2 none (fun v => (some (.int v), μ)) 42 [(0, .ref (a0 + q0)), (2, .int x2), (3, .int x3)] [] μ (f_X9_now_L42 F μ q0 k n x2 x3) := by
  intro n
  induction n with
  | zero => intro x2 x3; exact Ex_none
  | succ n ih =>
    intro x2 x3
    rw [f_X9_now_L42]
    refine Ex_iload_n dX9_now_42 rfl 2 rfl ?_
    refine Ex_aload_n dX9_now_43 rfl 0 rfl ?_
    refine Ex_get (v := .ref (a0 + (q0 + 7))) fgX9_29 hq0 (by decide) rfl dX9_now_44 ?_
    refine Ex_iconst (v := 0) dX9_now_47 (by decide) ?_
    refine Ex_ialdC (j := 0) 2 (kn_9_7 hq0) (by decide) (by decide) (by decide) dX9_now_48 ?_
    refine Ex_icmp_ge (tgt := 70) dX9_now_49 (by decide) ?_ ?_
    · refine Ex_perm [1] rfl ?_
      exact hk x2 x3
    · refine Ex_iload_n dX9_now_52 rfl 1 rfl ?_
      refine Ex_aload_n dX9_now_53 rfl 0 rfl ?_
      refine Ex_get (v := .ref (a0 + (q0 + 12))) fgX9_44 hq0 (by decide) rfl dX9_now_54 ?_
      refine Ex_bipush (v := 10) dX9_now_57 (by decide) ?_
      refine Ex_iload_n dX9_now_59 rfl 2 rfl ?_
      refine Ex_iadd dX9_now_60 ?_
      refine Ex_iald 531 (kn_9_12 hq0) (by decide) dX9_now_61 ?_
      refine Ex_iadd dX9_now_62 ?_
      refine Ex_top (fun x2_3 => ?_)
      refine Ex_istore_n (L2 := [(2, .int x2_3), (0, .ref (a0 + q0)), (3, .int x3)]) dX9_now_63 rfl (by decide) rfl ?_
      refine Ex_iinc (v := x3 + 1) (L2 := [(3, .int (x3 + 1)), (2, .int x2_3), (0, .ref (a0 + q0))]) dX9_now_64 2 rfl rfl (by decide) rfl ?_
      refine Ex_goto (tgt := 42) dX9_now_67 (by decide) ?_
      refine Ex_perm [2, 1, 0] rfl ?_
      exact ih x2_3 (x3 + 1)

def f_X9_now_L74 (F : Nat) (μ : Mem) (q0 : Nat) (k : Int32 → Int32 → Option (Int32)) : Nat → Int32 → Int32 → Option (Int32)
  | 0, _, _ => none
  | n + 1, x2, x3 => (if x3 < (gI μ (q0 + 7) 0) then if ix (5 + x3) 531 = true then lt (x2 + (gI μ (q0 + 12) ((5 + x3).toNatClampNeg))) (fun x2_7 => f_X9_now_L74 F μ q0 k n x2_7 (x3 + 1)) else none else k x2 x3)
set_option maxRecDepth 100000 in
set_option maxHeartbeats 4000000 in
theorem c_X9_now_L74 (a0 : Nat) (F : Nat) (μ : Mem) (q0 : Nat) (k : Int32 → Int32 → Option (Int32)) (hq0 : kd q0 = 9) (hk : ∀ (x2 : Int32) (x3 : Int32), Ex a0 RX9 cX9_now 4 (some .int) 2 none (fun v => (some (.int v), μ)) 101 [(2, .int x2)] [] μ (k x2 x3)) : ∀ (n : Nat) (x2 : Int32) (x3 : Int32), Ex a0 RX9 cX9_now 4 (some .int) 2 none (fun v => (some (.int v), μ)) 74 [(0, .ref (a0 + q0)), (2, .int x2), (3, .int x3)] [] μ (f_X9_now_L74 F μ q0 k n x2 x3) := by
  intro n
  induction n with
  | zero => intro x2 x3; exact Ex_none
  | succ n ih =>
    intro x2 x3
    rw [f_X9_now_L74]
    refine Ex_iload_n dX9_now_74 rfl 2 rfl ?_
    refine Ex_aload_n dX9_now_75 rfl 0 rfl ?_
    refine Ex_get (v := .ref (a0 + (q0 + 7))) fgX9_29 hq0 (by decide) rfl dX9_now_76 ?_
    refine Ex_iconst (v := 0) dX9_now_79 (by decide) ?_
    refine Ex_ialdC (j := 0) 2 (kn_9_7 hq0) (by decide) (by decide) (by decide) dX9_now_80 ?_
    refine Ex_icmp_ge (tgt := 101) dX9_now_81 (by decide) ?_ ?_
    · refine Ex_perm [1] rfl ?_
      exact hk x2 x3
    · refine Ex_iload_n dX9_now_84 rfl 1 rfl ?_
      refine Ex_aload_n dX9_now_85 rfl 0 rfl ?_
      refine Ex_get (v := .ref (a0 + (q0 + 12))) fgX9_44 hq0 (by decide) rfl dX9_now_86 ?_
      refine Ex_iconst (v := 5) dX9_now_89 (by decide) ?_
      refine Ex_iload_n dX9_now_90 rfl 2 rfl ?_
      refine Ex_iadd dX9_now_91 ?_
      refine Ex_iald 531 (kn_9_12 hq0) (by decide) dX9_now_92 ?_
      refine Ex_iadd dX9_now_93 ?_
      refine Ex_top (fun x2_7 => ?_)
      refine Ex_istore_n (L2 := [(2, .int x2_7), (0, .ref (a0 + q0)), (3, .int x3)]) dX9_now_94 rfl (by decide) rfl ?_
      refine Ex_iinc (v := x3 + 1) (L2 := [(3, .int (x3 + 1)), (2, .int x2_7), (0, .ref (a0 + q0))]) dX9_now_95 2 rfl rfl (by decide) rfl ?_
      refine Ex_goto (tgt := 74) dX9_now_98 (by decide) ?_
      refine Ex_perm [2, 1, 0] rfl ?_
      exact ih x2_7 (x3 + 1)

def f_X9_now_L105 (F : Nat) (μ : Mem) (q0 : Nat) (k : Int32 → Int32 → Option (Int32)) : Nat → Int32 → Int32 → Option (Int32)
  | 0, _, _ => none
  | n + 1, x2, x3 => (if x3 < (gI μ (q0 + 7) 0) then (f_X9_fitsOf F μ q0 x3).bind (fun v_11 => if ix (5 + x3) 531 = true then (if ((v_11 >>> ((gI μ (q0 + 12) ((5 + x3).toNatClampNeg)) &&& 31)) &&& 1) = 0 then f_X9_now_L105 F μ q0 k n (x2 ||| (1 <<< (x3 &&& 31))) (x3 + 1) else f_X9_now_L105 F μ q0 k n (x2 ||| 0) (x3 + 1)) else none) else k x2 x3)
set_option maxRecDepth 100000 in
set_option maxHeartbeats 4000000 in
theorem c_X9_now_L105 (a0 : Nat) (F : Nat) (μ : Mem) (q0 : Nat) (k : Int32 → Int32 → Option (Int32)) (hq0 : kd q0 = 9) (hk : ∀ (x2 : Int32) (x3 : Int32), Ex a0 RX9 cX9_now 4 (some .int) 2 none (fun v => (some (.int v), μ)) 150 [(2, .int x2)] [] μ (k x2 x3)) : ∀ (n : Nat) (x2 : Int32) (x3 : Int32), Ex a0 RX9 cX9_now 4 (some .int) 2 none (fun v => (some (.int v), μ)) 105 [(0, .ref (a0 + q0)), (2, .int x2), (3, .int x3)] [] μ (f_X9_now_L105 F μ q0 k n x2 x3) := by
  intro n
  induction n with
  | zero => intro x2 x3; exact Ex_none
  | succ n ih =>
    intro x2 x3
    rw [f_X9_now_L105]
    refine Ex_iload_n dX9_now_105 rfl 2 rfl ?_
    refine Ex_aload_n dX9_now_106 rfl 0 rfl ?_
    refine Ex_get (v := .ref (a0 + (q0 + 7))) fgX9_29 hq0 (by decide) rfl dX9_now_107 ?_
    refine Ex_iconst (v := 0) dX9_now_110 (by decide) ?_
    refine Ex_ialdC (j := 0) 2 (kn_9_7 hq0) (by decide) (by decide) (by decide) dX9_now_111 ?_
    refine Ex_icmp_ge (tgt := 150) dX9_now_112 (by decide) ?_ ?_
    · refine Ex_perm [1] rfl ?_
      exact hk x2 x3
    · refine Ex_iload_n dX9_now_115 rfl 1 rfl ?_
      refine Ex_aload_n dX9_now_116 rfl 0 rfl ?_
      refine Ex_iload_n dX9_now_117 rfl 2 rfl ?_
      refine Ex_callVR (n := 1) (dp2 := 1) [.int x3] cvX9_160 hq0 rfl rfl (by decide) (by decide) (Nat.le_of_ble_eq_true rfl) rfl (fun v hv => c_X9_fitsOf a0 F μ q0 x3 hq0 hv) dX9_now_118 (fun v_11 hv_13 => ?_)
      refine Ex_aload_n dX9_now_121 rfl 0 rfl ?_
      refine Ex_get (v := .ref (a0 + (q0 + 12))) fgX9_44 hq0 (by decide) rfl dX9_now_122 ?_
      refine Ex_iconst (v := 5) dX9_now_125 (by decide) ?_
      refine Ex_iload_n dX9_now_126 rfl 2 rfl ?_
      refine Ex_iadd dX9_now_127 ?_
      refine Ex_iald 531 (kn_9_12 hq0) (by decide) dX9_now_128 ?_
      refine Ex_ishr dX9_now_129 ?_
      refine Ex_iconst (v := 1) dX9_now_130 (by decide) ?_
      refine Ex_iand dX9_now_131 ?_
      refine Ex_if_ne (tgt := 141) dX9_now_132 (by decide) ?_ ?_
      · refine Ex_iconst (v := 0) dX9_now_141 (by decide) ?_
        refine Ex_ior dX9_now_142 ?_
        refine Ex_istore_n (L2 := [(2, .int (x2 ||| 0)), (0, .ref (a0 + q0)), (3, .int x3)]) dX9_now_143 rfl (by decide) rfl ?_
        refine Ex_iinc (v := x3 + 1) (L2 := [(3, .int (x3 + 1)), (2, .int (x2 ||| 0)), (0, .ref (a0 + q0))]) dX9_now_144 2 rfl rfl (by decide) rfl ?_
        refine Ex_goto (tgt := 105) dX9_now_147 (by decide) ?_
        refine Ex_perm [2, 1, 0] rfl ?_
        exact ih (x2 ||| 0) (x3 + 1)
      · refine Ex_iconst (v := 1) dX9_now_135 (by decide) ?_
        refine Ex_iload_n dX9_now_136 rfl 2 rfl ?_
        refine Ex_ishl dX9_now_137 ?_
        refine Ex_goto (tgt := 142) dX9_now_138 (by decide) ?_
        refine Ex_ior dX9_now_142 ?_
        refine Ex_istore_n (L2 := [(2, .int (x2 ||| (1 <<< (x3 &&& 31)))), (0, .ref (a0 + q0)), (3, .int x3)]) dX9_now_143 rfl (by decide) rfl ?_
        refine Ex_iinc (v := x3 + 1) (L2 := [(3, .int (x3 + 1)), (2, .int (x2 ||| (1 <<< (x3 &&& 31)))), (0, .ref (a0 + q0))]) dX9_now_144 2 rfl rfl (by decide) rfl ?_
        refine Ex_goto (tgt := 105) dX9_now_147 (by decide) ?_
        refine Ex_perm [2, 1, 0] rfl ?_
        exact ih (x2 ||| (1 <<< (x3 &&& 31))) (x3 + 1)
def f_X9_now (F : Nat) (μ : Mem) (t : Nat) (p1 : Int32) : Option (Int32) := (if p1 = 0 then some (gI μ (t + 12) 15) else (if p1 = 1 then f_X9_now_L42 F μ t (fun x2_4 x3_5 => some x2_4) F 0 0 else (if p1 = 2 then f_X9_now_L74 F μ t (fun x2_8 x3_9 => some x2_8) F 0 0 else (if p1 = 3 then f_X9_now_L105 F μ t (fun x2_14 x3_15 => some x2_14) F 0 0 else some (-1)))))
set_option maxRecDepth 100000 in
set_option maxHeartbeats 4000000 in
theorem c_X9_now (a0 F : Nat) (μ : Mem) (t : Nat) (p1 : Int32) (hk0 : kd t = 9) {v : Int32} (hr : f_X9_now F μ t p1 = some v) : Ct a0 yX9_now cX9_now 4 (some .int) 2 [.ref (a0 + t), .int p1] μ (some (.int v)) μ := by
  refine Ct_of (own := RX9) (ι := (fun v => (some (.int v), μ))) (o := f_X9_now F μ t p1) (by decide +kernel) rfl (Nat.le_of_ble_eq_true rfl) ?_ hr rfl ⟨_, rfl⟩
  show Ex a0 RX9 cX9_now 4 (some .int) 2 none (fun v => (some (.int v), μ)) 0 [(0, .ref (a0 + t)), (1, .int p1)] [] μ (f_X9_now F μ t p1)
  unfold f_X9_now
  refine Ex_iconst (v := 0) dX9_now_0 (by decide) ?_
  refine Ex_istore_n (L2 := [(2, .int 0), (0, .ref (a0 + t)), (1, .int p1)]) dX9_now_1 rfl (by decide) rfl ?_
  refine Ex_iload_n dX9_now_2 rfl 2 rfl ?_
  refine Ex_if (p1 = 0) (fun hc_1 => ?_) (fun hc_1 => ?_)
  · refine Ex_tblC (tgt := 32) dX9_now_3 (i := 0) (by rw [hc_1]; rfl) (by decide) (by decide) (off := 29) rfl (by decide) ?_
    refine Ex_aload_n dX9_now_32 rfl 1 rfl ?_
    refine Ex_get (v := .ref (a0 + (t + 12))) fgX9_44 hk0 (by decide) rfl dX9_now_33 ?_
    refine Ex_bipush (v := 15) dX9_now_36 (by decide) ?_
    refine Ex_ialdC (j := 15) 531 (kn_9_12 hk0) (by decide) (by decide) (by decide) dX9_now_38 ?_
    exact Ex_iret dX9_now_39 rfl (fun ty h => by cases h; rfl)
  · refine Ex_if (p1 = 1) (fun hc_2 => ?_) (fun hc_2 => ?_)
    · refine Ex_tblC (tgt := 40) dX9_now_3 (i := 1) (by rw [hc_2]; rfl) (by decide) (by decide) (off := 37) rfl (by decide) ?_
      refine Ex_iconst (v := 0) dX9_now_40 (by decide) ?_
      refine Ex_istore_n (L2 := [(3, .int 0), (2, .int 0), (0, .ref (a0 + t)), (1, .int p1)]) dX9_now_41 rfl (by decide) rfl ?_
      refine Ex_perm [2, 1, 0] rfl ?_
      refine c_X9_now_L42 a0 F μ t _ hk0 (fun x2_4 x3_5 => ?_) F 0 0
      refine Ex_iload_n dX9_now_70 rfl 0 rfl ?_
      exact Ex_iret dX9_now_71 rfl (fun ty h => by cases h; rfl)
    · refine Ex_if (p1 = 2) (fun hc_6 => ?_) (fun hc_6 => ?_)
      · refine Ex_tblC (tgt := 72) dX9_now_3 (i := 2) (by rw [hc_6]; rfl) (by decide) (by decide) (off := 69) rfl (by decide) ?_
        refine Ex_iconst (v := 0) dX9_now_72 (by decide) ?_
        refine Ex_istore_n (L2 := [(3, .int 0), (2, .int 0), (0, .ref (a0 + t)), (1, .int p1)]) dX9_now_73 rfl (by decide) rfl ?_
        refine Ex_perm [2, 1, 0] rfl ?_
        refine c_X9_now_L74 a0 F μ t _ hk0 (fun x2_8 x3_9 => ?_) F 0 0
        refine Ex_iload_n dX9_now_101 rfl 0 rfl ?_
        exact Ex_iret dX9_now_102 rfl (fun ty h => by cases h; rfl)
      · refine Ex_if (p1 = 3) (fun hc_10 => ?_) (fun hc_10 => ?_)
        · refine Ex_tblC (tgt := 103) dX9_now_3 (i := 3) (by rw [hc_10]; rfl) (by decide) (by decide) (off := 100) rfl (by decide) ?_
          refine Ex_iconst (v := 0) dX9_now_103 (by decide) ?_
          refine Ex_istore_n (L2 := [(3, .int 0), (2, .int 0), (0, .ref (a0 + t)), (1, .int p1)]) dX9_now_104 rfl (by decide) rfl ?_
          refine Ex_perm [2, 1, 0] rfl ?_
          refine c_X9_now_L105 a0 F μ t _ hk0 (fun x2_14 x3_15 => ?_) F 0 0
          refine Ex_iload_n dX9_now_150 rfl 0 rfl ?_
          exact Ex_iret dX9_now_151 rfl (fun ty h => by cases h; rfl)
        · refine Ex_tblD (tgt := 152) dX9_now_3 (by have q0 := lv_neT hc_1 (show (0 : Int32).toInt = 0 from rfl); have q1 := lv_neT hc_2 (show (1 : Int32).toInt = 1 from rfl); have q2 := lv_neT hc_6 (show (2 : Int32).toInt = 2 from rfl); have q3 := lv_neT hc_10 (show (3 : Int32).toInt = 3 from rfl); omega) (by decide) ?_
          refine Ex_iconst (v := (-1)) dX9_now_152 (by decide) ?_
          exact Ex_iret dX9_now_153 rfl (fun ty h => by cases h; rfl)

def f_X9_odds_L47 (F : Nat) (μ : Mem) (q0 : Nat) (x1 : Int32) (x2 : Int32) (x3 : Int32) (x4 : Int32) (x5 : Int32) (k : Int32 → Int32 → Option (Int32)) : Nat → Int32 → Int32 → Option (Int32)
  | 0, _, _ => none
  | n + 1, x6, x7 => (if x7 < (gI μ (q0 + 3) 0) then (f_X9_isClosed F μ q0 x7).bind (fun v_13 => (if v_13 = 0 then f_X9_odds_L47 F μ q0 x1 x2 x3 x4 x5 k n (x6 * 10) (x7 + 1) else f_X9_odds_L47 F μ q0 x1 x2 x3 x4 x5 k n (x6 * 1) (x7 + 1))) else k x6 x7)
set_option maxRecDepth 100000 in
set_option maxHeartbeats 4000000 in
theorem c_X9_odds_L47 (a0 : Nat) (F : Nat) (μ : Mem) (q0 : Nat) (x1 : Int32) (x2 : Int32) (x3 : Int32) (x4 : Int32) (x5 : Int32) (k : Int32 → Int32 → Option (Int32)) (hq0 : kd q0 = 9) (hk : ∀ (x6 : Int32) (x7 : Int32), Ex a0 RX9 cX9_odds 10 (some .int) 4 none (fun v => (some (.int v), μ)) 84 [(0, .ref (a0 + q0)), (1, .int x1), (2, .int x2), (3, .int x3), (4, .int x4), (5, .int x5), (6, .int x6)] [] μ (k x6 x7)) : ∀ (n : Nat) (x6 : Int32) (x7 : Int32), Ex a0 RX9 cX9_odds 10 (some .int) 4 none (fun v => (some (.int v), μ)) 47 [(0, .ref (a0 + q0)), (1, .int x1), (2, .int x2), (3, .int x3), (4, .int x4), (5, .int x5), (6, .int x6), (7, .int x7)] [] μ (f_X9_odds_L47 F μ q0 x1 x2 x3 x4 x5 k n x6 x7) := by
  intro n
  induction n with
  | zero => intro x6 x7; exact Ex_none
  | succ n ih =>
    intro x6 x7
    rw [f_X9_odds_L47]
    refine Ex_iload dX9_odds_47 7 rfl ?_
    refine Ex_aload_n dX9_odds_49 rfl 0 rfl ?_
    refine Ex_get (v := .ref (a0 + (q0 + 3))) fgX9_17 hq0 (by decide) rfl dX9_odds_50 ?_
    refine Ex_iconst (v := 0) dX9_odds_53 (by decide) ?_
    refine Ex_ialdC (j := 0) 2 (kn_9_3 hq0) (by decide) (by decide) (by decide) dX9_odds_54 ?_
    refine Ex_icmp_ge (tgt := 84) dX9_odds_55 (by decide) ?_ ?_
    · refine Ex_perm [0, 1, 2, 3, 4, 5, 6] rfl ?_
      exact hk x6 x7
    · refine Ex_iload dX9_odds_58 6 rfl ?_
      refine Ex_aload_n dX9_odds_60 rfl 0 rfl ?_
      refine Ex_iload dX9_odds_61 7 rfl ?_
      refine Ex_callVR (n := 1) (dp2 := 0) [.int x7] cvX9_138 hq0 rfl rfl (by decide) (by decide) (Nat.le_of_ble_eq_true rfl) rfl (fun v hv => c_X9_isClosed a0 F μ q0 x7 hq0 hv) dX9_odds_63 (fun v_13 hv_15 => ?_)
      refine Ex_if_eq (tgt := 73) dX9_odds_66 (by decide) ?_ ?_
      · refine Ex_bipush (v := 10) dX9_odds_73 (by decide) ?_
        refine Ex_imul dX9_odds_75 ?_
        refine Ex_istore (L2 := [(6, .int (x6 * 10)), (0, .ref (a0 + q0)), (1, .int x1), (2, .int x2), (3, .int x3), (4, .int x4), (5, .int x5), (7, .int x7)]) dX9_odds_76 (by decide) rfl ?_
        refine Ex_iinc (v := x7 + 1) (L2 := [(7, .int (x7 + 1)), (6, .int (x6 * 10)), (0, .ref (a0 + q0)), (1, .int x1), (2, .int x2), (3, .int x3), (4, .int x4), (5, .int x5)]) dX9_odds_78 7 rfl rfl (by decide) rfl ?_
        refine Ex_goto (tgt := 47) dX9_odds_81 (by decide) ?_
        refine Ex_perm [2, 3, 4, 5, 6, 7, 1, 0] rfl ?_
        exact ih (x6 * 10) (x7 + 1)
      · refine Ex_iconst (v := 1) dX9_odds_69 (by decide) ?_
        refine Ex_goto (tgt := 75) dX9_odds_70 (by decide) ?_
        refine Ex_imul dX9_odds_75 ?_
        refine Ex_istore (L2 := [(6, .int (x6 * 1)), (0, .ref (a0 + q0)), (1, .int x1), (2, .int x2), (3, .int x3), (4, .int x4), (5, .int x5), (7, .int x7)]) dX9_odds_76 (by decide) rfl ?_
        refine Ex_iinc (v := x7 + 1) (L2 := [(7, .int (x7 + 1)), (6, .int (x6 * 1)), (0, .ref (a0 + q0)), (1, .int x1), (2, .int x2), (3, .int x3), (4, .int x4), (5, .int x5)]) dX9_odds_78 7 rfl rfl (by decide) rfl ?_
        refine Ex_goto (tgt := 47) dX9_odds_81 (by decide) ?_
        refine Ex_perm [2, 3, 4, 5, 6, 7, 1, 0] rfl ?_
        exact ih (x6 * 1) (x7 + 1)

def f_X9_odds_L123 (F : Nat) (μ : Mem) (q0 : Nat) (x1 : Int32) (x2 : Int32) (x3 : Int32) (x4 : Int32) (x5 : Int32) (x6 : Int32) (x7 : Int32) (k : Int32 → Int32 → Option (Int32)) : Nat → Int32 → Int32 → Option (Int32)
  | 0, _, _ => none
  | n + 1, x8, x9 => (if x9 < (gI μ (q0 + 3) 0) then (f_X9_isClosed F μ q0 x9).bind (fun v_18 => (if v_18 = 0 then (if ((x7 >>> (x9 &&& 31)) &&& 1) = 1 then f_X9_odds_L123 F μ q0 x1 x2 x3 x4 x5 x6 x7 k n (x8 * x3) (x9 + 1) else f_X9_odds_L123 F μ q0 x1 x2 x3 x4 x5 x6 x7 k n (x8 * (10 - x3)) (x9 + 1)) else f_X9_odds_L123 F μ q0 x1 x2 x3 x4 x5 x6 x7 k n (x8 * 1) (x9 + 1))) else k x8 x9)
set_option maxRecDepth 100000 in
set_option maxHeartbeats 4000000 in
theorem c_X9_odds_L123 (a0 : Nat) (F : Nat) (μ : Mem) (q0 : Nat) (x1 : Int32) (x2 : Int32) (x3 : Int32) (x4 : Int32) (x5 : Int32) (x6 : Int32) (x7 : Int32) (k : Int32 → Int32 → Option (Int32)) (hq0 : kd q0 = 9) (hk : ∀ (x8 : Int32) (x9 : Int32), Ex a0 RX9 cX9_odds 10 (some .int) 4 none (fun v => (some (.int v), μ)) 177 [(0, .ref (a0 + q0)), (1, .int x1), (2, .int x2), (3, .int x3), (4, .int x4), (5, .int x5), (6, .int x6), (7, .int x7), (8, .int x8)] [] μ (k x8 x9)) : ∀ (n : Nat) (x8 : Int32) (x9 : Int32), Ex a0 RX9 cX9_odds 10 (some .int) 4 none (fun v => (some (.int v), μ)) 123 [(0, .ref (a0 + q0)), (1, .int x1), (2, .int x2), (3, .int x3), (4, .int x4), (5, .int x5), (6, .int x6), (7, .int x7), (8, .int x8), (9, .int x9)] [] μ (f_X9_odds_L123 F μ q0 x1 x2 x3 x4 x5 x6 x7 k n x8 x9) := by
  intro n
  induction n with
  | zero => intro x8 x9; exact Ex_none
  | succ n ih =>
    intro x8 x9
    rw [f_X9_odds_L123]
    refine Ex_iload dX9_odds_123 9 rfl ?_
    refine Ex_aload_n dX9_odds_125 rfl 0 rfl ?_
    refine Ex_get (v := .ref (a0 + (q0 + 3))) fgX9_17 hq0 (by decide) rfl dX9_odds_126 ?_
    refine Ex_iconst (v := 0) dX9_odds_129 (by decide) ?_
    refine Ex_ialdC (j := 0) 2 (kn_9_3 hq0) (by decide) (by decide) (by decide) dX9_odds_130 ?_
    refine Ex_icmp_ge (tgt := 177) dX9_odds_131 (by decide) ?_ ?_
    · refine Ex_perm [0, 1, 2, 3, 4, 5, 6, 7, 8] rfl ?_
      exact hk x8 x9
    · refine Ex_iload dX9_odds_134 8 rfl ?_
      refine Ex_aload_n dX9_odds_136 rfl 0 rfl ?_
      refine Ex_iload dX9_odds_137 9 rfl ?_
      refine Ex_callVR (n := 1) (dp2 := 0) [.int x9] cvX9_138 hq0 rfl rfl (by decide) (by decide) (Nat.le_of_ble_eq_true rfl) rfl (fun v hv => c_X9_isClosed a0 F μ q0 x9 hq0 hv) dX9_odds_139 (fun v_18 hv_20 => ?_)
      refine Ex_if_eq (tgt := 149) dX9_odds_142 (by decide) ?_ ?_
      · refine Ex_iload dX9_odds_149 7 rfl ?_
        refine Ex_iload dX9_odds_151 9 rfl ?_
        refine Ex_ishr dX9_odds_153 ?_
        refine Ex_iconst (v := 1) dX9_odds_154 (by decide) ?_
        refine Ex_iand dX9_odds_155 ?_
        refine Ex_iconst (v := 1) dX9_odds_156 (by decide) ?_
        refine Ex_icmp_ne (tgt := 164) dX9_odds_157 (by decide) ?_ ?_
        · refine Ex_bipush (v := 10) dX9_odds_164 (by decide) ?_
          refine Ex_iload_n dX9_odds_166 rfl 3 rfl ?_
          refine Ex_isub dX9_odds_167 ?_
          refine Ex_imul dX9_odds_168 ?_
          refine Ex_istore (L2 := [(8, .int (x8 * (10 - x3))), (0, .ref (a0 + q0)), (1, .int x1), (2, .int x2), (3, .int x3), (4, .int x4), (5, .int x5), (6, .int x6), (7, .int x7), (9, .int x9)]) dX9_odds_169 (by decide) rfl ?_
          refine Ex_iinc (v := x9 + 1) (L2 := [(9, .int (x9 + 1)), (8, .int (x8 * (10 - x3))), (0, .ref (a0 + q0)), (1, .int x1), (2, .int x2), (3, .int x3), (4, .int x4), (5, .int x5), (6, .int x6), (7, .int x7)]) dX9_odds_171 9 rfl rfl (by decide) rfl ?_
          refine Ex_goto (tgt := 123) dX9_odds_174 (by decide) ?_
          refine Ex_perm [2, 3, 4, 5, 6, 7, 8, 9, 1, 0] rfl ?_
          exact ih (x8 * (10 - x3)) (x9 + 1)
        · refine Ex_iload_n dX9_odds_160 rfl 3 rfl ?_
          refine Ex_goto (tgt := 168) dX9_odds_161 (by decide) ?_
          refine Ex_imul dX9_odds_168 ?_
          refine Ex_istore (L2 := [(8, .int (x8 * x3)), (0, .ref (a0 + q0)), (1, .int x1), (2, .int x2), (3, .int x3), (4, .int x4), (5, .int x5), (6, .int x6), (7, .int x7), (9, .int x9)]) dX9_odds_169 (by decide) rfl ?_
          refine Ex_iinc (v := x9 + 1) (L2 := [(9, .int (x9 + 1)), (8, .int (x8 * x3)), (0, .ref (a0 + q0)), (1, .int x1), (2, .int x2), (3, .int x3), (4, .int x4), (5, .int x5), (6, .int x6), (7, .int x7)]) dX9_odds_171 9 rfl rfl (by decide) rfl ?_
          refine Ex_goto (tgt := 123) dX9_odds_174 (by decide) ?_
          refine Ex_perm [2, 3, 4, 5, 6, 7, 8, 9, 1, 0] rfl ?_
          exact ih (x8 * x3) (x9 + 1)
      · refine Ex_iconst (v := 1) dX9_odds_145 (by decide) ?_
        refine Ex_goto (tgt := 168) dX9_odds_146 (by decide) ?_
        refine Ex_imul dX9_odds_168 ?_
        refine Ex_istore (L2 := [(8, .int (x8 * 1)), (0, .ref (a0 + q0)), (1, .int x1), (2, .int x2), (3, .int x3), (4, .int x4), (5, .int x5), (6, .int x6), (7, .int x7), (9, .int x9)]) dX9_odds_169 (by decide) rfl ?_
        refine Ex_iinc (v := x9 + 1) (L2 := [(9, .int (x9 + 1)), (8, .int (x8 * 1)), (0, .ref (a0 + q0)), (1, .int x1), (2, .int x2), (3, .int x3), (4, .int x4), (5, .int x5), (6, .int x6), (7, .int x7)]) dX9_odds_171 9 rfl rfl (by decide) rfl ?_
        refine Ex_goto (tgt := 123) dX9_odds_174 (by decide) ?_
        refine Ex_perm [2, 3, 4, 5, 6, 7, 8, 9, 1, 0] rfl ?_
        exact ih (x8 * 1) (x9 + 1)

def f_X9_odds_L87 (F : Nat) (μ : Mem) (q0 : Nat) (x1 : Int32) (x2 : Int32) (x3 : Int32) (x4 : Int32) (x6 : Int32) (k : Int32 → Int32 → Option (Int32)) : Nat → Int32 → Int32 → Option (Int32)
  | 0, _, _ => none
  | n + 1, x5, x7 => (if x7 < (1 <<< ((gI μ (q0 + 3) 0) &&& 31)) then (if (x7 &&& (gI μ (q0 + 12) 15)) = 0 then f_X9_odds_L123 F μ q0 x1 x2 x3 x4 x5 x6 x7 (fun x8_26 x9_27 => (if 0 < x8_26 then (f_X9_reaches F μ q0 x1 x2 ((gI μ (q0 + 12) 15) ||| x7)).bind (fun v_28 => (if v_28 = 0 then f_X9_odds_L87 F μ q0 x1 x2 x3 x4 x6 k n (x5 + 0) (x7 + 1) else f_X9_odds_L87 F μ q0 x1 x2 x3 x4 x6 k n (x5 + x8_26) (x7 + 1))) else f_X9_odds_L87 F μ q0 x1 x2 x3 x4 x6 k n (x5 + 0) (x7 + 1))) F 1 0 else f_X9_odds_L123 F μ q0 x1 x2 x3 x4 x5 x6 x7 (fun x8_21 x9_22 => (if 0 < x8_21 then (f_X9_reaches F μ q0 x1 x2 ((gI μ (q0 + 12) 15) ||| x7)).bind (fun v_23 => (if v_23 = 0 then f_X9_odds_L87 F μ q0 x1 x2 x3 x4 x6 k n (x5 + 0) (x7 + 1) else f_X9_odds_L87 F μ q0 x1 x2 x3 x4 x6 k n (x5 + x8_21) (x7 + 1))) else f_X9_odds_L87 F μ q0 x1 x2 x3 x4 x6 k n (x5 + 0) (x7 + 1))) F 0 0) else k x5 x7)
set_option maxRecDepth 100000 in
set_option maxHeartbeats 4000000 in
theorem c_X9_odds_L87 (a0 : Nat) (F : Nat) (μ : Mem) (q0 : Nat) (x1 : Int32) (x2 : Int32) (x3 : Int32) (x4 : Int32) (x6 : Int32) (k : Int32 → Int32 → Option (Int32)) (hq0 : kd q0 = 9) (hk : ∀ (x5 : Int32) (x7 : Int32), Ex a0 RX9 cX9_odds 10 (some .int) 4 none (fun v => (some (.int v), μ)) 218 [(4, .int x4), (5, .int x5), (6, .int x6)] [] μ (k x5 x7)) : ∀ (n : Nat) (x5 : Int32) (x7 : Int32), Ex a0 RX9 cX9_odds 10 (some .int) 4 none (fun v => (some (.int v), μ)) 87 [(0, .ref (a0 + q0)), (1, .int x1), (2, .int x2), (3, .int x3), (4, .int x4), (5, .int x5), (6, .int x6), (7, .int x7)] [] μ (f_X9_odds_L87 F μ q0 x1 x2 x3 x4 x6 k n x5 x7) := by
  intro n
  induction n with
  | zero => intro x5 x7; exact Ex_none
  | succ n ih =>
    intro x5 x7
    rw [f_X9_odds_L87]
    refine Ex_iload dX9_odds_87 7 rfl ?_
    refine Ex_iconst (v := 1) dX9_odds_89 (by decide) ?_
    refine Ex_aload_n dX9_odds_90 rfl 0 rfl ?_
    refine Ex_get (v := .ref (a0 + (q0 + 3))) fgX9_17 hq0 (by decide) rfl dX9_odds_91 ?_
    refine Ex_iconst (v := 0) dX9_odds_94 (by decide) ?_
    refine Ex_ialdC (j := 0) 2 (kn_9_3 hq0) (by decide) (by decide) (by decide) dX9_odds_95 ?_
    refine Ex_ishl dX9_odds_96 ?_
    refine Ex_icmp_ge (tgt := 218) dX9_odds_97 (by decide) ?_ ?_
    · refine Ex_perm [4, 5, 6] rfl ?_
      exact hk x5 x7
    · refine Ex_iload dX9_odds_100 7 rfl ?_
      refine Ex_aload_n dX9_odds_102 rfl 0 rfl ?_
      refine Ex_get (v := .ref (a0 + (q0 + 12))) fgX9_44 hq0 (by decide) rfl dX9_odds_103 ?_
      refine Ex_bipush (v := 15) dX9_odds_106 (by decide) ?_
      refine Ex_ialdC (j := 15) 531 (kn_9_12 hq0) (by decide) (by decide) (by decide) dX9_odds_108 ?_
      refine Ex_iand dX9_odds_109 ?_
      refine Ex_if_ne (tgt := 117) dX9_odds_110 (by decide) ?_ ?_
      · refine Ex_iconst (v := 0) dX9_odds_117 (by decide) ?_
        refine Ex_istore (L2 := [(8, .int 0), (0, .ref (a0 + q0)), (1, .int x1), (2, .int x2), (3, .int x3), (4, .int x4), (5, .int x5), (6, .int x6), (7, .int x7)]) dX9_odds_118 (by decide) rfl ?_
        refine Ex_iconst (v := 0) dX9_odds_120 (by decide) ?_
        refine Ex_istore (L2 := [(9, .int 0), (8, .int 0), (0, .ref (a0 + q0)), (1, .int x1), (2, .int x2), (3, .int x3), (4, .int x4), (5, .int x5), (6, .int x6), (7, .int x7)]) dX9_odds_121 (by decide) rfl ?_
        refine Ex_perm [2, 3, 4, 5, 6, 7, 8, 9, 1, 0] rfl ?_
        refine c_X9_odds_L123 a0 F μ q0 x1 x2 x3 x4 x5 x6 x7 _ hq0 (fun x8_21 x9_22 => ?_) F 0 0
        refine Ex_iload dX9_odds_177 5 rfl ?_
        refine Ex_iload dX9_odds_179 8 rfl ?_
        refine Ex_if_le (tgt := 208) dX9_odds_181 (by decide) ?_ ?_
        · refine Ex_iconst (v := 0) dX9_odds_208 (by decide) ?_
          refine Ex_iadd dX9_odds_209 ?_
          refine Ex_istore (L2 := [(5, .int (x5 + 0)), (0, .ref (a0 + q0)), (1, .int x1), (2, .int x2), (3, .int x3), (4, .int x4), (6, .int x6), (7, .int x7), (8, .int x8_21)]) dX9_odds_210 (by decide) rfl ?_
          refine Ex_iinc (v := x7 + 1) (L2 := [(7, .int (x7 + 1)), (5, .int (x5 + 0)), (0, .ref (a0 + q0)), (1, .int x1), (2, .int x2), (3, .int x3), (4, .int x4), (6, .int x6), (8, .int x8_21)]) dX9_odds_212 7 rfl rfl (by decide) rfl ?_
          refine Ex_goto (tgt := 87) dX9_odds_215 (by decide) ?_
          refine Ex_perm [2, 3, 4, 5, 6, 1, 7, 0] rfl ?_
          exact ih (x5 + 0) (x7 + 1)
        · refine Ex_aload_n dX9_odds_184 rfl 0 rfl ?_
          refine Ex_iload_n dX9_odds_185 rfl 1 rfl ?_
          refine Ex_iload_n dX9_odds_186 rfl 2 rfl ?_
          refine Ex_aload_n dX9_odds_187 rfl 0 rfl ?_
          refine Ex_get (v := .ref (a0 + (q0 + 12))) fgX9_44 hq0 (by decide) rfl dX9_odds_188 ?_
          refine Ex_bipush (v := 15) dX9_odds_191 (by decide) ?_
          refine Ex_ialdC (j := 15) 531 (kn_9_12 hq0) (by decide) (by decide) (by decide) dX9_odds_193 ?_
          refine Ex_iload dX9_odds_194 7 rfl ?_
          refine Ex_ior dX9_odds_196 ?_
          refine Ex_callVR (n := 3) (dp2 := 3) [.int x1, .int x2, .int ((gI μ (q0 + 12) 15) ||| x7)] cvX9_175 hq0 rfl rfl (by decide) (by decide) (Nat.le_of_ble_eq_true rfl) rfl (fun v hv => c_X9_reaches a0 F μ q0 x1 x2 ((gI μ (q0 + 12) 15) ||| x7) hq0 hv) dX9_odds_197 (fun v_23 hv_25 => ?_)
          refine Ex_if_eq (tgt := 208) dX9_odds_200 (by decide) ?_ ?_
          · refine Ex_iconst (v := 0) dX9_odds_208 (by decide) ?_
            refine Ex_iadd dX9_odds_209 ?_
            refine Ex_istore (L2 := [(5, .int (x5 + 0)), (0, .ref (a0 + q0)), (1, .int x1), (2, .int x2), (3, .int x3), (4, .int x4), (6, .int x6), (7, .int x7), (8, .int x8_21)]) dX9_odds_210 (by decide) rfl ?_
            refine Ex_iinc (v := x7 + 1) (L2 := [(7, .int (x7 + 1)), (5, .int (x5 + 0)), (0, .ref (a0 + q0)), (1, .int x1), (2, .int x2), (3, .int x3), (4, .int x4), (6, .int x6), (8, .int x8_21)]) dX9_odds_212 7 rfl rfl (by decide) rfl ?_
            refine Ex_goto (tgt := 87) dX9_odds_215 (by decide) ?_
            refine Ex_perm [2, 3, 4, 5, 6, 1, 7, 0] rfl ?_
            exact ih (x5 + 0) (x7 + 1)
          · refine Ex_iload dX9_odds_203 8 rfl ?_
            refine Ex_goto (tgt := 209) dX9_odds_205 (by decide) ?_
            refine Ex_iadd dX9_odds_209 ?_
            refine Ex_istore (L2 := [(5, .int (x5 + x8_21)), (0, .ref (a0 + q0)), (1, .int x1), (2, .int x2), (3, .int x3), (4, .int x4), (6, .int x6), (7, .int x7), (8, .int x8_21)]) dX9_odds_210 (by decide) rfl ?_
            refine Ex_iinc (v := x7 + 1) (L2 := [(7, .int (x7 + 1)), (5, .int (x5 + x8_21)), (0, .ref (a0 + q0)), (1, .int x1), (2, .int x2), (3, .int x3), (4, .int x4), (6, .int x6), (8, .int x8_21)]) dX9_odds_212 7 rfl rfl (by decide) rfl ?_
            refine Ex_goto (tgt := 87) dX9_odds_215 (by decide) ?_
            refine Ex_perm [2, 3, 4, 5, 6, 1, 7, 0] rfl ?_
            exact ih (x5 + x8_21) (x7 + 1)
      · refine Ex_iconst (v := 1) dX9_odds_113 (by decide) ?_
        refine Ex_goto (tgt := 118) dX9_odds_114 (by decide) ?_
        refine Ex_istore (L2 := [(8, .int 1), (0, .ref (a0 + q0)), (1, .int x1), (2, .int x2), (3, .int x3), (4, .int x4), (5, .int x5), (6, .int x6), (7, .int x7)]) dX9_odds_118 (by decide) rfl ?_
        refine Ex_iconst (v := 0) dX9_odds_120 (by decide) ?_
        refine Ex_istore (L2 := [(9, .int 0), (8, .int 1), (0, .ref (a0 + q0)), (1, .int x1), (2, .int x2), (3, .int x3), (4, .int x4), (5, .int x5), (6, .int x6), (7, .int x7)]) dX9_odds_121 (by decide) rfl ?_
        refine Ex_perm [2, 3, 4, 5, 6, 7, 8, 9, 1, 0] rfl ?_
        refine c_X9_odds_L123 a0 F μ q0 x1 x2 x3 x4 x5 x6 x7 _ hq0 (fun x8_26 x9_27 => ?_) F 1 0
        refine Ex_iload dX9_odds_177 5 rfl ?_
        refine Ex_iload dX9_odds_179 8 rfl ?_
        refine Ex_if_le (tgt := 208) dX9_odds_181 (by decide) ?_ ?_
        · refine Ex_iconst (v := 0) dX9_odds_208 (by decide) ?_
          refine Ex_iadd dX9_odds_209 ?_
          refine Ex_istore (L2 := [(5, .int (x5 + 0)), (0, .ref (a0 + q0)), (1, .int x1), (2, .int x2), (3, .int x3), (4, .int x4), (6, .int x6), (7, .int x7), (8, .int x8_26)]) dX9_odds_210 (by decide) rfl ?_
          refine Ex_iinc (v := x7 + 1) (L2 := [(7, .int (x7 + 1)), (5, .int (x5 + 0)), (0, .ref (a0 + q0)), (1, .int x1), (2, .int x2), (3, .int x3), (4, .int x4), (6, .int x6), (8, .int x8_26)]) dX9_odds_212 7 rfl rfl (by decide) rfl ?_
          refine Ex_goto (tgt := 87) dX9_odds_215 (by decide) ?_
          refine Ex_perm [2, 3, 4, 5, 6, 1, 7, 0] rfl ?_
          exact ih (x5 + 0) (x7 + 1)
        · refine Ex_aload_n dX9_odds_184 rfl 0 rfl ?_
          refine Ex_iload_n dX9_odds_185 rfl 1 rfl ?_
          refine Ex_iload_n dX9_odds_186 rfl 2 rfl ?_
          refine Ex_aload_n dX9_odds_187 rfl 0 rfl ?_
          refine Ex_get (v := .ref (a0 + (q0 + 12))) fgX9_44 hq0 (by decide) rfl dX9_odds_188 ?_
          refine Ex_bipush (v := 15) dX9_odds_191 (by decide) ?_
          refine Ex_ialdC (j := 15) 531 (kn_9_12 hq0) (by decide) (by decide) (by decide) dX9_odds_193 ?_
          refine Ex_iload dX9_odds_194 7 rfl ?_
          refine Ex_ior dX9_odds_196 ?_
          refine Ex_callVR (n := 3) (dp2 := 3) [.int x1, .int x2, .int ((gI μ (q0 + 12) 15) ||| x7)] cvX9_175 hq0 rfl rfl (by decide) (by decide) (Nat.le_of_ble_eq_true rfl) rfl (fun v hv => c_X9_reaches a0 F μ q0 x1 x2 ((gI μ (q0 + 12) 15) ||| x7) hq0 hv) dX9_odds_197 (fun v_28 hv_30 => ?_)
          refine Ex_if_eq (tgt := 208) dX9_odds_200 (by decide) ?_ ?_
          · refine Ex_iconst (v := 0) dX9_odds_208 (by decide) ?_
            refine Ex_iadd dX9_odds_209 ?_
            refine Ex_istore (L2 := [(5, .int (x5 + 0)), (0, .ref (a0 + q0)), (1, .int x1), (2, .int x2), (3, .int x3), (4, .int x4), (6, .int x6), (7, .int x7), (8, .int x8_26)]) dX9_odds_210 (by decide) rfl ?_
            refine Ex_iinc (v := x7 + 1) (L2 := [(7, .int (x7 + 1)), (5, .int (x5 + 0)), (0, .ref (a0 + q0)), (1, .int x1), (2, .int x2), (3, .int x3), (4, .int x4), (6, .int x6), (8, .int x8_26)]) dX9_odds_212 7 rfl rfl (by decide) rfl ?_
            refine Ex_goto (tgt := 87) dX9_odds_215 (by decide) ?_
            refine Ex_perm [2, 3, 4, 5, 6, 1, 7, 0] rfl ?_
            exact ih (x5 + 0) (x7 + 1)
          · refine Ex_iload dX9_odds_203 8 rfl ?_
            refine Ex_goto (tgt := 209) dX9_odds_205 (by decide) ?_
            refine Ex_iadd dX9_odds_209 ?_
            refine Ex_istore (L2 := [(5, .int (x5 + x8_26)), (0, .ref (a0 + q0)), (1, .int x1), (2, .int x2), (3, .int x3), (4, .int x4), (6, .int x6), (7, .int x7), (8, .int x8_26)]) dX9_odds_210 (by decide) rfl ?_
            refine Ex_iinc (v := x7 + 1) (L2 := [(7, .int (x7 + 1)), (5, .int (x5 + x8_26)), (0, .ref (a0 + q0)), (1, .int x1), (2, .int x2), (3, .int x3), (4, .int x4), (6, .int x6), (8, .int x8_26)]) dX9_odds_212 7 rfl rfl (by decide) rfl ?_
            refine Ex_goto (tgt := 87) dX9_odds_215 (by decide) ?_
            refine Ex_perm [2, 3, 4, 5, 6, 1, 7, 0] rfl ?_
            exact ih (x5 + x8_26) (x7 + 1)

def f_X9_odds_L226 (F : Nat) (μ : Mem) (x4 : Int32) (x5 : Int32) (x6 : Int32) (k : Int32 → Int32 → Option (Int32)) : Nat → Int32 → Int32 → Option (Int32)
  | 0, _, _ => none
  | n + 1, x7, x8 => (if x8 = 0 then k x7 x8 else if x8 = 0 then none else f_X9_odds_L226 F μ x4 x5 x6 k n x8 (x7 - x7 / x8 * x8))
set_option maxRecDepth 100000 in
set_option maxHeartbeats 4000000 in
theorem c_X9_odds_L226 (a0 : Nat) (F : Nat) (μ : Mem) (x4 : Int32) (x5 : Int32) (x6 : Int32) (k : Int32 → Int32 → Option (Int32)) (hk : ∀ (x7 : Int32) (x8 : Int32), Ex a0 RX9 cX9_odds 10 (some .int) 4 none (fun v => (some (.int v), μ)) 249 [(4, .int x4), (5, .int x5), (6, .int x6), (7, .int x7)] [] μ (k x7 x8)) : ∀ (n : Nat) (x7 : Int32) (x8 : Int32), Ex a0 RX9 cX9_odds 10 (some .int) 4 none (fun v => (some (.int v), μ)) 226 [(4, .int x4), (5, .int x5), (6, .int x6), (7, .int x7), (8, .int x8)] [] μ (f_X9_odds_L226 F μ x4 x5 x6 k n x7 x8) := by
  intro n
  induction n with
  | zero => intro x7 x8; exact Ex_none
  | succ n ih =>
    intro x7 x8
    rw [f_X9_odds_L226]
    refine Ex_iload dX9_odds_226 4 rfl ?_
    refine Ex_if_eq (tgt := 249) dX9_odds_228 (by decide) ?_ ?_
    · refine Ex_perm [0, 1, 2, 3] rfl ?_
      exact hk x7 x8
    · refine Ex_iload dX9_odds_231 3 rfl ?_
      refine Ex_iload dX9_odds_233 4 rfl ?_
      refine Ex_irem dX9_odds_235 ?_
      refine Ex_istore (L2 := [(9, .int (x7 - x7 / x8 * x8)), (4, .int x4), (5, .int x5), (6, .int x6), (7, .int x7), (8, .int x8)]) dX9_odds_236 (by decide) rfl ?_
      refine Ex_iload dX9_odds_238 5 rfl ?_
      refine Ex_istore (L2 := [(7, .int x8), (9, .int (x7 - x7 / x8 * x8)), (4, .int x4), (5, .int x5), (6, .int x6), (8, .int x8)]) dX9_odds_240 (by decide) rfl ?_
      refine Ex_iload dX9_odds_242 1 rfl ?_
      refine Ex_istore (L2 := [(8, .int (x7 - x7 / x8 * x8)), (7, .int x8), (9, .int (x7 - x7 / x8 * x8)), (4, .int x4), (5, .int x5), (6, .int x6)]) dX9_odds_244 (by decide) rfl ?_
      refine Ex_goto (tgt := 226) dX9_odds_246 (by decide) ?_
      refine Ex_perm [3, 4, 5, 1, 0] rfl ?_
      exact ih x8 (x7 - x7 / x8 * x8)
def f_X9_odds (F : Nat) (μ : Mem) (t : Nat) (p1 : Int32) (p2 : Int32) (p3 : Int32) (p4 : Int32) : Option (Int32) := (f_X9_isPerson F μ t p1).bind (fun v_1 => (if v_1 = 0 then some (-1) else (f_X9_isPlace F μ t p2).bind (fun v_4 => (if v_4 = 0 then some (-1) else (f_X9_in F μ p3 0 10).bind (fun v_7 => (if v_7 = 0 then some (-1) else (f_X9_in F μ p4 0 1).bind (fun v_10 => (if v_10 = 0 then some (-1) else f_X9_odds_L47 F μ t p1 p2 p3 p4 0 (fun x6_16 x7_17 => f_X9_odds_L87 F μ t p1 p2 p3 p4 x6_16 (fun x5_31 x7_32 => f_X9_odds_L226 F μ p4 x5_31 x6_16 (fun x7_33 x8_34 => (if p4 = 0 then if x7_33 = 0 then none else some (x5_31 / x7_33) else if x7_33 = 0 then none else some (x6_16 / x7_33))) F x5_31 x6_16) F 0 0) F 1 0))))))))
set_option maxRecDepth 100000 in
set_option maxHeartbeats 4000000 in
theorem c_X9_odds (a0 F : Nat) (μ : Mem) (t : Nat) (p1 : Int32) (p2 : Int32) (p3 : Int32) (p4 : Int32) (hk0 : kd t = 9) {v : Int32} (hr : f_X9_odds F μ t p1 p2 p3 p4 = some v) : Ct a0 yX9_odds cX9_odds 10 (some .int) 4 [.ref (a0 + t), .int p1, .int p2, .int p3, .int p4] μ (some (.int v)) μ := by
  refine Ct_of (own := RX9) (ι := (fun v => (some (.int v), μ))) (o := f_X9_odds F μ t p1 p2 p3 p4) (by decide +kernel) rfl (Nat.le_of_ble_eq_true rfl) ?_ hr rfl ⟨_, rfl⟩
  show Ex a0 RX9 cX9_odds 10 (some .int) 4 none (fun v => (some (.int v), μ)) 0 [(0, .ref (a0 + t)), (1, .int p1), (2, .int p2), (3, .int p3), (4, .int p4)] [] μ (f_X9_odds F μ t p1 p2 p3 p4)
  unfold f_X9_odds
  refine Ex_aload_n dX9_odds_0 rfl 0 rfl ?_
  refine Ex_iload_n dX9_odds_1 rfl 1 rfl ?_
  refine Ex_callVR (n := 1) (dp2 := 1) [.int p1] cvX9_141 hk0 rfl rfl (by decide) (by decide) (Nat.le_of_ble_eq_true rfl) rfl (fun v hv => c_X9_isPerson a0 F μ t p1 hk0 hv) dX9_odds_2 (fun v_1 hv_3 => ?_)
  refine Ex_if_eq (tgt := 36) dX9_odds_5 (by decide) ?_ ?_
  · refine Ex_iconst (v := (-1)) dX9_odds_36 (by decide) ?_
    exact Ex_iret dX9_odds_37 rfl (fun ty h => by cases h; rfl)
  · refine Ex_aload_n dX9_odds_8 rfl 0 rfl ?_
    refine Ex_iload_n dX9_odds_9 rfl 2 rfl ?_
    refine Ex_callVR (n := 1) (dp2 := 1) [.int p2] cvX9_168 hk0 rfl rfl (by decide) (by decide) (Nat.le_of_ble_eq_true rfl) rfl (fun v hv => c_X9_isPlace a0 F μ t p2 hk0 hv) dX9_odds_10 (fun v_4 hv_6 => ?_)
    refine Ex_if_eq (tgt := 36) dX9_odds_13 (by decide) ?_ ?_
    · refine Ex_iconst (v := (-1)) dX9_odds_36 (by decide) ?_
      exact Ex_iret dX9_odds_37 rfl (fun ty h => by cases h; rfl)
    · refine Ex_iload_n dX9_odds_16 rfl 3 rfl ?_
      refine Ex_iconst (v := 0) dX9_odds_17 (by decide) ?_
      refine Ex_bipush (v := 10) dX9_odds_18 (by decide) ?_
      refine Ex_callSR (n := 3) (dp2 := 0) [.int p3, .int 0, .int 10] cvX9_72 rfl (by decide) (by decide) (Nat.le_of_ble_eq_true rfl) rfl (fun v hv => c_X9_in a0 F μ p3 0 10 hv) dX9_odds_20 (fun v_7 hv_9 => ?_)
      refine Ex_if_eq (tgt := 36) dX9_odds_23 (by decide) ?_ ?_
      · refine Ex_iconst (v := (-1)) dX9_odds_36 (by decide) ?_
        exact Ex_iret dX9_odds_37 rfl (fun ty h => by cases h; rfl)
      · refine Ex_iload dX9_odds_26 4 rfl ?_
        refine Ex_iconst (v := 0) dX9_odds_28 (by decide) ?_
        refine Ex_iconst (v := 1) dX9_odds_29 (by decide) ?_
        refine Ex_callSR (n := 3) (dp2 := 0) [.int p4, .int 0, .int 1] cvX9_72 rfl (by decide) (by decide) (Nat.le_of_ble_eq_true rfl) rfl (fun v hv => c_X9_in a0 F μ p4 0 1 hv) dX9_odds_30 (fun v_10 hv_12 => ?_)
        refine Ex_if_ne (tgt := 38) dX9_odds_33 (by decide) ?_ ?_
        · refine Ex_iconst (v := 0) dX9_odds_38 (by decide) ?_
          refine Ex_istore (L2 := [(5, .int 0), (0, .ref (a0 + t)), (1, .int p1), (2, .int p2), (3, .int p3), (4, .int p4)]) dX9_odds_39 (by decide) rfl ?_
          refine Ex_iconst (v := 1) dX9_odds_41 (by decide) ?_
          refine Ex_istore (L2 := [(6, .int 1), (5, .int 0), (0, .ref (a0 + t)), (1, .int p1), (2, .int p2), (3, .int p3), (4, .int p4)]) dX9_odds_42 (by decide) rfl ?_
          refine Ex_iconst (v := 0) dX9_odds_44 (by decide) ?_
          refine Ex_istore (L2 := [(7, .int 0), (6, .int 1), (5, .int 0), (0, .ref (a0 + t)), (1, .int p1), (2, .int p2), (3, .int p3), (4, .int p4)]) dX9_odds_45 (by decide) rfl ?_
          refine Ex_perm [3, 4, 5, 6, 7, 2, 1, 0] rfl ?_
          refine c_X9_odds_L47 a0 F μ t p1 p2 p3 p4 0 _ hk0 (fun x6_16 x7_17 => ?_) F 1 0
          refine Ex_iconst (v := 0) dX9_odds_84 (by decide) ?_
          refine Ex_istore (L2 := [(7, .int 0), (0, .ref (a0 + t)), (1, .int p1), (2, .int p2), (3, .int p3), (4, .int p4), (5, .int 0), (6, .int x6_16)]) dX9_odds_85 (by decide) rfl ?_
          refine Ex_perm [1, 2, 3, 4, 5, 6, 7, 0] rfl ?_
          refine c_X9_odds_L87 a0 F μ t p1 p2 p3 p4 x6_16 _ hk0 (fun x5_31 x7_32 => ?_) F 0 0
          refine Ex_iload dX9_odds_218 1 rfl ?_
          refine Ex_istore (L2 := [(7, .int x5_31), (4, .int p4), (5, .int x5_31), (6, .int x6_16)]) dX9_odds_220 (by decide) rfl ?_
          refine Ex_iload dX9_odds_222 3 rfl ?_
          refine Ex_istore (L2 := [(8, .int x6_16), (7, .int x5_31), (4, .int p4), (5, .int x5_31), (6, .int x6_16)]) dX9_odds_224 (by decide) rfl ?_
          refine Ex_perm [2, 3, 4, 1, 0] rfl ?_
          refine c_X9_odds_L226 a0 F μ p4 x5_31 x6_16 _  (fun x7_33 x8_34 => ?_) F x5_31 x6_16
          refine Ex_iload dX9_odds_249 0 rfl ?_
          refine Ex_if_ne (tgt := 262) dX9_odds_251 (by decide) ?_ ?_
          · refine Ex_iload dX9_odds_262 2 rfl ?_
            refine Ex_iload dX9_odds_264 3 rfl ?_
            refine Ex_idiv dX9_odds_266 ?_
            exact Ex_iret dX9_odds_267 rfl (fun ty h => by cases h; rfl)
          · refine Ex_iload dX9_odds_254 1 rfl ?_
            refine Ex_iload dX9_odds_256 3 rfl ?_
            refine Ex_idiv dX9_odds_258 ?_
            refine Ex_goto (tgt := 267) dX9_odds_259 (by decide) ?_
            exact Ex_iret dX9_odds_267 rfl (fun ty h => by cases h; rfl)
        · refine Ex_iconst (v := (-1)) dX9_odds_36 (by decide) ?_
          exact Ex_iret dX9_odds_37 rfl (fun ty h => by cases h; rfl)

def f_X9_order_L31 (F : Nat) (μ : Mem) (q0 : Nat) (x1 : Int32) (x2 : Int32) (x3 : Int32) (k : Int32 → Int32 → Option (Int32)) : Nat → Int32 → Int32 → Option (Int32)
  | 0, _, _ => none
  | n + 1, x4, x5 => (if x5 < (gI μ (q0 + 7) 0) then if ix (5 + x5) 531 = true then if ix (5 + x3) 531 = true then (if (gI μ (q0 + 12) ((5 + x3).toNatClampNeg)) < (gI μ (q0 + 12) ((5 + x5).toNatClampNeg)) then f_X9_order_L31 F μ q0 x1 x2 x3 k n (x4 + 1) (x5 + 1) else if ix (5 + x5) 531 = true then if ix (5 + x3) 531 = true then (if (gI μ (q0 + 12) ((5 + x5).toNatClampNeg)) = (gI μ (q0 + 12) ((5 + x3).toNatClampNeg)) then (if x5 < x3 then f_X9_order_L31 F μ q0 x1 x2 x3 k n (x4 + 1) (x5 + 1) else f_X9_order_L31 F μ q0 x1 x2 x3 k n (x4 + 0) (x5 + 1)) else f_X9_order_L31 F μ q0 x1 x2 x3 k n (x4 + 0) (x5 + 1)) else none else none) else none else none else k x4 x5)
set_option maxRecDepth 100000 in
set_option maxHeartbeats 4000000 in
theorem c_X9_order_L31 (a0 : Nat) (F : Nat) (μ : Mem) (q0 : Nat) (x1 : Int32) (x2 : Int32) (x3 : Int32) (k : Int32 → Int32 → Option (Int32)) (hq0 : kd q0 = 9) (hk : ∀ (x4 : Int32) (x5 : Int32), Ex a0 RX9 cX9_order 7 (some .int) 2 none (fun v => (some (.int v), μ)) 116 [(0, .ref (a0 + q0)), (1, .int x1), (2, .int x2), (3, .int x3), (4, .int x4)] [] μ (k x4 x5)) : ∀ (n : Nat) (x4 : Int32) (x5 : Int32), Ex a0 RX9 cX9_order 7 (some .int) 2 none (fun v => (some (.int v), μ)) 31 [(0, .ref (a0 + q0)), (1, .int x1), (2, .int x2), (3, .int x3), (4, .int x4), (5, .int x5)] [] μ (f_X9_order_L31 F μ q0 x1 x2 x3 k n x4 x5) := by
  intro n
  induction n with
  | zero => intro x4 x5; exact Ex_none
  | succ n ih =>
    intro x4 x5
    rw [f_X9_order_L31]
    refine Ex_iload dX9_order_31 5 rfl ?_
    refine Ex_aload_n dX9_order_33 rfl 0 rfl ?_
    refine Ex_get (v := .ref (a0 + (q0 + 7))) fgX9_29 hq0 (by decide) rfl dX9_order_34 ?_
    refine Ex_iconst (v := 0) dX9_order_37 (by decide) ?_
    refine Ex_ialdC (j := 0) 2 (kn_9_7 hq0) (by decide) (by decide) (by decide) dX9_order_38 ?_
    refine Ex_icmp_ge (tgt := 116) dX9_order_39 (by decide) ?_ ?_
    · refine Ex_perm [0, 1, 2, 3, 4] rfl ?_
      exact hk x4 x5
    · refine Ex_aload_n dX9_order_42 rfl 0 rfl ?_
      refine Ex_get (v := .ref (a0 + (q0 + 12))) fgX9_44 hq0 (by decide) rfl dX9_order_43 ?_
      refine Ex_iconst (v := 5) dX9_order_46 (by decide) ?_
      refine Ex_iload dX9_order_47 5 rfl ?_
      refine Ex_iadd dX9_order_49 ?_
      refine Ex_iald 531 (kn_9_12 hq0) (by decide) dX9_order_50 ?_
      refine Ex_aload_n dX9_order_51 rfl 0 rfl ?_
      refine Ex_get (v := .ref (a0 + (q0 + 12))) fgX9_44 hq0 (by decide) rfl dX9_order_52 ?_
      refine Ex_iconst (v := 5) dX9_order_55 (by decide) ?_
      refine Ex_iload_n dX9_order_56 rfl 3 rfl ?_
      refine Ex_iadd dX9_order_57 ?_
      refine Ex_iald 531 (kn_9_12 hq0) (by decide) dX9_order_58 ?_
      refine Ex_icmp_gt (tgt := 88) dX9_order_59 (by decide) ?_ ?_
      · refine Ex_iconst (v := 1) dX9_order_88 (by decide) ?_
        refine Ex_goto (tgt := 93) dX9_order_89 (by decide) ?_
        refine Ex_istore (L2 := [(6, .int 1), (0, .ref (a0 + q0)), (1, .int x1), (2, .int x2), (3, .int x3), (4, .int x4), (5, .int x5)]) dX9_order_93 (by decide) rfl ?_
        refine Ex_iload dX9_order_95 5 rfl ?_
        refine Ex_iload dX9_order_97 0 rfl ?_
        refine Ex_if_eqF (tgt := 106) dX9_order_99 (by decide) (by decide) ?_
        refine Ex_iconst (v := 1) dX9_order_102 (by decide) ?_
        refine Ex_goto (tgt := 107) dX9_order_103 (by decide) ?_
        refine Ex_iadd dX9_order_107 ?_
        refine Ex_istore (L2 := [(4, .int (x4 + 1)), (6, .int 1), (0, .ref (a0 + q0)), (1, .int x1), (2, .int x2), (3, .int x3), (5, .int x5)]) dX9_order_108 (by decide) rfl ?_
        refine Ex_iinc (v := x5 + 1) (L2 := [(5, .int (x5 + 1)), (4, .int (x4 + 1)), (6, .int 1), (0, .ref (a0 + q0)), (1, .int x1), (2, .int x2), (3, .int x3)]) dX9_order_110 6 rfl rfl (by decide) rfl ?_
        refine Ex_goto (tgt := 31) dX9_order_113 (by decide) ?_
        refine Ex_perm [3, 4, 5, 6, 1, 0] rfl ?_
        exact ih (x4 + 1) (x5 + 1)
      · refine Ex_aload_n dX9_order_62 rfl 0 rfl ?_
        refine Ex_get (v := .ref (a0 + (q0 + 12))) fgX9_44 hq0 (by decide) rfl dX9_order_63 ?_
        refine Ex_iconst (v := 5) dX9_order_66 (by decide) ?_
        refine Ex_iload dX9_order_67 5 rfl ?_
        refine Ex_iadd dX9_order_69 ?_
        refine Ex_iald 531 (kn_9_12 hq0) (by decide) dX9_order_70 ?_
        refine Ex_aload_n dX9_order_71 rfl 0 rfl ?_
        refine Ex_get (v := .ref (a0 + (q0 + 12))) fgX9_44 hq0 (by decide) rfl dX9_order_72 ?_
        refine Ex_iconst (v := 5) dX9_order_75 (by decide) ?_
        refine Ex_iload_n dX9_order_76 rfl 3 rfl ?_
        refine Ex_iadd dX9_order_77 ?_
        refine Ex_iald 531 (kn_9_12 hq0) (by decide) dX9_order_78 ?_
        refine Ex_icmp_ne (tgt := 92) dX9_order_79 (by decide) ?_ ?_
        · refine Ex_iconst (v := 0) dX9_order_92 (by decide) ?_
          refine Ex_istore (L2 := [(6, .int 0), (0, .ref (a0 + q0)), (1, .int x1), (2, .int x2), (3, .int x3), (4, .int x4), (5, .int x5)]) dX9_order_93 (by decide) rfl ?_
          refine Ex_iload dX9_order_95 5 rfl ?_
          refine Ex_iload dX9_order_97 0 rfl ?_
          refine Ex_if_eqT (tgt := 106) dX9_order_99 (by decide) (by decide) ?_
          refine Ex_iconst (v := 0) dX9_order_106 (by decide) ?_
          refine Ex_iadd dX9_order_107 ?_
          refine Ex_istore (L2 := [(4, .int (x4 + 0)), (6, .int 0), (0, .ref (a0 + q0)), (1, .int x1), (2, .int x2), (3, .int x3), (5, .int x5)]) dX9_order_108 (by decide) rfl ?_
          refine Ex_iinc (v := x5 + 1) (L2 := [(5, .int (x5 + 1)), (4, .int (x4 + 0)), (6, .int 0), (0, .ref (a0 + q0)), (1, .int x1), (2, .int x2), (3, .int x3)]) dX9_order_110 6 rfl rfl (by decide) rfl ?_
          refine Ex_goto (tgt := 31) dX9_order_113 (by decide) ?_
          refine Ex_perm [3, 4, 5, 6, 1, 0] rfl ?_
          exact ih (x4 + 0) (x5 + 1)
        · refine Ex_iload dX9_order_82 5 rfl ?_
          refine Ex_iload_n dX9_order_84 rfl 3 rfl ?_
          refine Ex_icmp_ge (tgt := 92) dX9_order_85 (by decide) ?_ ?_
          · refine Ex_iconst (v := 0) dX9_order_92 (by decide) ?_
            refine Ex_istore (L2 := [(6, .int 0), (0, .ref (a0 + q0)), (1, .int x1), (2, .int x2), (3, .int x3), (4, .int x4), (5, .int x5)]) dX9_order_93 (by decide) rfl ?_
            refine Ex_iload dX9_order_95 5 rfl ?_
            refine Ex_iload dX9_order_97 0 rfl ?_
            refine Ex_if_eqT (tgt := 106) dX9_order_99 (by decide) (by decide) ?_
            refine Ex_iconst (v := 0) dX9_order_106 (by decide) ?_
            refine Ex_iadd dX9_order_107 ?_
            refine Ex_istore (L2 := [(4, .int (x4 + 0)), (6, .int 0), (0, .ref (a0 + q0)), (1, .int x1), (2, .int x2), (3, .int x3), (5, .int x5)]) dX9_order_108 (by decide) rfl ?_
            refine Ex_iinc (v := x5 + 1) (L2 := [(5, .int (x5 + 1)), (4, .int (x4 + 0)), (6, .int 0), (0, .ref (a0 + q0)), (1, .int x1), (2, .int x2), (3, .int x3)]) dX9_order_110 6 rfl rfl (by decide) rfl ?_
            refine Ex_goto (tgt := 31) dX9_order_113 (by decide) ?_
            refine Ex_perm [3, 4, 5, 6, 1, 0] rfl ?_
            exact ih (x4 + 0) (x5 + 1)
          · refine Ex_iconst (v := 1) dX9_order_88 (by decide) ?_
            refine Ex_goto (tgt := 93) dX9_order_89 (by decide) ?_
            refine Ex_istore (L2 := [(6, .int 1), (0, .ref (a0 + q0)), (1, .int x1), (2, .int x2), (3, .int x3), (4, .int x4), (5, .int x5)]) dX9_order_93 (by decide) rfl ?_
            refine Ex_iload dX9_order_95 5 rfl ?_
            refine Ex_iload dX9_order_97 0 rfl ?_
            refine Ex_if_eqF (tgt := 106) dX9_order_99 (by decide) (by decide) ?_
            refine Ex_iconst (v := 1) dX9_order_102 (by decide) ?_
            refine Ex_goto (tgt := 107) dX9_order_103 (by decide) ?_
            refine Ex_iadd dX9_order_107 ?_
            refine Ex_istore (L2 := [(4, .int (x4 + 1)), (6, .int 1), (0, .ref (a0 + q0)), (1, .int x1), (2, .int x2), (3, .int x3), (5, .int x5)]) dX9_order_108 (by decide) rfl ?_
            refine Ex_iinc (v := x5 + 1) (L2 := [(5, .int (x5 + 1)), (4, .int (x4 + 1)), (6, .int 1), (0, .ref (a0 + q0)), (1, .int x1), (2, .int x2), (3, .int x3)]) dX9_order_110 6 rfl rfl (by decide) rfl ?_
            refine Ex_goto (tgt := 31) dX9_order_113 (by decide) ?_
            refine Ex_perm [3, 4, 5, 6, 1, 0] rfl ?_
            exact ih (x4 + 1) (x5 + 1)

def f_X9_order_L15 (F : Nat) (μ : Mem) (q0 : Nat) (x1 : Int32) (k : Int32 → Int32 → Option (Int32)) : Nat → Int32 → Int32 → Option (Int32)
  | 0, _, _ => none
  | n + 1, x2, x3 => (if x3 < (gI μ (q0 + 7) 0) then f_X9_order_L31 F μ q0 x1 x2 x3 (fun x4_4 x5_5 => (if x4_4 = x1 then f_X9_order_L15 F μ q0 x1 k n x3 (x3 + 1) else f_X9_order_L15 F μ q0 x1 k n x2 (x3 + 1))) F 0 0 else k x2 x3)
set_option maxRecDepth 100000 in
set_option maxHeartbeats 4000000 in
theorem c_X9_order_L15 (a0 : Nat) (F : Nat) (μ : Mem) (q0 : Nat) (x1 : Int32) (k : Int32 → Int32 → Option (Int32)) (hq0 : kd q0 = 9) (hk : ∀ (x2 : Int32) (x3 : Int32), Ex a0 RX9 cX9_order 7 (some .int) 2 none (fun v => (some (.int v), μ)) 134 [(2, .int x2)] [] μ (k x2 x3)) : ∀ (n : Nat) (x2 : Int32) (x3 : Int32), Ex a0 RX9 cX9_order 7 (some .int) 2 none (fun v => (some (.int v), μ)) 15 [(0, .ref (a0 + q0)), (1, .int x1), (2, .int x2), (3, .int x3)] [] μ (f_X9_order_L15 F μ q0 x1 k n x2 x3) := by
  intro n
  induction n with
  | zero => intro x2 x3; exact Ex_none
  | succ n ih =>
    intro x2 x3
    rw [f_X9_order_L15]
    refine Ex_iload_n dX9_order_15 rfl 3 rfl ?_
    refine Ex_aload_n dX9_order_16 rfl 0 rfl ?_
    refine Ex_get (v := .ref (a0 + (q0 + 7))) fgX9_29 hq0 (by decide) rfl dX9_order_17 ?_
    refine Ex_iconst (v := 0) dX9_order_20 (by decide) ?_
    refine Ex_ialdC (j := 0) 2 (kn_9_7 hq0) (by decide) (by decide) (by decide) dX9_order_21 ?_
    refine Ex_icmp_ge (tgt := 134) dX9_order_22 (by decide) ?_ ?_
    · refine Ex_perm [2] rfl ?_
      exact hk x2 x3
    · refine Ex_iconst (v := 0) dX9_order_25 (by decide) ?_
      refine Ex_istore (L2 := [(4, .int 0), (0, .ref (a0 + q0)), (1, .int x1), (2, .int x2), (3, .int x3)]) dX9_order_26 (by decide) rfl ?_
      refine Ex_iconst (v := 0) dX9_order_28 (by decide) ?_
      refine Ex_istore (L2 := [(5, .int 0), (4, .int 0), (0, .ref (a0 + q0)), (1, .int x1), (2, .int x2), (3, .int x3)]) dX9_order_29 (by decide) rfl ?_
      refine Ex_perm [2, 3, 4, 5, 1, 0] rfl ?_
      refine c_X9_order_L31 a0 F μ q0 x1 x2 x3 _ hq0 (fun x4_4 x5_5 => ?_) F 0 0
      refine Ex_iload dX9_order_116 4 rfl ?_
      refine Ex_iload_n dX9_order_118 rfl 1 rfl ?_
      refine Ex_icmp_ne (tgt := 126) dX9_order_119 (by decide) ?_ ?_
      · refine Ex_iload_n dX9_order_126 rfl 2 rfl ?_
        refine Ex_istore_n (L2 := [(2, .int x2), (0, .ref (a0 + q0)), (1, .int x1), (3, .int x3), (4, .int x4_4)]) dX9_order_127 rfl (by decide) rfl ?_
        refine Ex_iinc (v := x3 + 1) (L2 := [(3, .int (x3 + 1)), (2, .int x2), (0, .ref (a0 + q0)), (1, .int x1), (4, .int x4_4)]) dX9_order_128 3 rfl rfl (by decide) rfl ?_
        refine Ex_goto (tgt := 15) dX9_order_131 (by decide) ?_
        refine Ex_perm [2, 3, 1, 0] rfl ?_
        exact ih x2 (x3 + 1)
      · refine Ex_iload_n dX9_order_122 rfl 3 rfl ?_
        refine Ex_goto (tgt := 127) dX9_order_123 (by decide) ?_
        refine Ex_istore_n (L2 := [(2, .int x3), (0, .ref (a0 + q0)), (1, .int x1), (3, .int x3), (4, .int x4_4)]) dX9_order_127 rfl (by decide) rfl ?_
        refine Ex_iinc (v := x3 + 1) (L2 := [(3, .int (x3 + 1)), (2, .int x3), (0, .ref (a0 + q0)), (1, .int x1), (4, .int x4_4)]) dX9_order_128 3 rfl rfl (by decide) rfl ?_
        refine Ex_goto (tgt := 15) dX9_order_131 (by decide) ?_
        refine Ex_perm [2, 3, 1, 0] rfl ?_
        exact ih x3 (x3 + 1)
def f_X9_order (F : Nat) (μ : Mem) (t : Nat) (p1 : Int32) : Option (Int32) := (f_X9_isPerson F μ t p1).bind (fun v_1 => (if v_1 = 0 then some (-1) else f_X9_order_L15 F μ t p1 (fun x2_6 x3_7 => some x2_6) F (-9) 0))
set_option maxRecDepth 100000 in
set_option maxHeartbeats 4000000 in
theorem c_X9_order (a0 F : Nat) (μ : Mem) (t : Nat) (p1 : Int32) (hk0 : kd t = 9) {v : Int32} (hr : f_X9_order F μ t p1 = some v) : Ct a0 yX9_order cX9_order 7 (some .int) 2 [.ref (a0 + t), .int p1] μ (some (.int v)) μ := by
  refine Ct_of (own := RX9) (ι := (fun v => (some (.int v), μ))) (o := f_X9_order F μ t p1) (by decide +kernel) rfl (Nat.le_of_ble_eq_true rfl) ?_ hr rfl ⟨_, rfl⟩
  show Ex a0 RX9 cX9_order 7 (some .int) 2 none (fun v => (some (.int v), μ)) 0 [(0, .ref (a0 + t)), (1, .int p1)] [] μ (f_X9_order F μ t p1)
  unfold f_X9_order
  refine Ex_aload_n dX9_order_0 rfl 0 rfl ?_
  refine Ex_iload_n dX9_order_1 rfl 1 rfl ?_
  refine Ex_callVR (n := 1) (dp2 := 1) [.int p1] cvX9_141 hk0 rfl rfl (by decide) (by decide) (Nat.le_of_ble_eq_true rfl) rfl (fun v hv => c_X9_isPerson a0 F μ t p1 hk0 hv) dX9_order_2 (fun v_1 hv_3 => ?_)
  refine Ex_if_ne (tgt := 10) dX9_order_5 (by decide) ?_ ?_
  · refine Ex_bipush (v := (-9)) dX9_order_10 (by decide) ?_
    refine Ex_istore_n (L2 := [(2, .int (-9)), (0, .ref (a0 + t)), (1, .int p1)]) dX9_order_12 rfl (by decide) rfl ?_
    refine Ex_iconst (v := 0) dX9_order_13 (by decide) ?_
    refine Ex_istore_n (L2 := [(3, .int 0), (2, .int (-9)), (0, .ref (a0 + t)), (1, .int p1)]) dX9_order_14 rfl (by decide) rfl ?_
    refine Ex_perm [2, 3, 1, 0] rfl ?_
    refine c_X9_order_L15 a0 F μ t p1 _ hk0 (fun x2_6 x3_7 => ?_) F (-9) 0
    refine Ex_iload_n dX9_order_134 rfl 0 rfl ?_
    exact Ex_iret dX9_order_135 rfl (fun ty h => by cases h; rfl)
  · refine Ex_iconst (v := (-1)) dX9_order_8 (by decide) ?_
    exact Ex_iret dX9_order_9 rfl (fun ty h => by cases h; rfl)

def f_X9_patents (F : Nat) (μ : Mem) (t : Nat) (p1 : Int32) (p2 : Int32) : Option (Int32 × Mem) := (f_X9_isPerson F μ t p1).bind (fun v_1 => (if v_1 = 0 then some ((-1), μ) else (f_X9_in F μ p2 0 9).bind (fun v_4 => (if v_4 = 0 then some ((-1), μ) else if ix (5 + p1) 531 = true then lt (gI μ (t + 12) ((5 + p1).toNatClampNeg)) (fun x3_7 => (if x3_7 = p2 then some ((-2), μ) else (f_X9_know F μ t).bind (fun μ_9 => if ix (5 + p1) 531 = true then lt (sI μ_9 (t + 12) ((5 + p1).toNatClampNeg) p2) (fun μ_11 => some (x3_7, μ_11)) else none))) else none))))
set_option maxRecDepth 100000 in
set_option maxHeartbeats 4000000 in
theorem c_X9_patents (a0 F : Nat) (μ : Mem) (t : Nat) (p1 : Int32) (p2 : Int32) (hk0 : kd t = 9) {v : Int32} {μ2 : Mem} (hr : f_X9_patents F μ t p1 p2 = some (v, μ2)) : Ct a0 yX9_patents cX9_patents 4 (some .int) 2 [.ref (a0 + t), .int p1, .int p2] μ (some (.int v)) μ2 := by
  refine Ct_of (own := RX9) (ι := (fun x => (some (.int x.1), x.2))) (o := f_X9_patents F μ t p1 p2) (by decide +kernel) rfl (Nat.le_of_ble_eq_true rfl) ?_ hr rfl ⟨_, rfl⟩
  show Ex a0 RX9 cX9_patents 4 (some .int) 2 none (fun x => (some (.int x.1), x.2)) 0 [(0, .ref (a0 + t)), (1, .int p1), (2, .int p2)] [] μ (f_X9_patents F μ t p1 p2)
  unfold f_X9_patents
  refine Ex_aload_n dX9_patents_0 rfl 0 rfl ?_
  refine Ex_iload_n dX9_patents_1 rfl 1 rfl ?_
  refine Ex_callVR (n := 1) (dp2 := 1) [.int p1] cvX9_141 hk0 rfl rfl (by decide) (by decide) (Nat.le_of_ble_eq_true rfl) rfl (fun v hv => c_X9_isPerson a0 F μ t p1 hk0 hv) dX9_patents_2 (fun v_1 hv_3 => ?_)
  refine Ex_if_eq (tgt := 18) dX9_patents_5 (by decide) ?_ ?_
  · refine Ex_iconst (v := (-1)) dX9_patents_18 (by decide) ?_
    exact Ex_iret dX9_patents_19 rfl (fun ty h => by cases h; rfl)
  · refine Ex_iload_n dX9_patents_8 rfl 2 rfl ?_
    refine Ex_iconst (v := 0) dX9_patents_9 (by decide) ?_
    refine Ex_bipush (v := 9) dX9_patents_10 (by decide) ?_
    refine Ex_callSR (n := 3) (dp2 := 0) [.int p2, .int 0, .int 9] cvX9_72 rfl (by decide) (by decide) (Nat.le_of_ble_eq_true rfl) rfl (fun v hv => c_X9_in a0 F μ p2 0 9 hv) dX9_patents_12 (fun v_4 hv_6 => ?_)
    refine Ex_if_ne (tgt := 20) dX9_patents_15 (by decide) ?_ ?_
    · refine Ex_aload_n dX9_patents_20 rfl 0 rfl ?_
      refine Ex_get (v := .ref (a0 + (t + 12))) fgX9_44 hk0 (by decide) rfl dX9_patents_21 ?_
      refine Ex_iconst (v := 5) dX9_patents_24 (by decide) ?_
      refine Ex_iload_n dX9_patents_25 rfl 1 rfl ?_
      refine Ex_iadd dX9_patents_26 ?_
      refine Ex_iald 531 (kn_9_12 hk0) (by decide) dX9_patents_27 ?_
      refine Ex_top (fun x3_7 => ?_)
      refine Ex_istore_n (L2 := [(3, .int x3_7), (0, .ref (a0 + t)), (1, .int p1), (2, .int p2)]) dX9_patents_28 rfl (by decide) rfl ?_
      refine Ex_iload_n dX9_patents_29 rfl 0 rfl ?_
      refine Ex_iload_n dX9_patents_30 rfl 3 rfl ?_
      refine Ex_icmp_ne (tgt := 37) dX9_patents_31 (by decide) ?_ ?_
      · refine Ex_aload_n dX9_patents_37 rfl 1 rfl ?_
        refine Ex_callVV (n := 0) (dp2 := 0) [] cvX9_147 hk0 rfl rfl (by decide) (by decide) (Nat.le_of_ble_eq_true rfl) rfl (fun μ2 hv => c_X9_know a0 F μ t hk0 hv) dX9_patents_38 (fun μ_9 hv_10 => ?_)
        refine Ex_aload_n dX9_patents_41 rfl 1 rfl ?_
        refine Ex_get (v := .ref (a0 + (t + 12))) fgX9_44 hk0 (by decide) rfl dX9_patents_42 ?_
        refine Ex_iconst (v := 5) dX9_patents_45 (by decide) ?_
        refine Ex_iload_n dX9_patents_46 rfl 2 rfl ?_
        refine Ex_iadd dX9_patents_47 ?_
        refine Ex_iload_n dX9_patents_48 rfl 3 rfl ?_
        refine Ex_iast 531 (kn_9_12 hk0) (by decide) dX9_patents_49 (fun μ_11 => ?_)
        refine Ex_iload_n dX9_patents_50 rfl 0 rfl ?_
        exact Ex_iret dX9_patents_51 rfl (fun ty h => by cases h; rfl)
      · refine Ex_bipush (v := (-2)) dX9_patents_34 (by decide) ?_
        exact Ex_iret dX9_patents_36 rfl (fun ty h => by cases h; rfl)
    · refine Ex_iconst (v := (-1)) dX9_patents_18 (by decide) ?_
      exact Ex_iret dX9_patents_19 rfl (fun ty h => by cases h; rfl)

def f_X9_person (F : Nat) (μ : Mem) (t : Nat) (p1 : Int32) (p2 : Int32) : Option (Int32) := (f_X9_isPerson F μ t p1).bind (fun v_1 => (if v_1 = 0 then some (-1) else (if p2 = 0 then if ix (5 + p1) 531 = true then some (gI μ (t + 12) ((5 + p1).toNatClampNeg)) else none else (if p2 = 1 then if ix (0 + p1) 531 = true then some (gI μ (t + 12) ((0 + p1).toNatClampNeg)) else none else (if p2 = 2 then (f_X9_wide F μ t p1).bind (fun v_7 => some v_7) else (if p2 = 3 then if ix (10 + p1) 531 = true then some (gI μ (t + 12) ((10 + p1).toNatClampNeg)) else none else (if p2 = 4 then (f_X9_reach F μ t p1 (gI μ (t + 12) 15)).bind (fun v_12 => some v_12) else some (-1))))))))
set_option maxRecDepth 100000 in
set_option maxHeartbeats 4000000 in
theorem c_X9_person (a0 F : Nat) (μ : Mem) (t : Nat) (p1 : Int32) (p2 : Int32) (hk0 : kd t = 9) {v : Int32} (hr : f_X9_person F μ t p1 p2 = some v) : Ct a0 yX9_person cX9_person 3 (some .int) 3 [.ref (a0 + t), .int p1, .int p2] μ (some (.int v)) μ := by
  refine Ct_of (own := RX9) (ι := (fun v => (some (.int v), μ))) (o := f_X9_person F μ t p1 p2) (by decide +kernel) rfl (Nat.le_of_ble_eq_true rfl) ?_ hr rfl ⟨_, rfl⟩
  show Ex a0 RX9 cX9_person 3 (some .int) 3 none (fun v => (some (.int v), μ)) 0 [(0, .ref (a0 + t)), (1, .int p1), (2, .int p2)] [] μ (f_X9_person F μ t p1 p2)
  unfold f_X9_person
  refine Ex_aload_n dX9_person_0 rfl 0 rfl ?_
  refine Ex_iload_n dX9_person_1 rfl 1 rfl ?_
  refine Ex_callVR (n := 1) (dp2 := 1) [.int p1] cvX9_141 hk0 rfl rfl (by decide) (by decide) (Nat.le_of_ble_eq_true rfl) rfl (fun v hv => c_X9_isPerson a0 F μ t p1 hk0 hv) dX9_person_2 (fun v_1 hv_3 => ?_)
  refine Ex_if_ne (tgt := 10) dX9_person_5 (by decide) ?_ ?_
  · refine Ex_iload_n dX9_person_10 rfl 2 rfl ?_
    refine Ex_if (p2 = 0) (fun hc_4 => ?_) (fun hc_4 => ?_)
    · refine Ex_tblC (tgt := 44) dX9_person_11 (i := 0) (by rw [hc_4]; rfl) (by decide) (by decide) (off := 33) rfl (by decide) ?_
      refine Ex_aload_n dX9_person_44 rfl 0 rfl ?_
      refine Ex_get (v := .ref (a0 + (t + 12))) fgX9_44 hk0 (by decide) rfl dX9_person_45 ?_
      refine Ex_iconst (v := 5) dX9_person_48 (by decide) ?_
      refine Ex_iload_n dX9_person_49 rfl 1 rfl ?_
      refine Ex_iadd dX9_person_50 ?_
      refine Ex_iald 531 (kn_9_12 hk0) (by decide) dX9_person_51 ?_
      exact Ex_iret dX9_person_52 rfl (fun ty h => by cases h; rfl)
    · refine Ex_if (p2 = 1) (fun hc_5 => ?_) (fun hc_5 => ?_)
      · refine Ex_tblC (tgt := 53) dX9_person_11 (i := 1) (by rw [hc_5]; rfl) (by decide) (by decide) (off := 42) rfl (by decide) ?_
        refine Ex_aload_n dX9_person_53 rfl 0 rfl ?_
        refine Ex_get (v := .ref (a0 + (t + 12))) fgX9_44 hk0 (by decide) rfl dX9_person_54 ?_
        refine Ex_iconst (v := 0) dX9_person_57 (by decide) ?_
        refine Ex_iload_n dX9_person_58 rfl 1 rfl ?_
        refine Ex_iadd dX9_person_59 ?_
        refine Ex_iald 531 (kn_9_12 hk0) (by decide) dX9_person_60 ?_
        exact Ex_iret dX9_person_61 rfl (fun ty h => by cases h; rfl)
      · refine Ex_if (p2 = 2) (fun hc_6 => ?_) (fun hc_6 => ?_)
        · refine Ex_tblC (tgt := 62) dX9_person_11 (i := 2) (by rw [hc_6]; rfl) (by decide) (by decide) (off := 51) rfl (by decide) ?_
          refine Ex_aload_n dX9_person_62 rfl 0 rfl ?_
          refine Ex_iload_n dX9_person_63 rfl 1 rfl ?_
          refine Ex_callVR (n := 1) (dp2 := 0) [.int p1] cvX9_124 hk0 rfl rfl (by decide) (by decide) (Nat.le_of_ble_eq_true rfl) rfl (fun v hv => c_X9_wide a0 F μ t p1 hk0 hv) dX9_person_64 (fun v_7 hv_9 => ?_)
          exact Ex_iret dX9_person_67 rfl (fun ty h => by cases h; rfl)
        · refine Ex_if (p2 = 3) (fun hc_10 => ?_) (fun hc_10 => ?_)
          · refine Ex_tblC (tgt := 68) dX9_person_11 (i := 3) (by rw [hc_10]; rfl) (by decide) (by decide) (off := 57) rfl (by decide) ?_
            refine Ex_aload_n dX9_person_68 rfl 0 rfl ?_
            refine Ex_get (v := .ref (a0 + (t + 12))) fgX9_44 hk0 (by decide) rfl dX9_person_69 ?_
            refine Ex_bipush (v := 10) dX9_person_72 (by decide) ?_
            refine Ex_iload_n dX9_person_74 rfl 1 rfl ?_
            refine Ex_iadd dX9_person_75 ?_
            refine Ex_iald 531 (kn_9_12 hk0) (by decide) dX9_person_76 ?_
            exact Ex_iret dX9_person_77 rfl (fun ty h => by cases h; rfl)
          · refine Ex_if (p2 = 4) (fun hc_11 => ?_) (fun hc_11 => ?_)
            · refine Ex_tblC (tgt := 78) dX9_person_11 (i := 4) (by rw [hc_11]; rfl) (by decide) (by decide) (off := 67) rfl (by decide) ?_
              refine Ex_aload_n dX9_person_78 rfl 0 rfl ?_
              refine Ex_iload_n dX9_person_79 rfl 1 rfl ?_
              refine Ex_aload_n dX9_person_80 rfl 0 rfl ?_
              refine Ex_get (v := .ref (a0 + (t + 12))) fgX9_44 hk0 (by decide) rfl dX9_person_81 ?_
              refine Ex_bipush (v := 15) dX9_person_84 (by decide) ?_
              refine Ex_ialdC (j := 15) 531 (kn_9_12 hk0) (by decide) (by decide) (by decide) dX9_person_86 ?_
              refine Ex_callVR (n := 2) (dp2 := 2) [.int p1, .int (gI μ (t + 12) 15)] cvX9_131 hk0 rfl rfl (by decide) (by decide) (Nat.le_of_ble_eq_true rfl) rfl (fun v hv => c_X9_reach a0 F μ t p1 (gI μ (t + 12) 15) hk0 hv) dX9_person_87 (fun v_12 hv_14 => ?_)
              exact Ex_iret dX9_person_90 rfl (fun ty h => by cases h; rfl)
            · refine Ex_tblD (tgt := 91) dX9_person_11 (by have q0 := lv_neT hc_4 (show (0 : Int32).toInt = 0 from rfl); have q1 := lv_neT hc_5 (show (1 : Int32).toInt = 1 from rfl); have q2 := lv_neT hc_6 (show (2 : Int32).toInt = 2 from rfl); have q3 := lv_neT hc_10 (show (3 : Int32).toInt = 3 from rfl); have q4 := lv_neT hc_11 (show (4 : Int32).toInt = 4 from rfl); omega) (by decide) ?_
              refine Ex_iconst (v := (-1)) dX9_person_91 (by decide) ?_
              exact Ex_iret dX9_person_92 rfl (fun ty h => by cases h; rfl)
  · refine Ex_iconst (v := (-1)) dX9_person_8 (by decide) ?_
    exact Ex_iret dX9_person_9 rfl (fun ty h => by cases h; rfl)

def f_X9_rowsOf_L12 (F : Nat) (q0 : Nat) (x2 : Int32) (k : Int32 → Int32 → Mem → Option (Int32 × Mem)) : Nat → Int32 → Int32 → Mem → Option (Int32 × Mem)
  | 0, _, _, _ => none
  | n + 1, x3, x4, μ => (if x4 < 0 then k x3 x4 μ else if ix x4 5 = true then lt (sI μ (q0 + 15) x4.toNatClampNeg (x3 - x3 / 5 * 5)) (fun μ_1 => if ix x4 5 = true then lt (sI μ_1 (q0 + 16) x4.toNatClampNeg 0) (fun μ_2 => f_X9_rowsOf_L12 F q0 x2 k n (x3 / 5) (x4 + (-1)) μ_2) else none) else none)
set_option maxRecDepth 100000 in
set_option maxHeartbeats 4000000 in
theorem c_X9_rowsOf_L12 (a0 : Nat) (F : Nat) (q0 : Nat) (x2 : Int32) (k : Int32 → Int32 → Mem → Option (Int32 × Mem)) (hq0 : kd q0 = 9) (hk : ∀ (x3 : Int32) (x4 : Int32) (μ : Mem), Ex a0 RX9 cX9_rowsOf 6 (some .int) 1 none (fun x => (some (.int x.1), x.2)) 45 [(0, .ref (a0 + q0)), (2, .int x2)] [] μ (k x3 x4 μ)) : ∀ (n : Nat) (x3 : Int32) (x4 : Int32) (μ : Mem), Ex a0 RX9 cX9_rowsOf 6 (some .int) 1 none (fun x => (some (.int x.1), x.2)) 12 [(0, .ref (a0 + q0)), (2, .int x2), (3, .int x3), (4, .int x4)] [] μ (f_X9_rowsOf_L12 F q0 x2 k n x3 x4 μ) := by
  intro n
  induction n with
  | zero => intro x3 x4 μ; exact Ex_none
  | succ n ih =>
    intro x3 x4 μ
    rw [f_X9_rowsOf_L12]
    refine Ex_iload dX9_rowsOf_12 3 rfl ?_
    refine Ex_if_lt (tgt := 45) dX9_rowsOf_14 (by decide) ?_ ?_
    · refine Ex_perm [0, 1] rfl ?_
      exact hk x3 x4 μ
    · refine Ex_aload_n dX9_rowsOf_17 rfl 0 rfl ?_
      refine Ex_get (v := .ref (a0 + (q0 + 15))) fgX9_54 hq0 (by decide) rfl dX9_rowsOf_18 ?_
      refine Ex_iload dX9_rowsOf_21 3 rfl ?_
      refine Ex_iload_n dX9_rowsOf_23 rfl 2 rfl ?_
      refine Ex_iconst (v := 5) dX9_rowsOf_24 (by decide) ?_
      refine Ex_iremC dX9_rowsOf_25 (by decide) ?_
      refine Ex_iast 5 (kn_9_15 hq0) (by decide) dX9_rowsOf_26 (fun μ_1 => ?_)
      refine Ex_iload_n dX9_rowsOf_27 rfl 2 rfl ?_
      refine Ex_iconst (v := 5) dX9_rowsOf_28 (by decide) ?_
      refine Ex_idivC dX9_rowsOf_29 (by decide) ?_
      refine Ex_istore_n (L2 := [(3, .int (x3 / 5)), (0, .ref (a0 + q0)), (2, .int x2), (4, .int x4)]) dX9_rowsOf_30 rfl (by decide) rfl ?_
      refine Ex_aload_n dX9_rowsOf_31 rfl 1 rfl ?_
      refine Ex_get (v := .ref (a0 + (q0 + 16))) fgX9_57 hq0 (by decide) rfl dX9_rowsOf_32 ?_
      refine Ex_iload dX9_rowsOf_35 3 rfl ?_
      refine Ex_iconst (v := 0) dX9_rowsOf_37 (by decide) ?_
      refine Ex_iast 5 (kn_9_16 hq0) (by decide) dX9_rowsOf_38 (fun μ_2 => ?_)
      refine Ex_iinc (v := x4 + (-1)) (L2 := [(4, .int (x4 + (-1))), (3, .int (x3 / 5)), (0, .ref (a0 + q0)), (2, .int x2)]) dX9_rowsOf_39 3 rfl rfl (by decide) rfl ?_
      refine Ex_goto (tgt := 12) dX9_rowsOf_42 (by decide) ?_
      refine Ex_perm [2, 3, 1, 0] rfl ?_
      exact ih (x3 / 5) (x4 + (-1)) μ_2

def f_X9_rowsOf_L51 (F : Nat) (q0 : Nat) (x2 : Int32) (k : Int32 → Int32 → Mem → Option (Int32 × Mem)) : Nat → Int32 → Int32 → Mem → Option (Int32 × Mem)
  | 0, _, _, _ => none
  | n + 1, x4, x5, μ => (if x5 < (gI μ (q0 + 7) 0) then if ix x5 5 = true then (if x4 < (gI μ (q0 + 15) x5.toNatClampNeg) then some ((-9), μ) else if ix x5 5 = true then (if (gI μ (q0 + 15) x5.toNatClampNeg) = x4 then if ix x5 5 = true then if ix (gI μ (q0 + 15) x5.toNatClampNeg) 5 = true then (f_X9_wide F μ q0 x5).bind (fun v_10 => if ix (gI μ (q0 + 15) x5.toNatClampNeg) 5 = true then lt (sI μ (q0 + 16) ((gI μ (q0 + 15) x5.toNatClampNeg).toNatClampNeg) ((gI μ (q0 + 16) ((gI μ (q0 + 15) x5.toNatClampNeg).toNatClampNeg)) + v_10)) (fun μ_13 => if ix x5 5 = true then if ix (gI μ_13 (q0 + 15) x5.toNatClampNeg) 5 = true then (if x2 < (gI μ_13 (q0 + 16) ((gI μ_13 (q0 + 15) x5.toNatClampNeg).toNatClampNeg)) then some ((-9), μ_13) else f_X9_rowsOf_L51 F q0 x2 k n (x4 + 1) (x5 + 1) μ_13) else none else none) else none) else none else none else if ix x5 5 = true then if ix (gI μ (q0 + 15) x5.toNatClampNeg) 5 = true then (f_X9_wide F μ q0 x5).bind (fun v_6 => if ix (gI μ (q0 + 15) x5.toNatClampNeg) 5 = true then lt (sI μ (q0 + 16) ((gI μ (q0 + 15) x5.toNatClampNeg).toNatClampNeg) ((gI μ (q0 + 16) ((gI μ (q0 + 15) x5.toNatClampNeg).toNatClampNeg)) + v_6)) (fun μ_9 => if ix x5 5 = true then if ix (gI μ_9 (q0 + 15) x5.toNatClampNeg) 5 = true then (if x2 < (gI μ_9 (q0 + 16) ((gI μ_9 (q0 + 15) x5.toNatClampNeg).toNatClampNeg)) then some ((-9), μ_9) else f_X9_rowsOf_L51 F q0 x2 k n x4 (x5 + 1) μ_9) else none else none) else none) else none else none) else none) else none else k x4 x5 μ)
set_option maxRecDepth 100000 in
set_option maxHeartbeats 4000000 in
theorem c_X9_rowsOf_L51 (a0 : Nat) (F : Nat) (q0 : Nat) (x2 : Int32) (k : Int32 → Int32 → Mem → Option (Int32 × Mem)) (hq0 : kd q0 = 9) (hk : ∀ (x4 : Int32) (x5 : Int32) (μ : Mem), Ex a0 RX9 cX9_rowsOf 6 (some .int) 1 none (fun x => (some (.int x.1), x.2)) 146 [(4, .int x4)] [] μ (k x4 x5 μ)) : ∀ (n : Nat) (x4 : Int32) (x5 : Int32) (μ : Mem), Ex a0 RX9 cX9_rowsOf 6 (some .int) 1 none (fun x => (some (.int x.1), x.2)) 51 [(0, .ref (a0 + q0)), (2, .int x2), (4, .int x4), (5, .int x5)] [] μ (f_X9_rowsOf_L51 F q0 x2 k n x4 x5 μ) := by
  intro n
  induction n with
  | zero => intro x4 x5 μ; exact Ex_none
  | succ n ih =>
    intro x4 x5 μ
    rw [f_X9_rowsOf_L51]
    refine Ex_iload dX9_rowsOf_51 3 rfl ?_
    refine Ex_aload_n dX9_rowsOf_53 rfl 0 rfl ?_
    refine Ex_get (v := .ref (a0 + (q0 + 7))) fgX9_29 hq0 (by decide) rfl dX9_rowsOf_54 ?_
    refine Ex_iconst (v := 0) dX9_rowsOf_57 (by decide) ?_
    refine Ex_ialdC (j := 0) 2 (kn_9_7 hq0) (by decide) (by decide) (by decide) dX9_rowsOf_58 ?_
    refine Ex_icmp_ge (tgt := 146) dX9_rowsOf_59 (by decide) ?_ ?_
    · refine Ex_perm [2] rfl ?_
      exact hk x4 x5 μ
    · refine Ex_aload_n dX9_rowsOf_62 rfl 0 rfl ?_
      refine Ex_get (v := .ref (a0 + (q0 + 15))) fgX9_54 hq0 (by decide) rfl dX9_rowsOf_63 ?_
      refine Ex_iload dX9_rowsOf_66 3 rfl ?_
      refine Ex_iald 5 (kn_9_15 hq0) (by decide) dX9_rowsOf_68 ?_
      refine Ex_iload dX9_rowsOf_69 2 rfl ?_
      refine Ex_icmp_le (tgt := 77) dX9_rowsOf_71 (by decide) ?_ ?_
      · refine Ex_aload_n dX9_rowsOf_77 rfl 0 rfl ?_
        refine Ex_get (v := .ref (a0 + (q0 + 15))) fgX9_54 hq0 (by decide) rfl dX9_rowsOf_78 ?_
        refine Ex_iload dX9_rowsOf_81 3 rfl ?_
        refine Ex_iald 5 (kn_9_15 hq0) (by decide) dX9_rowsOf_83 ?_
        refine Ex_iload dX9_rowsOf_84 2 rfl ?_
        refine Ex_icmp_ne (tgt := 96) dX9_rowsOf_86 (by decide) ?_ ?_
        · refine Ex_iload dX9_rowsOf_96 2 rfl ?_
          refine Ex_istore (L2 := [(4, .int x4), (0, .ref (a0 + q0)), (2, .int x2), (5, .int x5)]) dX9_rowsOf_98 (by decide) rfl ?_
          refine Ex_aload_n dX9_rowsOf_100 rfl 1 rfl ?_
          refine Ex_get (v := .ref (a0 + (q0 + 16))) fgX9_57 hq0 (by decide) rfl dX9_rowsOf_101 ?_
          refine Ex_aload_n dX9_rowsOf_104 rfl 1 rfl ?_
          refine Ex_get (v := .ref (a0 + (q0 + 15))) fgX9_54 hq0 (by decide) rfl dX9_rowsOf_105 ?_
          refine Ex_iload dX9_rowsOf_108 3 rfl ?_
          refine Ex_iald 5 (kn_9_15 hq0) (by decide) dX9_rowsOf_110 ?_
          refine Ex_dup2 dX9_rowsOf_111 rfl rfl ?_
          refine Ex_iald 5 (kn_9_16 hq0) (by decide) dX9_rowsOf_112 ?_
          refine Ex_aload_n dX9_rowsOf_113 rfl 1 rfl ?_
          refine Ex_iload dX9_rowsOf_114 3 rfl ?_
          refine Ex_callVR (n := 1) (dp2 := 0) [.int x5] cvX9_124 hq0 rfl rfl (by decide) (by decide) (Nat.le_of_ble_eq_true rfl) rfl (fun v hv => c_X9_wide a0 F μ q0 x5 hq0 hv) dX9_rowsOf_116 (fun v_6 hv_8 => ?_)
          refine Ex_iadd dX9_rowsOf_119 ?_
          refine Ex_iast 5 (kn_9_16 hq0) (by decide) dX9_rowsOf_120 (fun μ_9 => ?_)
          refine Ex_aload_n dX9_rowsOf_121 rfl 1 rfl ?_
          refine Ex_get (v := .ref (a0 + (q0 + 16))) fgX9_57 hq0 (by decide) rfl dX9_rowsOf_122 ?_
          refine Ex_aload_n dX9_rowsOf_125 rfl 1 rfl ?_
          refine Ex_get (v := .ref (a0 + (q0 + 15))) fgX9_54 hq0 (by decide) rfl dX9_rowsOf_126 ?_
          refine Ex_iload dX9_rowsOf_129 3 rfl ?_
          refine Ex_iald 5 (kn_9_15 hq0) (by decide) dX9_rowsOf_131 ?_
          refine Ex_iald 5 (kn_9_16 hq0) (by decide) dX9_rowsOf_132 ?_
          refine Ex_iload_n dX9_rowsOf_133 rfl 2 rfl ?_
          refine Ex_icmp_le (tgt := 140) dX9_rowsOf_134 (by decide) ?_ ?_
          · refine Ex_iinc (v := x5 + 1) (L2 := [(5, .int (x5 + 1)), (4, .int x4), (0, .ref (a0 + q0)), (2, .int x2)]) dX9_rowsOf_140 3 rfl rfl (by decide) rfl ?_
            refine Ex_goto (tgt := 51) dX9_rowsOf_143 (by decide) ?_
            refine Ex_perm [2, 3, 1, 0] rfl ?_
            exact ih x4 (x5 + 1) μ_9
          · refine Ex_bipush (v := (-9)) dX9_rowsOf_137 (by decide) ?_
            exact Ex_iret dX9_rowsOf_139 rfl (fun ty h => by cases h; rfl)
        · refine Ex_iload dX9_rowsOf_89 2 rfl ?_
          refine Ex_iconst (v := 1) dX9_rowsOf_91 (by decide) ?_
          refine Ex_iadd dX9_rowsOf_92 ?_
          refine Ex_goto (tgt := 98) dX9_rowsOf_93 (by decide) ?_
          refine Ex_istore (L2 := [(4, .int (x4 + 1)), (0, .ref (a0 + q0)), (2, .int x2), (5, .int x5)]) dX9_rowsOf_98 (by decide) rfl ?_
          refine Ex_aload_n dX9_rowsOf_100 rfl 1 rfl ?_
          refine Ex_get (v := .ref (a0 + (q0 + 16))) fgX9_57 hq0 (by decide) rfl dX9_rowsOf_101 ?_
          refine Ex_aload_n dX9_rowsOf_104 rfl 1 rfl ?_
          refine Ex_get (v := .ref (a0 + (q0 + 15))) fgX9_54 hq0 (by decide) rfl dX9_rowsOf_105 ?_
          refine Ex_iload dX9_rowsOf_108 3 rfl ?_
          refine Ex_iald 5 (kn_9_15 hq0) (by decide) dX9_rowsOf_110 ?_
          refine Ex_dup2 dX9_rowsOf_111 rfl rfl ?_
          refine Ex_iald 5 (kn_9_16 hq0) (by decide) dX9_rowsOf_112 ?_
          refine Ex_aload_n dX9_rowsOf_113 rfl 1 rfl ?_
          refine Ex_iload dX9_rowsOf_114 3 rfl ?_
          refine Ex_callVR (n := 1) (dp2 := 0) [.int x5] cvX9_124 hq0 rfl rfl (by decide) (by decide) (Nat.le_of_ble_eq_true rfl) rfl (fun v hv => c_X9_wide a0 F μ q0 x5 hq0 hv) dX9_rowsOf_116 (fun v_10 hv_12 => ?_)
          refine Ex_iadd dX9_rowsOf_119 ?_
          refine Ex_iast 5 (kn_9_16 hq0) (by decide) dX9_rowsOf_120 (fun μ_13 => ?_)
          refine Ex_aload_n dX9_rowsOf_121 rfl 1 rfl ?_
          refine Ex_get (v := .ref (a0 + (q0 + 16))) fgX9_57 hq0 (by decide) rfl dX9_rowsOf_122 ?_
          refine Ex_aload_n dX9_rowsOf_125 rfl 1 rfl ?_
          refine Ex_get (v := .ref (a0 + (q0 + 15))) fgX9_54 hq0 (by decide) rfl dX9_rowsOf_126 ?_
          refine Ex_iload dX9_rowsOf_129 3 rfl ?_
          refine Ex_iald 5 (kn_9_15 hq0) (by decide) dX9_rowsOf_131 ?_
          refine Ex_iald 5 (kn_9_16 hq0) (by decide) dX9_rowsOf_132 ?_
          refine Ex_iload_n dX9_rowsOf_133 rfl 2 rfl ?_
          refine Ex_icmp_le (tgt := 140) dX9_rowsOf_134 (by decide) ?_ ?_
          · refine Ex_iinc (v := x5 + 1) (L2 := [(5, .int (x5 + 1)), (4, .int (x4 + 1)), (0, .ref (a0 + q0)), (2, .int x2)]) dX9_rowsOf_140 3 rfl rfl (by decide) rfl ?_
            refine Ex_goto (tgt := 51) dX9_rowsOf_143 (by decide) ?_
            refine Ex_perm [2, 3, 1, 0] rfl ?_
            exact ih (x4 + 1) (x5 + 1) μ_13
          · refine Ex_bipush (v := (-9)) dX9_rowsOf_137 (by decide) ?_
            exact Ex_iret dX9_rowsOf_139 rfl (fun ty h => by cases h; rfl)
      · refine Ex_bipush (v := (-9)) dX9_rowsOf_74 (by decide) ?_
        exact Ex_iret dX9_rowsOf_76 rfl (fun ty h => by cases h; rfl)
def f_X9_rowsOf (F : Nat) (μ : Mem) (t : Nat) (p1 : Int32) (p2 : Int32) : Option (Int32 × Mem) := f_X9_rowsOf_L12 F t p2 (fun x3_3 x4_4 μ_5 => f_X9_rowsOf_L51 F t p2 (fun x4_14 x5_15 μ_16 => some (x4_14, μ_16)) F 0 0 μ_5) F p1 ((gI μ (t + 7) 0) - 1) μ
set_option maxRecDepth 100000 in
set_option maxHeartbeats 4000000 in
theorem c_X9_rowsOf (a0 F : Nat) (μ : Mem) (t : Nat) (p1 : Int32) (p2 : Int32) (hk0 : kd t = 9) {v : Int32} {μ2 : Mem} (hr : f_X9_rowsOf F μ t p1 p2 = some (v, μ2)) : Ct a0 yX9_rowsOf cX9_rowsOf 6 (some .int) 1 [.ref (a0 + t), .int p1, .int p2] μ (some (.int v)) μ2 := by
  refine Ct_of (own := RX9) (ι := (fun x => (some (.int x.1), x.2))) (o := f_X9_rowsOf F μ t p1 p2) (by decide +kernel) rfl (Nat.le_of_ble_eq_true rfl) ?_ hr rfl ⟨_, rfl⟩
  show Ex a0 RX9 cX9_rowsOf 6 (some .int) 1 none (fun x => (some (.int x.1), x.2)) 0 [(0, .ref (a0 + t)), (1, .int p1), (2, .int p2)] [] μ (f_X9_rowsOf F μ t p1 p2)
  unfold f_X9_rowsOf
  refine Ex_iload_n dX9_rowsOf_0 rfl 1 rfl ?_
  refine Ex_istore_n (L2 := [(3, .int p1), (0, .ref (a0 + t)), (1, .int p1), (2, .int p2)]) dX9_rowsOf_1 rfl (by decide) rfl ?_
  refine Ex_aload_n dX9_rowsOf_2 rfl 1 rfl ?_
  refine Ex_get (v := .ref (a0 + (t + 7))) fgX9_29 hk0 (by decide) rfl dX9_rowsOf_3 ?_
  refine Ex_iconst (v := 0) dX9_rowsOf_6 (by decide) ?_
  refine Ex_ialdC (j := 0) 2 (kn_9_7 hk0) (by decide) (by decide) (by decide) dX9_rowsOf_7 ?_
  refine Ex_iconst (v := 1) dX9_rowsOf_8 (by decide) ?_
  refine Ex_isub dX9_rowsOf_9 ?_
  refine Ex_istore (L2 := [(4, .int ((gI μ (t + 7) 0) - 1)), (3, .int p1), (0, .ref (a0 + t)), (1, .int p1), (2, .int p2)]) dX9_rowsOf_10 (by decide) rfl ?_
  refine Ex_perm [2, 4, 1, 0] rfl ?_
  refine c_X9_rowsOf_L12 a0 F t p2 _ hk0 (fun x3_3 x4_4 μ_5 => ?_) F p1 ((gI μ (t + 7) 0) - 1) μ
  refine Ex_iconst (v := 0) dX9_rowsOf_45 (by decide) ?_
  refine Ex_istore (L2 := [(4, .int 0), (0, .ref (a0 + t)), (2, .int p2)]) dX9_rowsOf_46 (by decide) rfl ?_
  refine Ex_iconst (v := 0) dX9_rowsOf_48 (by decide) ?_
  refine Ex_istore (L2 := [(5, .int 0), (4, .int 0), (0, .ref (a0 + t)), (2, .int p2)]) dX9_rowsOf_49 (by decide) rfl ?_
  refine Ex_perm [2, 3, 1, 0] rfl ?_
  refine c_X9_rowsOf_L51 a0 F t p2 _ hk0 (fun x4_14 x5_15 μ_16 => ?_) F 0 0 μ_5
  refine Ex_iload dX9_rowsOf_146 0 rfl ?_
  exact Ex_iret dX9_rowsOf_148 rfl (fun ty h => by cases h; rfl)

def f_X9_shuts (F : Nat) (μ : Mem) (t : Nat) (p1 : Int32) (p2 : Int32) : Option (Int32 × Mem) := (f_X9_isLane F μ t p1).bind (fun v_1 => (if v_1 = 0 then some ((-1), μ) else (f_X9_in F μ p2 0 1).bind (fun v_4 => (if v_4 = 0 then some ((-1), μ) else (if (((gI μ (t + 12) 15) >>> (p1 &&& 31)) &&& 1) = p2 then some ((-2), μ) else (f_X9_know F μ t).bind (fun μ_8 => lt (sI μ_8 (t + 12) 15 ((gI μ_8 (t + 12) 15) ^^^ (1 <<< (p1 &&& 31)))) (fun μ_10 => (f_X9_manyOf F μ_10 (gI μ_10 (t + 12) 15)).bind (fun v_11 => some (v_11, μ_10)))))))))
set_option maxRecDepth 100000 in
set_option maxHeartbeats 4000000 in
theorem c_X9_shuts (a0 F : Nat) (μ : Mem) (t : Nat) (p1 : Int32) (p2 : Int32) (hk0 : kd t = 9) {v : Int32} {μ2 : Mem} (hr : f_X9_shuts F μ t p1 p2 = some (v, μ2)) : Ct a0 yX9_shuts cX9_shuts 3 (some .int) 2 [.ref (a0 + t), .int p1, .int p2] μ (some (.int v)) μ2 := by
  refine Ct_of (own := RX9) (ι := (fun x => (some (.int x.1), x.2))) (o := f_X9_shuts F μ t p1 p2) (by decide +kernel) rfl (Nat.le_of_ble_eq_true rfl) ?_ hr rfl ⟨_, rfl⟩
  show Ex a0 RX9 cX9_shuts 3 (some .int) 2 none (fun x => (some (.int x.1), x.2)) 0 [(0, .ref (a0 + t)), (1, .int p1), (2, .int p2)] [] μ (f_X9_shuts F μ t p1 p2)
  unfold f_X9_shuts
  refine Ex_aload_n dX9_shuts_0 rfl 0 rfl ?_
  refine Ex_iload_n dX9_shuts_1 rfl 1 rfl ?_
  refine Ex_callVR (n := 1) (dp2 := 1) [.int p1] cvX9_134 hk0 rfl rfl (by decide) (by decide) (Nat.le_of_ble_eq_true rfl) rfl (fun v hv => c_X9_isLane a0 F μ t p1 hk0 hv) dX9_shuts_2 (fun v_1 hv_3 => ?_)
  refine Ex_if_eq (tgt := 17) dX9_shuts_5 (by decide) ?_ ?_
  · refine Ex_iconst (v := (-1)) dX9_shuts_17 (by decide) ?_
    exact Ex_iret dX9_shuts_18 rfl (fun ty h => by cases h; rfl)
  · refine Ex_iload_n dX9_shuts_8 rfl 2 rfl ?_
    refine Ex_iconst (v := 0) dX9_shuts_9 (by decide) ?_
    refine Ex_iconst (v := 1) dX9_shuts_10 (by decide) ?_
    refine Ex_callSR (n := 3) (dp2 := 0) [.int p2, .int 0, .int 1] cvX9_72 rfl (by decide) (by decide) (Nat.le_of_ble_eq_true rfl) rfl (fun v hv => c_X9_in a0 F μ p2 0 1 hv) dX9_shuts_11 (fun v_4 hv_6 => ?_)
    refine Ex_if_ne (tgt := 19) dX9_shuts_14 (by decide) ?_ ?_
    · refine Ex_aload_n dX9_shuts_19 rfl 0 rfl ?_
      refine Ex_get (v := .ref (a0 + (t + 12))) fgX9_44 hk0 (by decide) rfl dX9_shuts_20 ?_
      refine Ex_bipush (v := 15) dX9_shuts_23 (by decide) ?_
      refine Ex_ialdC (j := 15) 531 (kn_9_12 hk0) (by decide) (by decide) (by decide) dX9_shuts_25 ?_
      refine Ex_iload_n dX9_shuts_26 rfl 1 rfl ?_
      refine Ex_ishr dX9_shuts_27 ?_
      refine Ex_iconst (v := 1) dX9_shuts_28 (by decide) ?_
      refine Ex_iand dX9_shuts_29 ?_
      refine Ex_iload_n dX9_shuts_30 rfl 2 rfl ?_
      refine Ex_icmp_ne (tgt := 37) dX9_shuts_31 (by decide) ?_ ?_
      · refine Ex_aload_n dX9_shuts_37 rfl 0 rfl ?_
        refine Ex_callVV (n := 0) (dp2 := 0) [] cvX9_147 hk0 rfl rfl (by decide) (by decide) (Nat.le_of_ble_eq_true rfl) rfl (fun μ2 hv => c_X9_know a0 F μ t hk0 hv) dX9_shuts_38 (fun μ_8 hv_9 => ?_)
        refine Ex_aload_n dX9_shuts_41 rfl 0 rfl ?_
        refine Ex_get (v := .ref (a0 + (t + 12))) fgX9_44 hk0 (by decide) rfl dX9_shuts_42 ?_
        refine Ex_bipush (v := 15) dX9_shuts_45 (by decide) ?_
        refine Ex_dup2 dX9_shuts_47 rfl rfl ?_
        refine Ex_ialdC (j := 15) 531 (kn_9_12 hk0) (by decide) (by decide) (by decide) dX9_shuts_48 ?_
        refine Ex_iconst (v := 1) dX9_shuts_49 (by decide) ?_
        refine Ex_iload_n dX9_shuts_50 rfl 1 rfl ?_
        refine Ex_ishl dX9_shuts_51 ?_
        refine Ex_ixor dX9_shuts_52 ?_
        refine Ex_iastC (j := 15) 531 (kn_9_12 hk0) (by decide) (by decide) (by decide) dX9_shuts_53 (fun μ_10 => ?_)
        refine Ex_aload_n dX9_shuts_54 rfl 0 rfl ?_
        refine Ex_get (v := .ref (a0 + (t + 12))) fgX9_44 hk0 (by decide) rfl dX9_shuts_55 ?_
        refine Ex_bipush (v := 15) dX9_shuts_58 (by decide) ?_
        refine Ex_ialdC (j := 15) 531 (kn_9_12 hk0) (by decide) (by decide) (by decide) dX9_shuts_60 ?_
        refine Ex_callSR (n := 1) (dp2 := 0) [.int (gI μ_10 (t + 12) 15)] cvX9_157 rfl (by decide) (by decide) (Nat.le_of_ble_eq_true rfl) rfl (fun v hv => c_X9_manyOf a0 F μ_10 (gI μ_10 (t + 12) 15) hv) dX9_shuts_61 (fun v_11 hv_13 => ?_)
        exact Ex_iret dX9_shuts_64 rfl (fun ty h => by cases h; rfl)
      · refine Ex_bipush (v := (-2)) dX9_shuts_34 (by decide) ?_
        exact Ex_iret dX9_shuts_36 rfl (fun ty h => by cases h; rfl)
    · refine Ex_iconst (v := (-1)) dX9_shuts_17 (by decide) ?_
      exact Ex_iret dX9_shuts_18 rfl (fun ty h => by cases h; rfl)

def f_X9_theatre_L30 (F : Nat) (μ : Mem) (q0 : Nat) (x1 : Int32) (x2 : Int32) (k : Int32 → Int32 → Option (Int32 × Mem)) : Nat → Int32 → Int32 → Option (Int32 × Mem)
  | 0, _, _ => none
  | n + 1, x3, x4 => (if x4 < (gI μ (q0 + 7) 0) then f_X9_theatre_L30 F μ q0 x1 x2 k n (x3 * 5) (x4 + 1) else k x3 x4)
set_option maxRecDepth 100000 in
set_option maxHeartbeats 4000000 in
theorem c_X9_theatre_L30 (a0 : Nat) (F : Nat) (μ : Mem) (q0 : Nat) (x1 : Int32) (x2 : Int32) (k : Int32 → Int32 → Option (Int32 × Mem)) (hq0 : kd q0 = 9) (hk : ∀ (x3 : Int32) (x4 : Int32), Ex a0 RX9 cX9_theatre 8 (some .int) 2 none (fun x => (some (.int x.1), x.2)) 51 [(0, .ref (a0 + q0)), (1, .int x1), (2, .int x2), (3, .int x3)] [] μ (k x3 x4)) : ∀ (n : Nat) (x3 : Int32) (x4 : Int32), Ex a0 RX9 cX9_theatre 8 (some .int) 2 none (fun x => (some (.int x.1), x.2)) 30 [(0, .ref (a0 + q0)), (1, .int x1), (2, .int x2), (3, .int x3), (4, .int x4)] [] μ (f_X9_theatre_L30 F μ q0 x1 x2 k n x3 x4) := by
  intro n
  induction n with
  | zero => intro x3 x4; exact Ex_none
  | succ n ih =>
    intro x3 x4
    rw [f_X9_theatre_L30]
    refine Ex_iload dX9_theatre_30 4 rfl ?_
    refine Ex_aload_n dX9_theatre_32 rfl 0 rfl ?_
    refine Ex_get (v := .ref (a0 + (q0 + 7))) fgX9_29 hq0 (by decide) rfl dX9_theatre_33 ?_
    refine Ex_iconst (v := 0) dX9_theatre_36 (by decide) ?_
    refine Ex_ialdC (j := 0) 2 (kn_9_7 hq0) (by decide) (by decide) (by decide) dX9_theatre_37 ?_
    refine Ex_icmp_ge (tgt := 51) dX9_theatre_38 (by decide) ?_ ?_
    · refine Ex_perm [0, 1, 2, 3] rfl ?_
      exact hk x3 x4
    · refine Ex_iload_n dX9_theatre_41 rfl 3 rfl ?_
      refine Ex_iconst (v := 5) dX9_theatre_42 (by decide) ?_
      refine Ex_imul dX9_theatre_43 ?_
      refine Ex_istore_n (L2 := [(3, .int (x3 * 5)), (0, .ref (a0 + q0)), (1, .int x1), (2, .int x2), (4, .int x4)]) dX9_theatre_44 rfl (by decide) rfl ?_
      refine Ex_iinc (v := x4 + 1) (L2 := [(4, .int (x4 + 1)), (3, .int (x3 * 5)), (0, .ref (a0 + q0)), (1, .int x1), (2, .int x2)]) dX9_theatre_45 4 rfl rfl (by decide) rfl ?_
      refine Ex_goto (tgt := 30) dX9_theatre_48 (by decide) ?_
      refine Ex_perm [2, 3, 4, 1, 0] rfl ?_
      exact ih (x3 * 5) (x4 + 1)

def f_X9_theatre_L62 (F : Nat) (q0 : Nat) (x1 : Int32) (x2 : Int32) (x3 : Int32) (k : Int32 → Int32 → Int32 → Mem → Option (Int32 × Mem)) : Nat → Int32 → Int32 → Int32 → Mem → Option (Int32 × Mem)
  | 0, _, _, _, _ => none
  | n + 1, x4, x5, x6, μ => (if x6 < x3 then bW (f_X9_rowsOf F μ q0 x6 x1) (fun v_6 μ_7 => (if v_6 = (-9) then f_X9_theatre_L62 F q0 x1 x2 x3 k n x4 x5 (x6 + 1) μ_7 else (if x5 = (-9) then f_X9_theatre_L62 F q0 x1 x2 x3 k n x6 v_6 (x6 + 1) μ_7 else (if v_6 < x5 then f_X9_theatre_L62 F q0 x1 x2 x3 k n x6 v_6 (x6 + 1) μ_7 else f_X9_theatre_L62 F q0 x1 x2 x3 k n x4 x5 (x6 + 1) μ_7)))) else k x4 x5 x6 μ)
set_option maxRecDepth 100000 in
set_option maxHeartbeats 4000000 in
theorem c_X9_theatre_L62 (a0 : Nat) (F : Nat) (q0 : Nat) (x1 : Int32) (x2 : Int32) (x3 : Int32) (k : Int32 → Int32 → Int32 → Mem → Option (Int32 × Mem)) (hq0 : kd q0 = 9) (hk : ∀ (x4 : Int32) (x5 : Int32) (x6 : Int32) (μ : Mem), Ex a0 RX9 cX9_theatre 8 (some .int) 2 none (fun x => (some (.int x.1), x.2)) 112 [(0, .ref (a0 + q0)), (1, .int x1), (2, .int x2), (4, .int x4), (5, .int x5)] [] μ (k x4 x5 x6 μ)) : ∀ (n : Nat) (x4 : Int32) (x5 : Int32) (x6 : Int32) (μ : Mem), Ex a0 RX9 cX9_theatre 8 (some .int) 2 none (fun x => (some (.int x.1), x.2)) 62 [(0, .ref (a0 + q0)), (1, .int x1), (2, .int x2), (3, .int x3), (4, .int x4), (5, .int x5), (6, .int x6)] [] μ (f_X9_theatre_L62 F q0 x1 x2 x3 k n x4 x5 x6 μ) := by
  intro n
  induction n with
  | zero => intro x4 x5 x6 μ; exact Ex_none
  | succ n ih =>
    intro x4 x5 x6 μ
    rw [f_X9_theatre_L62]
    refine Ex_iload dX9_theatre_62 6 rfl ?_
    refine Ex_iload_n dX9_theatre_64 rfl 3 rfl ?_
    refine Ex_icmp_ge (tgt := 112) dX9_theatre_65 (by decide) ?_ ?_
    · refine Ex_perm [0, 1, 2, 4, 5] rfl ?_
      exact hk x4 x5 x6 μ
    · refine Ex_aload_n dX9_theatre_68 rfl 0 rfl ?_
      refine Ex_iload dX9_theatre_69 6 rfl ?_
      refine Ex_iload_n dX9_theatre_71 rfl 1 rfl ?_
      refine Ex_callVW (n := 2) (dp2 := 1) [.int x6, .int x1] cvX9_178 hq0 rfl rfl (by decide) (by decide) (Nat.le_of_ble_eq_true rfl) rfl (fun v μ2 hv => c_X9_rowsOf a0 F μ q0 x6 x1 hq0 hv) dX9_theatre_72 (fun v_6 μ_7 hv_8 => ?_)
      refine Ex_istore (L2 := [(7, .int v_6), (0, .ref (a0 + q0)), (1, .int x1), (2, .int x2), (3, .int x3), (4, .int x4), (5, .int x5), (6, .int x6)]) dX9_theatre_75 (by decide) rfl ?_
      refine Ex_iload dX9_theatre_77 0 rfl ?_
      refine Ex_bipush (v := (-9)) dX9_theatre_79 (by decide) ?_
      refine Ex_icmp_eq (tgt := 106) dX9_theatre_81 (by decide) ?_ ?_
      · refine Ex_iinc (v := x6 + 1) (L2 := [(6, .int (x6 + 1)), (7, .int v_6), (0, .ref (a0 + q0)), (1, .int x1), (2, .int x2), (3, .int x3), (4, .int x4), (5, .int x5)]) dX9_theatre_106 7 rfl rfl (by decide) rfl ?_
        refine Ex_goto (tgt := 62) dX9_theatre_109 (by decide) ?_
        refine Ex_perm [2, 3, 4, 5, 6, 7, 0] rfl ?_
        exact ih x4 x5 (x6 + 1) μ_7
      · refine Ex_iload dX9_theatre_84 6 rfl ?_
        refine Ex_bipush (v := (-9)) dX9_theatre_86 (by decide) ?_
        refine Ex_icmp_eq (tgt := 98) dX9_theatre_88 (by decide) ?_ ?_
        · refine Ex_iload dX9_theatre_98 7 rfl ?_
          refine Ex_istore (L2 := [(4, .int x6), (7, .int v_6), (0, .ref (a0 + q0)), (1, .int x1), (2, .int x2), (3, .int x3), (5, .int x5), (6, .int x6)]) dX9_theatre_100 (by decide) rfl ?_
          refine Ex_iload dX9_theatre_102 1 rfl ?_
          refine Ex_istore (L2 := [(5, .int v_6), (4, .int x6), (7, .int v_6), (0, .ref (a0 + q0)), (1, .int x1), (2, .int x2), (3, .int x3), (6, .int x6)]) dX9_theatre_104 (by decide) rfl ?_
          refine Ex_iinc (v := x6 + 1) (L2 := [(6, .int (x6 + 1)), (5, .int v_6), (4, .int x6), (7, .int v_6), (0, .ref (a0 + q0)), (1, .int x1), (2, .int x2), (3, .int x3)]) dX9_theatre_106 7 rfl rfl (by decide) rfl ?_
          refine Ex_goto (tgt := 62) dX9_theatre_109 (by decide) ?_
          refine Ex_perm [4, 5, 6, 7, 2, 1, 0] rfl ?_
          exact ih x6 v_6 (x6 + 1) μ_7
        · refine Ex_iload dX9_theatre_91 0 rfl ?_
          refine Ex_iload dX9_theatre_93 6 rfl ?_
          refine Ex_icmp_ge (tgt := 106) dX9_theatre_95 (by decide) ?_ ?_
          · refine Ex_iinc (v := x6 + 1) (L2 := [(6, .int (x6 + 1)), (7, .int v_6), (0, .ref (a0 + q0)), (1, .int x1), (2, .int x2), (3, .int x3), (4, .int x4), (5, .int x5)]) dX9_theatre_106 7 rfl rfl (by decide) rfl ?_
            refine Ex_goto (tgt := 62) dX9_theatre_109 (by decide) ?_
            refine Ex_perm [2, 3, 4, 5, 6, 7, 0] rfl ?_
            exact ih x4 x5 (x6 + 1) μ_7
          · refine Ex_iload dX9_theatre_98 7 rfl ?_
            refine Ex_istore (L2 := [(4, .int x6), (7, .int v_6), (0, .ref (a0 + q0)), (1, .int x1), (2, .int x2), (3, .int x3), (5, .int x5), (6, .int x6)]) dX9_theatre_100 (by decide) rfl ?_
            refine Ex_iload dX9_theatre_102 1 rfl ?_
            refine Ex_istore (L2 := [(5, .int v_6), (4, .int x6), (7, .int v_6), (0, .ref (a0 + q0)), (1, .int x1), (2, .int x2), (3, .int x3), (6, .int x6)]) dX9_theatre_104 (by decide) rfl ?_
            refine Ex_iinc (v := x6 + 1) (L2 := [(6, .int (x6 + 1)), (5, .int v_6), (4, .int x6), (7, .int v_6), (0, .ref (a0 + q0)), (1, .int x1), (2, .int x2), (3, .int x3)]) dX9_theatre_106 7 rfl rfl (by decide) rfl ?_
            refine Ex_goto (tgt := 62) dX9_theatre_109 (by decide) ?_
            refine Ex_perm [4, 5, 6, 7, 2, 1, 0] rfl ?_
            exact ih x6 v_6 (x6 + 1) μ_7
def f_X9_theatre (F : Nat) (μ : Mem) (t : Nat) (p1 : Int32) (p2 : Int32) : Option (Int32 × Mem) := (f_X9_in F μ p1 1 99).bind (fun v_1 => (if v_1 = 0 then some ((-1), μ) else (if p2 = (-1) then f_X9_theatre_L30 F μ t p1 p2 (fun x3_4 x4_5 => f_X9_theatre_L62 F t p1 p2 x3_4 (fun x4_9 x5_10 x6_11 μ_12 => (if x4_9 = (-9) then some (x5_10, μ_12) else (if p2 = (-1) then some (x5_10, μ_12) else bW (f_X9_rowsOf F μ_12 t x4_9 p1) (fun v_13 μ_14 => if ix p2 5 = true then some (gI μ_14 (t + 15) p2.toNatClampNeg, μ_14) else none)))) F (-9) (-9) 0 μ) F 1 0 else (f_X9_isPerson F μ t p2).bind (fun v_16 => (if v_16 = 0 then some ((-1), μ) else f_X9_theatre_L30 F μ t p1 p2 (fun x3_19 x4_20 => f_X9_theatre_L62 F t p1 p2 x3_19 (fun x4_21 x5_22 x6_23 μ_24 => (if x4_21 = (-9) then some (x5_22, μ_24) else (if p2 = (-1) then some (x5_22, μ_24) else bW (f_X9_rowsOf F μ_24 t x4_21 p1) (fun v_25 μ_26 => if ix p2 5 = true then some (gI μ_26 (t + 15) p2.toNatClampNeg, μ_26) else none)))) F (-9) (-9) 0 μ) F 1 0)))))
set_option maxRecDepth 100000 in
set_option maxHeartbeats 4000000 in
theorem c_X9_theatre (a0 F : Nat) (μ : Mem) (t : Nat) (p1 : Int32) (p2 : Int32) (hk0 : kd t = 9) {v : Int32} {μ2 : Mem} (hr : f_X9_theatre F μ t p1 p2 = some (v, μ2)) : Ct a0 yX9_theatre cX9_theatre 8 (some .int) 2 [.ref (a0 + t), .int p1, .int p2] μ (some (.int v)) μ2 := by
  refine Ct_of (own := RX9) (ι := (fun x => (some (.int x.1), x.2))) (o := f_X9_theatre F μ t p1 p2) (by decide +kernel) rfl (Nat.le_of_ble_eq_true rfl) ?_ hr rfl ⟨_, rfl⟩
  show Ex a0 RX9 cX9_theatre 8 (some .int) 2 none (fun x => (some (.int x.1), x.2)) 0 [(0, .ref (a0 + t)), (1, .int p1), (2, .int p2)] [] μ (f_X9_theatre F μ t p1 p2)
  unfold f_X9_theatre
  refine Ex_iload_n dX9_theatre_0 rfl 1 rfl ?_
  refine Ex_iconst (v := 1) dX9_theatre_1 (by decide) ?_
  refine Ex_bipush (v := 99) dX9_theatre_2 (by decide) ?_
  refine Ex_callSR (n := 3) (dp2 := 0) [.int p1, .int 1, .int 99] cvX9_72 rfl (by decide) (by decide) (Nat.le_of_ble_eq_true rfl) rfl (fun v hv => c_X9_in a0 F μ p1 1 99 hv) dX9_theatre_4 (fun v_1 hv_3 => ?_)
  refine Ex_if_eq (tgt := 23) dX9_theatre_7 (by decide) ?_ ?_
  · refine Ex_iconst (v := (-1)) dX9_theatre_23 (by decide) ?_
    exact Ex_iret dX9_theatre_24 rfl (fun ty h => by cases h; rfl)
  · refine Ex_iload_n dX9_theatre_10 rfl 2 rfl ?_
    refine Ex_iconst (v := (-1)) dX9_theatre_11 (by decide) ?_
    refine Ex_icmp_eq (tgt := 25) dX9_theatre_12 (by decide) ?_ ?_
    · refine Ex_iconst (v := 1) dX9_theatre_25 (by decide) ?_
      refine Ex_istore_n (L2 := [(3, .int 1), (0, .ref (a0 + t)), (1, .int p1), (2, .int p2)]) dX9_theatre_26 rfl (by decide) rfl ?_
      refine Ex_iconst (v := 0) dX9_theatre_27 (by decide) ?_
      refine Ex_istore (L2 := [(4, .int 0), (3, .int 1), (0, .ref (a0 + t)), (1, .int p1), (2, .int p2)]) dX9_theatre_28 (by decide) rfl ?_
      refine Ex_perm [2, 3, 4, 1, 0] rfl ?_
      refine c_X9_theatre_L30 a0 F μ t p1 p2 _ hk0 (fun x3_4 x4_5 => ?_) F 1 0
      refine Ex_bipush (v := (-9)) dX9_theatre_51 (by decide) ?_
      refine Ex_istore (L2 := [(4, .int (-9)), (0, .ref (a0 + t)), (1, .int p1), (2, .int p2), (3, .int x3_4)]) dX9_theatre_53 (by decide) rfl ?_
      refine Ex_bipush (v := (-9)) dX9_theatre_55 (by decide) ?_
      refine Ex_istore (L2 := [(5, .int (-9)), (4, .int (-9)), (0, .ref (a0 + t)), (1, .int p1), (2, .int p2), (3, .int x3_4)]) dX9_theatre_57 (by decide) rfl ?_
      refine Ex_iconst (v := 0) dX9_theatre_59 (by decide) ?_
      refine Ex_istore (L2 := [(6, .int 0), (5, .int (-9)), (4, .int (-9)), (0, .ref (a0 + t)), (1, .int p1), (2, .int p2), (3, .int x3_4)]) dX9_theatre_60 (by decide) rfl ?_
      refine Ex_perm [3, 4, 5, 6, 2, 1, 0] rfl ?_
      refine c_X9_theatre_L62 a0 F t p1 p2 x3_4 _ hk0 (fun x4_9 x5_10 x6_11 μ_12 => ?_) F (-9) (-9) 0 μ
      refine Ex_iload dX9_theatre_112 3 rfl ?_
      refine Ex_bipush (v := (-9)) dX9_theatre_114 (by decide) ?_
      refine Ex_icmp_eq (tgt := 124) dX9_theatre_116 (by decide) ?_ ?_
      · refine Ex_iload dX9_theatre_124 4 rfl ?_
        exact Ex_iret dX9_theatre_126 rfl (fun ty h => by cases h; rfl)
      · refine Ex_iload_n dX9_theatre_119 rfl 2 rfl ?_
        refine Ex_iconst (v := (-1)) dX9_theatre_120 (by decide) ?_
        refine Ex_icmp_ne (tgt := 127) dX9_theatre_121 (by decide) ?_ ?_
        · refine Ex_aload_n dX9_theatre_127 rfl 0 rfl ?_
          refine Ex_iload dX9_theatre_128 3 rfl ?_
          refine Ex_iload_n dX9_theatre_130 rfl 1 rfl ?_
          refine Ex_callVW (n := 2) (dp2 := 1) [.int x4_9, .int p1] cvX9_178 hk0 rfl rfl (by decide) (by decide) (Nat.le_of_ble_eq_true rfl) rfl (fun v μ2 hv => c_X9_rowsOf a0 F μ_12 t x4_9 p1 hk0 hv) dX9_theatre_131 (fun v_13 μ_14 hv_15 => ?_)
          refine Ex_pop dX9_theatre_134 rfl ?_
          refine Ex_aload_n dX9_theatre_135 rfl 0 rfl ?_
          refine Ex_get (v := .ref (a0 + (t + 15))) fgX9_54 hk0 (by decide) rfl dX9_theatre_136 ?_
          refine Ex_iload_n dX9_theatre_139 rfl 2 rfl ?_
          refine Ex_iald 5 (kn_9_15 hk0) (by decide) dX9_theatre_140 ?_
          exact Ex_iret dX9_theatre_141 rfl (fun ty h => by cases h; rfl)
        · refine Ex_iload dX9_theatre_124 4 rfl ?_
          exact Ex_iret dX9_theatre_126 rfl (fun ty h => by cases h; rfl)
    · refine Ex_aload_n dX9_theatre_15 rfl 0 rfl ?_
      refine Ex_iload_n dX9_theatre_16 rfl 2 rfl ?_
      refine Ex_callVR (n := 1) (dp2 := 1) [.int p2] cvX9_141 hk0 rfl rfl (by decide) (by decide) (Nat.le_of_ble_eq_true rfl) rfl (fun v hv => c_X9_isPerson a0 F μ t p2 hk0 hv) dX9_theatre_17 (fun v_16 hv_18 => ?_)
      refine Ex_if_ne (tgt := 25) dX9_theatre_20 (by decide) ?_ ?_
      · refine Ex_iconst (v := 1) dX9_theatre_25 (by decide) ?_
        refine Ex_istore_n (L2 := [(3, .int 1), (0, .ref (a0 + t)), (1, .int p1), (2, .int p2)]) dX9_theatre_26 rfl (by decide) rfl ?_
        refine Ex_iconst (v := 0) dX9_theatre_27 (by decide) ?_
        refine Ex_istore (L2 := [(4, .int 0), (3, .int 1), (0, .ref (a0 + t)), (1, .int p1), (2, .int p2)]) dX9_theatre_28 (by decide) rfl ?_
        refine Ex_perm [2, 3, 4, 1, 0] rfl ?_
        refine c_X9_theatre_L30 a0 F μ t p1 p2 _ hk0 (fun x3_19 x4_20 => ?_) F 1 0
        refine Ex_bipush (v := (-9)) dX9_theatre_51 (by decide) ?_
        refine Ex_istore (L2 := [(4, .int (-9)), (0, .ref (a0 + t)), (1, .int p1), (2, .int p2), (3, .int x3_19)]) dX9_theatre_53 (by decide) rfl ?_
        refine Ex_bipush (v := (-9)) dX9_theatre_55 (by decide) ?_
        refine Ex_istore (L2 := [(5, .int (-9)), (4, .int (-9)), (0, .ref (a0 + t)), (1, .int p1), (2, .int p2), (3, .int x3_19)]) dX9_theatre_57 (by decide) rfl ?_
        refine Ex_iconst (v := 0) dX9_theatre_59 (by decide) ?_
        refine Ex_istore (L2 := [(6, .int 0), (5, .int (-9)), (4, .int (-9)), (0, .ref (a0 + t)), (1, .int p1), (2, .int p2), (3, .int x3_19)]) dX9_theatre_60 (by decide) rfl ?_
        refine Ex_perm [3, 4, 5, 6, 2, 1, 0] rfl ?_
        refine c_X9_theatre_L62 a0 F t p1 p2 x3_19 _ hk0 (fun x4_21 x5_22 x6_23 μ_24 => ?_) F (-9) (-9) 0 μ
        refine Ex_iload dX9_theatre_112 3 rfl ?_
        refine Ex_bipush (v := (-9)) dX9_theatre_114 (by decide) ?_
        refine Ex_icmp_eq (tgt := 124) dX9_theatre_116 (by decide) ?_ ?_
        · refine Ex_iload dX9_theatre_124 4 rfl ?_
          exact Ex_iret dX9_theatre_126 rfl (fun ty h => by cases h; rfl)
        · refine Ex_iload_n dX9_theatre_119 rfl 2 rfl ?_
          refine Ex_iconst (v := (-1)) dX9_theatre_120 (by decide) ?_
          refine Ex_icmp_ne (tgt := 127) dX9_theatre_121 (by decide) ?_ ?_
          · refine Ex_aload_n dX9_theatre_127 rfl 0 rfl ?_
            refine Ex_iload dX9_theatre_128 3 rfl ?_
            refine Ex_iload_n dX9_theatre_130 rfl 1 rfl ?_
            refine Ex_callVW (n := 2) (dp2 := 1) [.int x4_21, .int p1] cvX9_178 hk0 rfl rfl (by decide) (by decide) (Nat.le_of_ble_eq_true rfl) rfl (fun v μ2 hv => c_X9_rowsOf a0 F μ_24 t x4_21 p1 hk0 hv) dX9_theatre_131 (fun v_25 μ_26 hv_27 => ?_)
            refine Ex_pop dX9_theatre_134 rfl ?_
            refine Ex_aload_n dX9_theatre_135 rfl 0 rfl ?_
            refine Ex_get (v := .ref (a0 + (t + 15))) fgX9_54 hk0 (by decide) rfl dX9_theatre_136 ?_
            refine Ex_iload_n dX9_theatre_139 rfl 2 rfl ?_
            refine Ex_iald 5 (kn_9_15 hk0) (by decide) dX9_theatre_140 ?_
            exact Ex_iret dX9_theatre_141 rfl (fun ty h => by cases h; rfl)
          · refine Ex_iload dX9_theatre_124 4 rfl ?_
            exact Ex_iret dX9_theatre_126 rfl (fun ty h => by cases h; rfl)
      · refine Ex_iconst (v := (-1)) dX9_theatre_23 (by decide) ?_
        exact Ex_iret dX9_theatre_24 rfl (fun ty h => by cases h; rfl)

def f_X9_trace (F : Nat) (μ : Mem) (t : Nat) : Option (Int64) := some (gL μ t)
set_option maxRecDepth 100000 in
set_option maxHeartbeats 4000000 in
theorem c_X9_trace (a0 F : Nat) (μ : Mem) (t : Nat) (hk0 : kd t = 9) {v : Int64} (hr : f_X9_trace F μ t = some v) : Ct a0 yX9_trace cX9_trace 1 (some .long) 0 [.ref (a0 + t)] μ (some (.long v)) μ := by
  refine Ct_of (own := RX9) (ι := (fun v => (some (.long v), μ))) (o := f_X9_trace F μ t) (by decide +kernel) rfl (Nat.le_of_ble_eq_true rfl) ?_ hr rfl rfl
  show Ex a0 RX9 cX9_trace 1 (some .long) 0 none (fun v => (some (.long v), μ)) 0 [(0, .ref (a0 + t))] [] μ (f_X9_trace F μ t)
  unfold f_X9_trace
  refine Ex_aload_n dX9_trace_0 rfl 0 rfl ?_
  refine Ex_get (v := .long (gL μ t)) fgX9_182 hk0 (by decide) rfl dX9_trace_1 ?_
  exact Ex_lret dX9_trace_4 rfl (fun ty h => by cases h; rfl)

def f_X9_type (F : Nat) (μ : Mem) (t : Nat) (p1 : Int32) : Option (Int32 × Mem) := (f_X9_in F μ p1 0 255).bind (fun v_1 => (if v_1 = 0 then some ((-1), μ) else (if (gI μ t 2) = 150 then some ((-3), μ) else if ix (gI μ t 2) 150 = true then lt (sI μ (t + 1) ((gI μ t 2).toNatClampNeg) (vp_nar .byte p1.toInt8.toInt32)) (fun μ_4 => lt (sI μ_4 t 2 ((gI μ_4 t 2) + 1)) (fun μ_5 => some (gI μ_5 t 2, μ_5))) else none)))
set_option maxRecDepth 100000 in
set_option maxHeartbeats 4000000 in
theorem c_X9_type (a0 F : Nat) (μ : Mem) (t : Nat) (p1 : Int32) (hk0 : kd t = 9) {v : Int32} {μ2 : Mem} (hr : f_X9_type F μ t p1 = some (v, μ2)) : Ct a0 yX9_type cX9_type 2 (some .int) 1 [.ref (a0 + t), .int p1] μ (some (.int v)) μ2 := by
  refine Ct_of (own := RX9) (ι := (fun x => (some (.int x.1), x.2))) (o := f_X9_type F μ t p1) (by decide +kernel) rfl (Nat.le_of_ble_eq_true rfl) ?_ hr rfl ⟨_, rfl⟩
  show Ex a0 RX9 cX9_type 2 (some .int) 1 none (fun x => (some (.int x.1), x.2)) 0 [(0, .ref (a0 + t)), (1, .int p1)] [] μ (f_X9_type F μ t p1)
  unfold f_X9_type
  refine Ex_iload_n dX9_type_0 rfl 1 rfl ?_
  refine Ex_iconst (v := 0) dX9_type_1 (by decide) ?_
  refine Ex_sipush (v := 255) dX9_type_2 (by decide) ?_
  refine Ex_callSR (n := 3) (dp2 := 0) [.int p1, .int 0, .int 255] cvX9_72 rfl (by decide) (by decide) (Nat.le_of_ble_eq_true rfl) rfl (fun v hv => c_X9_in a0 F μ p1 0 255 hv) dX9_type_5 (fun v_1 hv_3 => ?_)
  refine Ex_if_ne (tgt := 13) dX9_type_8 (by decide) ?_ ?_
  · refine Ex_aload_n dX9_type_13 rfl 0 rfl ?_
    refine Ex_get (v := .int (gI μ t 2)) fgX9_76 hk0 (by decide) rfl dX9_type_14 ?_
    refine Ex_sipush (v := 150) dX9_type_17 (by decide) ?_
    refine Ex_icmp_ne (tgt := 26) dX9_type_20 (by decide) ?_ ?_
    · refine Ex_aload_n dX9_type_26 rfl 0 rfl ?_
      refine Ex_get (v := .ref (a0 + (t + 1))) fgX9_7 hk0 (by decide) rfl dX9_type_27 ?_
      refine Ex_aload_n dX9_type_30 rfl 0 rfl ?_
      refine Ex_get (v := .int (gI μ t 2)) fgX9_76 hk0 (by decide) rfl dX9_type_31 ?_
      refine Ex_iload_n dX9_type_34 rfl 1 rfl ?_
      refine Ex_i2b (v := p1.toInt8.toInt32) dX9_type_35 rfl ?_
      refine Ex_bast 150 (kn_9_1 hk0) (by decide) dX9_type_36 (fun μ_4 => ?_)
      refine Ex_aload_n dX9_type_37 rfl 0 rfl ?_
      refine Ex_dup dX9_type_38 rfl ?_
      refine Ex_get (v := .int (gI μ_4 t 2)) fgX9_76 hk0 (by decide) rfl dX9_type_39 ?_
      refine Ex_iconst (v := 1) dX9_type_42 (by decide) ?_
      refine Ex_iadd dX9_type_43 ?_
      refine Ex_putI fgX9_76 fp9_2 hk0 (by decide) rfl rfl (Nat.le_of_ble_eq_true rfl) (fs9_2 a0 μ_4 t ((gI μ_4 t 2) + 1)) dX9_type_44 (fun μ_5 => ?_)
      refine Ex_aload_n dX9_type_47 rfl 0 rfl ?_
      refine Ex_get (v := .int (gI μ_5 t 2)) fgX9_76 hk0 (by decide) rfl dX9_type_48 ?_
      exact Ex_iret dX9_type_51 rfl (fun ty h => by cases h; rfl)
    · refine Ex_bipush (v := (-3)) dX9_type_23 (by decide) ?_
      exact Ex_iret dX9_type_25 rfl (fun ty h => by cases h; rfl)
  · refine Ex_iconst (v := (-1)) dX9_type_11 (by decide) ?_
    exact Ex_iret dX9_type_12 rfl (fun ty h => by cases h; rfl)

def f_X9_undo_L26 (F : Nat) (q0 : Nat) (k : Int32 → Mem → Option (Int32 × Mem)) : Nat → Int32 → Mem → Option (Int32 × Mem)
  | 0, _, _ => none
  | n + 1, x1, μ => (if x1 < 16 then if ix ((17 + (16 * (gI μ (q0 + 12) 16))) + x1) 531 = true then if ix x1 531 = true then lt (sI μ (q0 + 12) x1.toNatClampNeg (gI μ (q0 + 12) (((17 + (16 * (gI μ (q0 + 12) 16))) + x1).toNatClampNeg))) (fun μ_2 => f_X9_undo_L26 F q0 k n (x1 + 1) μ_2) else none else none else k x1 μ)
set_option maxRecDepth 100000 in
set_option maxHeartbeats 4000000 in
theorem c_X9_undo_L26 (a0 : Nat) (F : Nat) (q0 : Nat) (k : Int32 → Mem → Option (Int32 × Mem)) (hq0 : kd q0 = 9) (hk : ∀ (x1 : Int32) (μ : Mem), Ex a0 RX9 cX9_undo 2 (some .int) 0 none (fun x => (some (.int x.1), x.2)) 64 [(0, .ref (a0 + q0))] [] μ (k x1 μ)) : ∀ (n : Nat) (x1 : Int32) (μ : Mem), Ex a0 RX9 cX9_undo 2 (some .int) 0 none (fun x => (some (.int x.1), x.2)) 26 [(0, .ref (a0 + q0)), (1, .int x1)] [] μ (f_X9_undo_L26 F q0 k n x1 μ) := by
  intro n
  induction n with
  | zero => intro x1 μ; exact Ex_none
  | succ n ih =>
    intro x1 μ
    rw [f_X9_undo_L26]
    refine Ex_iload_n dX9_undo_26 rfl 1 rfl ?_
    refine Ex_bipush (v := 16) dX9_undo_27 (by decide) ?_
    refine Ex_icmp_ge (tgt := 64) dX9_undo_29 (by decide) ?_ ?_
    · refine Ex_perm [0] rfl ?_
      exact hk x1 μ
    · refine Ex_aload_n dX9_undo_32 rfl 0 rfl ?_
      refine Ex_get (v := .ref (a0 + (q0 + 12))) fgX9_44 hq0 (by decide) rfl dX9_undo_33 ?_
      refine Ex_iload_n dX9_undo_36 rfl 1 rfl ?_
      refine Ex_aload_n dX9_undo_37 rfl 0 rfl ?_
      refine Ex_get (v := .ref (a0 + (q0 + 12))) fgX9_44 hq0 (by decide) rfl dX9_undo_38 ?_
      refine Ex_bipush (v := 17) dX9_undo_41 (by decide) ?_
      refine Ex_bipush (v := 16) dX9_undo_43 (by decide) ?_
      refine Ex_aload_n dX9_undo_45 rfl 0 rfl ?_
      refine Ex_get (v := .ref (a0 + (q0 + 12))) fgX9_44 hq0 (by decide) rfl dX9_undo_46 ?_
      refine Ex_bipush (v := 16) dX9_undo_49 (by decide) ?_
      refine Ex_ialdC (j := 16) 531 (kn_9_12 hq0) (by decide) (by decide) (by decide) dX9_undo_51 ?_
      refine Ex_imul dX9_undo_52 ?_
      refine Ex_iadd dX9_undo_53 ?_
      refine Ex_iload_n dX9_undo_54 rfl 1 rfl ?_
      refine Ex_iadd dX9_undo_55 ?_
      refine Ex_iald 531 (kn_9_12 hq0) (by decide) dX9_undo_56 ?_
      refine Ex_iast 531 (kn_9_12 hq0) (by decide) dX9_undo_57 (fun μ_2 => ?_)
      refine Ex_iinc (v := x1 + 1) (L2 := [(1, .int (x1 + 1)), (0, .ref (a0 + q0))]) dX9_undo_58 1 rfl rfl (by decide) rfl ?_
      refine Ex_goto (tgt := 26) dX9_undo_61 (by decide) ?_
      refine Ex_perm [1, 0] rfl ?_
      exact ih (x1 + 1) μ_2
def f_X9_undo (F : Nat) (μ : Mem) (t : Nat) : Option (Int32 × Mem) := (if (gI μ (t + 12) 16) = 0 then some ((-2), μ) else lt (sI μ (t + 12) 16 ((gI μ (t + 12) 16) - 1)) (fun μ_1 => f_X9_undo_L26 F t (fun x1_3 μ_4 => some (gI μ_4 (t + 12) 16, μ_4)) F 0 μ_1))
set_option maxRecDepth 100000 in
set_option maxHeartbeats 4000000 in
theorem c_X9_undo (a0 F : Nat) (μ : Mem) (t : Nat) (hk0 : kd t = 9) {v : Int32} {μ2 : Mem} (hr : f_X9_undo F μ t = some (v, μ2)) : Ct a0 yX9_undo cX9_undo 2 (some .int) 0 [.ref (a0 + t)] μ (some (.int v)) μ2 := by
  refine Ct_of (own := RX9) (ι := (fun x => (some (.int x.1), x.2))) (o := f_X9_undo F μ t) (by decide +kernel) rfl (Nat.le_of_ble_eq_true rfl) ?_ hr rfl ⟨_, rfl⟩
  show Ex a0 RX9 cX9_undo 2 (some .int) 0 none (fun x => (some (.int x.1), x.2)) 0 [(0, .ref (a0 + t))] [] μ (f_X9_undo F μ t)
  unfold f_X9_undo
  refine Ex_aload_n dX9_undo_0 rfl 0 rfl ?_
  refine Ex_get (v := .ref (a0 + (t + 12))) fgX9_44 hk0 (by decide) rfl dX9_undo_1 ?_
  refine Ex_bipush (v := 16) dX9_undo_4 (by decide) ?_
  refine Ex_ialdC (j := 16) 531 (kn_9_12 hk0) (by decide) (by decide) (by decide) dX9_undo_6 ?_
  refine Ex_if_ne (tgt := 13) dX9_undo_7 (by decide) ?_ ?_
  · refine Ex_aload_n dX9_undo_13 rfl 0 rfl ?_
    refine Ex_get (v := .ref (a0 + (t + 12))) fgX9_44 hk0 (by decide) rfl dX9_undo_14 ?_
    refine Ex_bipush (v := 16) dX9_undo_17 (by decide) ?_
    refine Ex_dup2 dX9_undo_19 rfl rfl ?_
    refine Ex_ialdC (j := 16) 531 (kn_9_12 hk0) (by decide) (by decide) (by decide) dX9_undo_20 ?_
    refine Ex_iconst (v := 1) dX9_undo_21 (by decide) ?_
    refine Ex_isub dX9_undo_22 ?_
    refine Ex_iastC (j := 16) 531 (kn_9_12 hk0) (by decide) (by decide) (by decide) dX9_undo_23 (fun μ_1 => ?_)
    refine Ex_iconst (v := 0) dX9_undo_24 (by decide) ?_
    refine Ex_istore_n (L2 := [(1, .int 0), (0, .ref (a0 + t))]) dX9_undo_25 rfl (by decide) rfl ?_
    refine Ex_perm [1, 0] rfl ?_
    refine c_X9_undo_L26 a0 F t _ hk0 (fun x1_3 μ_4 => ?_) F 0 μ_1
    refine Ex_aload_n dX9_undo_64 rfl 0 rfl ?_
    refine Ex_get (v := .ref (a0 + (t + 12))) fgX9_44 hk0 (by decide) rfl dX9_undo_65 ?_
    refine Ex_bipush (v := 16) dX9_undo_68 (by decide) ?_
    refine Ex_ialdC (j := 16) 531 (kn_9_12 hk0) (by decide) (by decide) (by decide) dX9_undo_70 ?_
    exact Ex_iret dX9_undo_71 rfl (fun ty h => by cases h; rfl)
  · refine Ex_bipush (v := (-2)) dX9_undo_10 (by decide) ?_
    exact Ex_iret dX9_undo_12 rfl (fun ty h => by cases h; rfl)

def f_X9_way_L81 (F : Nat) (μ : Mem) (q0 : Nat) (x1 : Int32) (x3 : Int32) (x4 : Int32) (x5 : Int32) (x7 : Int32) (k : Int32 → Option (Int32 × Mem)) : Nat → Int32 → Option (Int32 × Mem)
  | 0, _ => none
  | n + 1, x6 => (f_X9_ends F μ q0 x6 x4).bind (fun v_12 => (if v_12 = 0 then f_X9_way_L81 F μ q0 x1 x3 x4 x5 x7 k n (x6 + 1) else (f_X9_costOf F μ q0 x1 x6 0).bind (fun v_15 => (if v_15 = 1 then (f_X9_other F μ q0 x6 x4).bind (fun v_18 => if ix v_18 8 = true then (if (gI μ (q0 + 14) v_18.toNatClampNeg) = ((x5 - x7) - 1) then k x6 else f_X9_way_L81 F μ q0 x1 x3 x4 x5 x7 k n (x6 + 1)) else none) else f_X9_way_L81 F μ q0 x1 x3 x4 x5 x7 k n (x6 + 1)))))
set_option maxRecDepth 100000 in
set_option maxHeartbeats 4000000 in
theorem c_X9_way_L81 (a0 : Nat) (F : Nat) (μ : Mem) (q0 : Nat) (x1 : Int32) (x3 : Int32) (x4 : Int32) (x5 : Int32) (x7 : Int32) (k : Int32 → Option (Int32 × Mem)) (hq0 : kd q0 = 9) (hk : ∀ (x6 : Int32), Ex a0 RX9 cX9_way 8 (some .int) 3 none (fun x => (some (.int x.1), x.2)) 133 [(0, .ref (a0 + q0)), (1, .int x1), (3, .int x3), (4, .int x4), (5, .int x5), (6, .int x6), (7, .int x7)] [] μ (k x6)) : ∀ (n : Nat) (x6 : Int32), Ex a0 RX9 cX9_way 8 (some .int) 3 none (fun x => (some (.int x.1), x.2)) 81 [(0, .ref (a0 + q0)), (1, .int x1), (3, .int x3), (4, .int x4), (5, .int x5), (6, .int x6), (7, .int x7)] [] μ (f_X9_way_L81 F μ q0 x1 x3 x4 x5 x7 k n x6) := by
  intro n
  induction n with
  | zero => intro x6; exact Ex_none
  | succ n ih =>
    intro x6
    rw [f_X9_way_L81]
    refine Ex_aload_n dX9_way_81 rfl 0 rfl ?_
    refine Ex_iload dX9_way_82 5 rfl ?_
    refine Ex_iload dX9_way_84 3 rfl ?_
    refine Ex_callVR (n := 2) (dp2 := 0) [.int x6, .int x4] cvX9_144 hq0 rfl rfl (by decide) (by decide) (Nat.le_of_ble_eq_true rfl) rfl (fun v hv => c_X9_ends a0 F μ q0 x6 x4 hq0 hv) dX9_way_86 (fun v_12 hv_14 => ?_)
    refine Ex_if_eq (tgt := 127) dX9_way_89 (by decide) ?_ ?_
    · refine Ex_iinc (v := x6 + 1) (L2 := [(6, .int (x6 + 1)), (0, .ref (a0 + q0)), (1, .int x1), (3, .int x3), (4, .int x4), (5, .int x5), (7, .int x7)]) dX9_way_127 5 rfl rfl (by decide) rfl ?_
      refine Ex_goto (tgt := 81) dX9_way_130 (by decide) ?_
      refine Ex_perm [1, 2, 3, 4, 5, 0, 6] rfl ?_
      exact ih (x6 + 1)
    · refine Ex_aload_n dX9_way_92 rfl 0 rfl ?_
      refine Ex_iload_n dX9_way_93 rfl 1 rfl ?_
      refine Ex_iload dX9_way_94 5 rfl ?_
      refine Ex_iconst (v := 0) dX9_way_96 (by decide) ?_
      refine Ex_callVR (n := 3) (dp2 := 1) [.int x1, .int x6, .int 0] cvX9_164 hq0 rfl rfl (by decide) (by decide) (Nat.le_of_ble_eq_true rfl) rfl (fun v hv => c_X9_costOf a0 F μ q0 x1 x6 0 hq0 hv) dX9_way_97 (fun v_15 hv_17 => ?_)
      refine Ex_iconst (v := 1) dX9_way_100 (by decide) ?_
      refine Ex_icmp_ne (tgt := 127) dX9_way_101 (by decide) ?_ ?_
      · refine Ex_iinc (v := x6 + 1) (L2 := [(6, .int (x6 + 1)), (0, .ref (a0 + q0)), (1, .int x1), (3, .int x3), (4, .int x4), (5, .int x5), (7, .int x7)]) dX9_way_127 5 rfl rfl (by decide) rfl ?_
        refine Ex_goto (tgt := 81) dX9_way_130 (by decide) ?_
        refine Ex_perm [1, 2, 3, 4, 5, 0, 6] rfl ?_
        exact ih (x6 + 1)
      · refine Ex_aload_n dX9_way_104 rfl 0 rfl ?_
        refine Ex_get (v := .ref (a0 + (q0 + 14))) fgX9_51 hq0 (by decide) rfl dX9_way_105 ?_
        refine Ex_aload_n dX9_way_108 rfl 0 rfl ?_
        refine Ex_iload dX9_way_109 5 rfl ?_
        refine Ex_iload dX9_way_111 3 rfl ?_
        refine Ex_callVR (n := 2) (dp2 := 0) [.int x6, .int x4] cvX9_150 hq0 rfl rfl (by decide) (by decide) (Nat.le_of_ble_eq_true rfl) rfl (fun v hv => c_X9_other a0 F μ q0 x6 x4 hq0 hv) dX9_way_113 (fun v_18 hv_20 => ?_)
        refine Ex_iald 8 (kn_9_14 hq0) (by decide) dX9_way_116 ?_
        refine Ex_iload dX9_way_117 4 rfl ?_
        refine Ex_iload dX9_way_119 6 rfl ?_
        refine Ex_isub dX9_way_121 ?_
        refine Ex_iconst (v := 1) dX9_way_122 (by decide) ?_
        refine Ex_isub dX9_way_123 ?_
        refine Ex_icmp_eq (tgt := 133) dX9_way_124 (by decide) ?_ ?_
        · exact hk x6
        · refine Ex_iinc (v := x6 + 1) (L2 := [(6, .int (x6 + 1)), (0, .ref (a0 + q0)), (1, .int x1), (3, .int x3), (4, .int x4), (5, .int x5), (7, .int x7)]) dX9_way_127 5 rfl rfl (by decide) rfl ?_
          refine Ex_goto (tgt := 81) dX9_way_130 (by decide) ?_
          refine Ex_perm [1, 2, 3, 4, 5, 0, 6] rfl ?_
          exact ih (x6 + 1)

def f_X9_way_L72 (F : Nat) (μ : Mem) (q0 : Nat) (x1 : Int32) (x3 : Int32) (x5 : Int32) (k : Int32 → Int32 → Int32 → Option (Int32 × Mem)) : Nat → Int32 → Int32 → Int32 → Option (Int32 × Mem)
  | 0, _, _, _ => none
  | n + 1, x4, x6, x7 => (if x3 < x7 then k x4 x6 x7 else f_X9_way_L81 F μ q0 x1 x3 x4 x5 x7 (fun x6_21 => (f_X9_other F μ q0 x6_21 x4).bind (fun v_22 => f_X9_way_L72 F μ q0 x1 x3 x5 k n v_22 x6_21 (x7 + 1))) F 0)
set_option maxRecDepth 100000 in
set_option maxHeartbeats 4000000 in
theorem c_X9_way_L72 (a0 : Nat) (F : Nat) (μ : Mem) (q0 : Nat) (x1 : Int32) (x3 : Int32) (x5 : Int32) (k : Int32 → Int32 → Int32 → Option (Int32 × Mem)) (hq0 : kd q0 = 9) (hk : ∀ (x4 : Int32) (x6 : Int32) (x7 : Int32), Ex a0 RX9 cX9_way 8 (some .int) 3 none (fun x => (some (.int x.1), x.2)) 149 [(6, .int x6)] [] μ (k x4 x6 x7)) : ∀ (n : Nat) (x4 : Int32) (x6 : Int32) (x7 : Int32), Ex a0 RX9 cX9_way 8 (some .int) 3 none (fun x => (some (.int x.1), x.2)) 72 [(0, .ref (a0 + q0)), (1, .int x1), (3, .int x3), (4, .int x4), (5, .int x5), (6, .int x6), (7, .int x7)] [] μ (f_X9_way_L72 F μ q0 x1 x3 x5 k n x4 x6 x7) := by
  intro n
  induction n with
  | zero => intro x4 x6 x7; exact Ex_none
  | succ n ih =>
    intro x4 x6 x7
    rw [f_X9_way_L72]
    refine Ex_iload dX9_way_72 6 rfl ?_
    refine Ex_iload_n dX9_way_74 rfl 2 rfl ?_
    refine Ex_icmp_gt (tgt := 149) dX9_way_75 (by decide) ?_ ?_
    · refine Ex_perm [5] rfl ?_
      exact hk x4 x6 x7
    · refine Ex_iconst (v := 0) dX9_way_78 (by decide) ?_
      refine Ex_istore (L2 := [(6, .int 0), (0, .ref (a0 + q0)), (1, .int x1), (3, .int x3), (4, .int x4), (5, .int x5), (7, .int x7)]) dX9_way_79 (by decide) rfl ?_
      refine Ex_perm [1, 2, 3, 4, 5, 0, 6] rfl ?_
      refine c_X9_way_L81 a0 F μ q0 x1 x3 x4 x5 x7 _ hq0 (fun x6_21 => ?_) F 0
      refine Ex_aload_n dX9_way_133 rfl 0 rfl ?_
      refine Ex_iload dX9_way_134 5 rfl ?_
      refine Ex_iload dX9_way_136 3 rfl ?_
      refine Ex_callVR (n := 2) (dp2 := 0) [.int x6_21, .int x4] cvX9_150 hq0 rfl rfl (by decide) (by decide) (Nat.le_of_ble_eq_true rfl) rfl (fun v hv => c_X9_other a0 F μ q0 x6_21 x4 hq0 hv) dX9_way_138 (fun v_22 hv_24 => ?_)
      refine Ex_istore (L2 := [(4, .int v_22), (0, .ref (a0 + q0)), (1, .int x1), (3, .int x3), (5, .int x5), (6, .int x6_21), (7, .int x7)]) dX9_way_141 (by decide) rfl ?_
      refine Ex_iinc (v := x7 + 1) (L2 := [(7, .int (x7 + 1)), (4, .int v_22), (0, .ref (a0 + q0)), (1, .int x1), (3, .int x3), (5, .int x5), (6, .int x6_21)]) dX9_way_143 6 rfl rfl (by decide) rfl ?_
      refine Ex_goto (tgt := 72) dX9_way_146 (by decide) ?_
      refine Ex_perm [2, 3, 4, 1, 5, 6, 0] rfl ?_
      exact ih v_22 x6_21 (x7 + 1)
def f_X9_way (F : Nat) (μ : Mem) (t : Nat) (p1 : Int32) (p2 : Int32) (p3 : Int32) : Option (Int32 × Mem) := (f_X9_isPerson F μ t p1).bind (fun v_1 => (if v_1 = 0 then some ((-1), μ) else (f_X9_isPlace F μ t p2).bind (fun v_4 => (if v_4 = 0 then some ((-1), μ) else (if p3 < (-1) then some ((-1), μ) else (f_X9_measure F μ t p1 p2 0).bind (fun μ_8 => if ix (0 + p1) 531 = true then lt (gI μ_8 (t + 12) ((0 + p1).toNatClampNeg)) (fun x4_10 => if ix x4_10 8 = true then lt (gI μ_8 (t + 14) x4_10.toNatClampNeg) (fun x5_11 => (if x5_11 < 100000 then (if p3 < x5_11 then f_X9_way_L72 F μ_8 t p1 p3 x5_11 (fun x4_25 x6_26 x7_27 => some (x6_26, μ_8)) F x4_10 x5_11 0 else some ((-9), μ_8)) else some ((-9), μ_8))) else none) else none))))))
set_option maxRecDepth 100000 in
set_option maxHeartbeats 4000000 in
theorem c_X9_way (a0 F : Nat) (μ : Mem) (t : Nat) (p1 : Int32) (p2 : Int32) (p3 : Int32) (hk0 : kd t = 9) {v : Int32} {μ2 : Mem} (hr : f_X9_way F μ t p1 p2 p3 = some (v, μ2)) : Ct a0 yX9_way cX9_way 8 (some .int) 3 [.ref (a0 + t), .int p1, .int p2, .int p3] μ (some (.int v)) μ2 := by
  refine Ct_of (own := RX9) (ι := (fun x => (some (.int x.1), x.2))) (o := f_X9_way F μ t p1 p2 p3) (by decide +kernel) rfl (Nat.le_of_ble_eq_true rfl) ?_ hr rfl ⟨_, rfl⟩
  show Ex a0 RX9 cX9_way 8 (some .int) 3 none (fun x => (some (.int x.1), x.2)) 0 [(0, .ref (a0 + t)), (1, .int p1), (2, .int p2), (3, .int p3)] [] μ (f_X9_way F μ t p1 p2 p3)
  unfold f_X9_way
  refine Ex_aload_n dX9_way_0 rfl 0 rfl ?_
  refine Ex_iload_n dX9_way_1 rfl 1 rfl ?_
  refine Ex_callVR (n := 1) (dp2 := 1) [.int p1] cvX9_141 hk0 rfl rfl (by decide) (by decide) (Nat.le_of_ble_eq_true rfl) rfl (fun v hv => c_X9_isPerson a0 F μ t p1 hk0 hv) dX9_way_2 (fun v_1 hv_3 => ?_)
  refine Ex_if_eq (tgt := 21) dX9_way_5 (by decide) ?_ ?_
  · refine Ex_iconst (v := (-1)) dX9_way_21 (by decide) ?_
    exact Ex_iret dX9_way_22 rfl (fun ty h => by cases h; rfl)
  · refine Ex_aload_n dX9_way_8 rfl 0 rfl ?_
    refine Ex_iload_n dX9_way_9 rfl 2 rfl ?_
    refine Ex_callVR (n := 1) (dp2 := 1) [.int p2] cvX9_168 hk0 rfl rfl (by decide) (by decide) (Nat.le_of_ble_eq_true rfl) rfl (fun v hv => c_X9_isPlace a0 F μ t p2 hk0 hv) dX9_way_10 (fun v_4 hv_6 => ?_)
    refine Ex_if_eq (tgt := 21) dX9_way_13 (by decide) ?_ ?_
    · refine Ex_iconst (v := (-1)) dX9_way_21 (by decide) ?_
      exact Ex_iret dX9_way_22 rfl (fun ty h => by cases h; rfl)
    · refine Ex_iload_n dX9_way_16 rfl 3 rfl ?_
      refine Ex_iconst (v := (-1)) dX9_way_17 (by decide) ?_
      refine Ex_icmp_ge (tgt := 23) dX9_way_18 (by decide) ?_ ?_
      · refine Ex_aload_n dX9_way_23 rfl 0 rfl ?_
        refine Ex_iload_n dX9_way_24 rfl 1 rfl ?_
        refine Ex_iload_n dX9_way_25 rfl 2 rfl ?_
        refine Ex_iconst (v := 0) dX9_way_26 (by decide) ?_
        refine Ex_callVV (n := 3) (dp2 := 2) [.int p1, .int p2, .int 0] cvX9_171 hk0 rfl rfl (by decide) (by decide) (Nat.le_of_ble_eq_true rfl) rfl (fun μ2 hv => c_X9_measure a0 F μ t p1 p2 0 hk0 hv) dX9_way_27 (fun μ_8 hv_9 => ?_)
        refine Ex_aload_n dX9_way_30 rfl 0 rfl ?_
        refine Ex_get (v := .ref (a0 + (t + 12))) fgX9_44 hk0 (by decide) rfl dX9_way_31 ?_
        refine Ex_iconst (v := 0) dX9_way_34 (by decide) ?_
        refine Ex_iload_n dX9_way_35 rfl 1 rfl ?_
        refine Ex_iadd dX9_way_36 ?_
        refine Ex_iald 531 (kn_9_12 hk0) (by decide) dX9_way_37 ?_
        refine Ex_top (fun x4_10 => ?_)
        refine Ex_istore (L2 := [(4, .int x4_10), (0, .ref (a0 + t)), (1, .int p1), (2, .int p2), (3, .int p3)]) dX9_way_38 (by decide) rfl ?_
        refine Ex_aload_n dX9_way_40 rfl 1 rfl ?_
        refine Ex_get (v := .ref (a0 + (t + 14))) fgX9_51 hk0 (by decide) rfl dX9_way_41 ?_
        refine Ex_iload dX9_way_44 0 rfl ?_
        refine Ex_iald 8 (kn_9_14 hk0) (by decide) dX9_way_46 ?_
        refine Ex_top (fun x5_11 => ?_)
        refine Ex_istore (L2 := [(5, .int x5_11), (4, .int x4_10), (0, .ref (a0 + t)), (1, .int p1), (2, .int p2), (3, .int p3)]) dX9_way_47 (by decide) rfl ?_
        refine Ex_iload dX9_way_49 0 rfl ?_
        refine Ex_ldc (v := 100000) dX9_way_51 cnX9_163 ?_
        refine Ex_icmp_ge (tgt := 62) dX9_way_53 (by decide) ?_ ?_
        · refine Ex_bipush (v := (-9)) dX9_way_62 (by decide) ?_
          exact Ex_iret dX9_way_64 rfl (fun ty h => by cases h; rfl)
        · refine Ex_iload_n dX9_way_56 rfl 5 rfl ?_
          refine Ex_iload dX9_way_57 0 rfl ?_
          refine Ex_icmp_lt (tgt := 65) dX9_way_59 (by decide) ?_ ?_
          · refine Ex_iload dX9_way_65 0 rfl ?_
            refine Ex_istore (L2 := [(6, .int x5_11), (5, .int x5_11), (4, .int x4_10), (0, .ref (a0 + t)), (1, .int p1), (2, .int p2), (3, .int p3)]) dX9_way_67 (by decide) rfl ?_
            refine Ex_iconst (v := 0) dX9_way_69 (by decide) ?_
            refine Ex_istore (L2 := [(7, .int 0), (6, .int x5_11), (5, .int x5_11), (4, .int x4_10), (0, .ref (a0 + t)), (1, .int p1), (2, .int p2), (3, .int p3)]) dX9_way_70 (by decide) rfl ?_
            refine Ex_perm [4, 5, 7, 3, 2, 1, 0] rfl ?_
            refine c_X9_way_L72 a0 F μ_8 t p1 p3 x5_11 _ hk0 (fun x4_25 x6_26 x7_27 => ?_) F x4_10 x5_11 0
            refine Ex_iload dX9_way_149 0 rfl ?_
            exact Ex_iret dX9_way_151 rfl (fun ty h => by cases h; rfl)
          · refine Ex_bipush (v := (-9)) dX9_way_62 (by decide) ?_
            exact Ex_iret dX9_way_64 rfl (fun ty h => by cases h; rfl)
      · refine Ex_iconst (v := (-1)) dX9_way_21 (by decide) ?_
        exact Ex_iret dX9_way_22 rfl (fun ty h => by cases h; rfl)
