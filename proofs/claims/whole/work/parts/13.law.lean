def f_L_law_L18 (F : Nat) (Lx : Nat) (xs : Nat → Int32) (q1 : Nat) (q2 : Nat) (k : Int32 → Mem → Option (Int32 × Mem)) : Nat → Int32 → Mem → Option (Int32 × Mem)
  | 0, _, _ => none
  | n + 1, x3, μ => (if ((Int32.ofNat Lx) - 5) < x3 then k x3 μ else if ix x3 Lx = true then (if ((xs x3.toNatClampNeg) &&& 31) = 0 then if ix (x3 + 1) Lx = true then bW (f_X8_type F μ q1 (xs (x3 + 1).toNatClampNeg)) (fun v_2 μ_3 => if ix (x3 + 1) Lx = true then bW (f_X9_type F μ_3 q2 (xs (x3 + 1).toNatClampNeg)) (fun v_5 μ_6 => (if v_2 = v_5 then f_L_law_L18 F Lx xs q1 q2 k n (x3 + 5) μ_6 else some (0, μ_6))) else none) else none else (if ((xs x3.toNatClampNeg) &&& 31) = 1 then bW (f_X8_clear F μ q1) (fun v_9 μ_10 => bW (f_X9_clear F μ_10 q2) (fun v_12 μ_13 => (if v_9 = v_12 then f_L_law_L18 F Lx xs q1 q2 k n (x3 + 5) μ_13 else some (0, μ_13)))) else (if ((xs x3.toNatClampNeg) &&& 31) = 2 then bW (f_X8_capital F μ q1) (fun v_16 μ_17 => bW (f_X9_capital F μ_17 q2) (fun v_19 μ_20 => (if v_16 = v_19 then f_L_law_L18 F Lx xs q1 q2 k n (x3 + 5) μ_20 else some (0, μ_20)))) else (if ((xs x3.toNatClampNeg) &&& 31) = 3 then if ix (x3 + 1) Lx = true then if ix (x3 + 2) Lx = true then (f_X8_lane F μ q1 (xs (x3 + 1).toNatClampNeg) (xs (x3 + 2).toNatClampNeg)).bind (fun v_23 => if ix (x3 + 1) Lx = true then if ix (x3 + 2) Lx = true then (f_X9_lane F μ q2 (xs (x3 + 1).toNatClampNeg) (xs (x3 + 2).toNatClampNeg)).bind (fun v_26 => (if v_23 = v_26 then f_L_law_L18 F Lx xs q1 q2 k n (x3 + 5) μ else some (0, μ))) else none else none) else none else none else (if ((xs x3.toNatClampNeg) &&& 31) = 4 then if ix (x3 + 1) Lx = true then if ix (x3 + 2) Lx = true then (f_X8_person F μ q1 (xs (x3 + 1).toNatClampNeg) (xs (x3 + 2).toNatClampNeg)).bind (fun v_30 => if ix (x3 + 1) Lx = true then if ix (x3 + 2) Lx = true then (f_X9_person F μ q2 (xs (x3 + 1).toNatClampNeg) (xs (x3 + 2).toNatClampNeg)).bind (fun v_33 => (if v_30 = v_33 then f_L_law_L18 F Lx xs q1 q2 k n (x3 + 5) μ else some (0, μ))) else none else none) else none else none else (if ((xs x3.toNatClampNeg) &&& 31) = 5 then if ix (x3 + 1) Lx = true then if ix (x3 + 2) Lx = true then bW (f_X8_goes F μ q1 (xs (x3 + 1).toNatClampNeg) (xs (x3 + 2).toNatClampNeg)) (fun v_37 μ_38 => if ix (x3 + 1) Lx = true then if ix (x3 + 2) Lx = true then bW (f_X9_goes F μ_38 q2 (xs (x3 + 1).toNatClampNeg) (xs (x3 + 2).toNatClampNeg)) (fun v_40 μ_41 => (if v_37 = v_40 then f_L_law_L18 F Lx xs q1 q2 k n (x3 + 5) μ_41 else some (0, μ_41))) else none else none) else none else none else (if ((xs x3.toNatClampNeg) &&& 31) = 6 then if ix (x3 + 1) Lx = true then if ix (x3 + 2) Lx = true then if ix (x3 + 3) Lx = true then bW (f_X8_meets F μ q1 (xs (x3 + 1).toNatClampNeg) (xs (x3 + 2).toNatClampNeg) (xs (x3 + 3).toNatClampNeg)) (fun v_44 μ_45 => if ix (x3 + 1) Lx = true then if ix (x3 + 2) Lx = true then if ix (x3 + 3) Lx = true then bW (f_X9_meets F μ_45 q2 (xs (x3 + 1).toNatClampNeg) (xs (x3 + 2).toNatClampNeg) (xs (x3 + 3).toNatClampNeg)) (fun v_47 μ_48 => (if v_44 = v_47 then f_L_law_L18 F Lx xs q1 q2 k n (x3 + 5) μ_48 else some (0, μ_48))) else none else none else none) else none else none else none else (if ((xs x3.toNatClampNeg) &&& 31) = 7 then if ix (x3 + 1) Lx = true then if ix (x3 + 2) Lx = true then bW (f_X8_claims F μ q1 (xs (x3 + 1).toNatClampNeg) (xs (x3 + 2).toNatClampNeg)) (fun v_51 μ_52 => if ix (x3 + 1) Lx = true then if ix (x3 + 2) Lx = true then bW (f_X9_claims F μ_52 q2 (xs (x3 + 1).toNatClampNeg) (xs (x3 + 2).toNatClampNeg)) (fun v_54 μ_55 => (if v_51 = v_54 then f_L_law_L18 F Lx xs q1 q2 k n (x3 + 5) μ_55 else some (0, μ_55))) else none else none) else none else none else (if ((xs x3.toNatClampNeg) &&& 31) = 8 then if ix (x3 + 1) Lx = true then if ix (x3 + 2) Lx = true then bW (f_X8_patents F μ q1 (xs (x3 + 1).toNatClampNeg) (xs (x3 + 2).toNatClampNeg)) (fun v_58 μ_59 => if ix (x3 + 1) Lx = true then if ix (x3 + 2) Lx = true then bW (f_X9_patents F μ_59 q2 (xs (x3 + 1).toNatClampNeg) (xs (x3 + 2).toNatClampNeg)) (fun v_61 μ_62 => (if v_58 = v_61 then f_L_law_L18 F Lx xs q1 q2 k n (x3 + 5) μ_62 else some (0, μ_62))) else none else none) else none else none else (if ((xs x3.toNatClampNeg) &&& 31) = 9 then if ix (x3 + 1) Lx = true then if ix (x3 + 2) Lx = true then bW (f_X8_shuts F μ q1 (xs (x3 + 1).toNatClampNeg) (xs (x3 + 2).toNatClampNeg)) (fun v_65 μ_66 => if ix (x3 + 1) Lx = true then if ix (x3 + 2) Lx = true then bW (f_X9_shuts F μ_66 q2 (xs (x3 + 1).toNatClampNeg) (xs (x3 + 2).toNatClampNeg)) (fun v_68 μ_69 => (if v_65 = v_68 then f_L_law_L18 F Lx xs q1 q2 k n (x3 + 5) μ_69 else some (0, μ_69))) else none else none) else none else none else (if ((xs x3.toNatClampNeg) &&& 31) = 10 then bW (f_X8_undo F μ q1) (fun v_72 μ_73 => bW (f_X9_undo F μ_73 q2) (fun v_75 μ_76 => (if v_72 = v_75 then f_L_law_L18 F Lx xs q1 q2 k n (x3 + 5) μ_76 else some (0, μ_76)))) else (if ((xs x3.toNatClampNeg) &&& 31) = 11 then if ix (x3 + 1) Lx = true then (f_X8_now F μ q1 (xs (x3 + 1).toNatClampNeg)).bind (fun v_79 => if ix (x3 + 1) Lx = true then (f_X9_now F μ q2 (xs (x3 + 1).toNatClampNeg)).bind (fun v_82 => (if v_79 = v_82 then f_L_law_L18 F Lx xs q1 q2 k n (x3 + 5) μ else some (0, μ))) else none) else none else (if ((xs x3.toNatClampNeg) &&& 31) = 12 then if ix (x3 + 1) Lx = true then if ix (x3 + 2) Lx = true then if ix (x3 + 3) Lx = true then bW (f_X8_way F μ q1 (xs (x3 + 1).toNatClampNeg) (xs (x3 + 2).toNatClampNeg) (xs (x3 + 3).toNatClampNeg)) (fun v_86 μ_87 => if ix (x3 + 1) Lx = true then if ix (x3 + 2) Lx = true then if ix (x3 + 3) Lx = true then bW (f_X9_way F μ_87 q2 (xs (x3 + 1).toNatClampNeg) (xs (x3 + 2).toNatClampNeg) (xs (x3 + 3).toNatClampNeg)) (fun v_89 μ_90 => (if v_86 = v_89 then f_L_law_L18 F Lx xs q1 q2 k n (x3 + 5) μ_90 else some (0, μ_90))) else none else none else none) else none else none else none else (if ((xs x3.toNatClampNeg) &&& 31) = 13 then if ix (x3 + 1) Lx = true then if ix (x3 + 2) Lx = true then bW (f_X8_lacks F μ q1 (xs (x3 + 1).toNatClampNeg) (xs (x3 + 2).toNatClampNeg)) (fun v_93 μ_94 => if ix (x3 + 1) Lx = true then if ix (x3 + 2) Lx = true then bW (f_X9_lacks F μ_94 q2 (xs (x3 + 1).toNatClampNeg) (xs (x3 + 2).toNatClampNeg)) (fun v_96 μ_97 => (if v_93 = v_96 then f_L_law_L18 F Lx xs q1 q2 k n (x3 + 5) μ_97 else some (0, μ_97))) else none else none) else none else none else (if ((xs x3.toNatClampNeg) &&& 31) = 14 then if ix (x3 + 1) Lx = true then if ix (x3 + 2) Lx = true then (f_X8_must F μ q1 (xs (x3 + 1).toNatClampNeg) (xs (x3 + 2).toNatClampNeg)).bind (fun v_100 => if ix (x3 + 1) Lx = true then if ix (x3 + 2) Lx = true then (f_X9_must F μ q2 (xs (x3 + 1).toNatClampNeg) (xs (x3 + 2).toNatClampNeg)).bind (fun v_103 => (if v_100 = v_103 then f_L_law_L18 F Lx xs q1 q2 k n (x3 + 5) μ else some (0, μ))) else none else none) else none else none else (if ((xs x3.toNatClampNeg) &&& 31) = 15 then if ix (x3 + 1) Lx = true then if ix (x3 + 2) Lx = true then if ix (x3 + 3) Lx = true then if ix (x3 + 4) Lx = true then (f_X8_odds F μ q1 (xs (x3 + 1).toNatClampNeg) (xs (x3 + 2).toNatClampNeg) (xs (x3 + 3).toNatClampNeg) (xs (x3 + 4).toNatClampNeg)).bind (fun v_107 => if ix (x3 + 1) Lx = true then if ix (x3 + 2) Lx = true then if ix (x3 + 3) Lx = true then if ix (x3 + 4) Lx = true then (f_X9_odds F μ q2 (xs (x3 + 1).toNatClampNeg) (xs (x3 + 2).toNatClampNeg) (xs (x3 + 3).toNatClampNeg) (xs (x3 + 4).toNatClampNeg)).bind (fun v_110 => (if v_107 = v_110 then f_L_law_L18 F Lx xs q1 q2 k n (x3 + 5) μ else some (0, μ))) else none else none else none else none) else none else none else none else none else (if ((xs x3.toNatClampNeg) &&& 31) = 16 then if ix (x3 + 1) Lx = true then if ix (x3 + 2) Lx = true then if ix (x3 + 3) Lx = true then (f_X8_meeting F μ q1 (xs (x3 + 1).toNatClampNeg) (xs (x3 + 2).toNatClampNeg) (xs (x3 + 3).toNatClampNeg)).bind (fun v_114 => if ix (x3 + 1) Lx = true then if ix (x3 + 2) Lx = true then if ix (x3 + 3) Lx = true then (f_X9_meeting F μ q2 (xs (x3 + 1).toNatClampNeg) (xs (x3 + 2).toNatClampNeg) (xs (x3 + 3).toNatClampNeg)).bind (fun v_117 => (if v_114 = v_117 then f_L_law_L18 F Lx xs q1 q2 k n (x3 + 5) μ else some (0, μ))) else none else none else none) else none else none else none else (if ((xs x3.toNatClampNeg) &&& 31) = 17 then if ix (x3 + 1) Lx = true then if ix (x3 + 2) Lx = true then bW (f_X8_theatre F μ q1 (xs (x3 + 1).toNatClampNeg) (xs (x3 + 2).toNatClampNeg)) (fun v_121 μ_122 => if ix (x3 + 1) Lx = true then if ix (x3 + 2) Lx = true then bW (f_X9_theatre F μ_122 q2 (xs (x3 + 1).toNatClampNeg) (xs (x3 + 2).toNatClampNeg)) (fun v_124 μ_125 => (if v_121 = v_124 then f_L_law_L18 F Lx xs q1 q2 k n (x3 + 5) μ_125 else some (0, μ_125))) else none else none) else none else none else (if ((xs x3.toNatClampNeg) &&& 31) = 18 then if ix (x3 + 1) Lx = true then (f_X8_narrow F μ q1 (xs (x3 + 1).toNatClampNeg)).bind (fun v_128 => if ix (x3 + 1) Lx = true then (f_X9_narrow F μ q2 (xs (x3 + 1).toNatClampNeg)).bind (fun v_131 => (if v_128 = v_131 then f_L_law_L18 F Lx xs q1 q2 k n (x3 + 5) μ else some (0, μ))) else none) else none else (if ((xs x3.toNatClampNeg) &&& 31) = 19 then if ix (x3 + 1) Lx = true then (f_X8_order F μ q1 (xs (x3 + 1).toNatClampNeg)).bind (fun v_135 => if ix (x3 + 1) Lx = true then (f_X9_order F μ q2 (xs (x3 + 1).toNatClampNeg)).bind (fun v_138 => (if v_135 = v_138 then f_L_law_L18 F Lx xs q1 q2 k n (x3 + 5) μ else some (0, μ))) else none) else none else (if ((xs x3.toNatClampNeg) &&& 31) = 20 then if ix (x3 + 1) Lx = true then if ix (x3 + 2) Lx = true then bW (f_X8_gate F μ q1 (xs (x3 + 1).toNatClampNeg) (xs (x3 + 2).toNatClampNeg)) (fun v_142 μ_143 => if ix (x3 + 1) Lx = true then if ix (x3 + 2) Lx = true then bW (f_X9_gate F μ_143 q2 (xs (x3 + 1).toNatClampNeg) (xs (x3 + 2).toNatClampNeg)) (fun v_145 μ_146 => (if v_142 = v_145 then f_L_law_L18 F Lx xs q1 q2 k n (x3 + 5) μ_146 else some (0, μ_146))) else none else none) else none else none else (if ((xs x3.toNatClampNeg) &&& 31) = 21 then bW (f_X8_forget F μ q1) (fun v_149 μ_150 => bW (f_X9_forget F μ_150 q2) (fun v_152 μ_153 => (if v_149 = v_152 then f_L_law_L18 F Lx xs q1 q2 k n (x3 + 5) μ_153 else some (0, μ_153)))) else (if ((xs x3.toNatClampNeg) &&& 31) = 22 then if ix (x3 + 1) Lx = true then (f_X8_fits F μ q1 (xs (x3 + 1).toNatClampNeg)).bind (fun v_156 => if ix (x3 + 1) Lx = true then (f_X9_fits F μ q2 (xs (x3 + 1).toNatClampNeg)).bind (fun v_159 => (if v_156 = v_159 then f_L_law_L18 F Lx xs q1 q2 k n (x3 + 5) μ else some (0, μ))) else none) else none else (if ((xs x3.toNatClampNeg) &&& 31) = 23 then if ix (x3 + 1) Lx = true then if ix (x3 + 2) Lx = true then bW (f_X8_mark F μ q1 (xs (x3 + 1).toNatClampNeg) (xs (x3 + 2).toNatClampNeg)) (fun v_163 μ_164 => if ix (x3 + 1) Lx = true then if ix (x3 + 2) Lx = true then bW (f_X9_mark F μ_164 q2 (xs (x3 + 1).toNatClampNeg) (xs (x3 + 2).toNatClampNeg)) (fun v_166 μ_167 => (if v_163 = v_166 then f_L_law_L18 F Lx xs q1 q2 k n (x3 + 5) μ_167 else some (0, μ_167))) else none else none) else none else none else (if ((xs x3.toNatClampNeg) &&& 31) = 24 then if ix (x3 + 1) Lx = true then bW (f_X8_keep F μ q1 (xs (x3 + 1).toNatClampNeg)) (fun v_170 μ_171 => if ix (x3 + 1) Lx = true then bW (f_X9_keep F μ_171 q2 (xs (x3 + 1).toNatClampNeg)) (fun v_173 μ_174 => (if v_170 = v_173 then f_L_law_L18 F Lx xs q1 q2 k n (x3 + 5) μ_174 else some (0, μ_174))) else none) else none else (if ((xs x3.toNatClampNeg) &&& 31) = 25 then if ix (x3 + 1) Lx = true then bW (f_X8_back F μ q1 (xs (x3 + 1).toNatClampNeg)) (fun v_177 μ_178 => if ix (x3 + 1) Lx = true then bW (f_X9_back F μ_178 q2 (xs (x3 + 1).toNatClampNeg)) (fun v_180 μ_181 => (if v_177 = v_180 then f_L_law_L18 F Lx xs q1 q2 k n (x3 + 5) μ_181 else some (0, μ_181))) else none) else none else (if ((xs x3.toNatClampNeg) &&& 31) = 26 then if ix (x3 + 1) Lx = true then (f_X8_count F μ q1 (xs (x3 + 1).toNatClampNeg)).bind (fun v_184 => if ix (x3 + 1) Lx = true then (f_X9_count F μ q2 (xs (x3 + 1).toNatClampNeg)).bind (fun v_187 => (if v_184 = v_187 then f_L_law_L18 F Lx xs q1 q2 k n (x3 + 5) μ else some (0, μ))) else none) else none else (if ((xs x3.toNatClampNeg) &&& 31) = 27 then (f_X8_trace F μ q1).bind (fun v_191 => (f_X9_trace F μ q2).bind (fun v_194 => (if (lg_cmp v_191 v_194) = 0 then f_L_law_L18 F Lx xs q1 q2 k n (x3 + 5) μ else some (0, μ)))) else f_L_law_L18 F Lx xs q1 q2 k n (x3 + 5) μ)))))))))))))))))))))))))))) else none)
set_option maxRecDepth 100000 in
set_option maxHeartbeats 4000000 in
theorem c_L_law_L18 (a0 b : Nat) (F : Nat) (Lx : Nat) (xs : Nat → Int32) (q1 : Nat) (q2 : Nat) (k : Int32 → Mem → Option (Int32 × Mem)) (hq1 : kd q1 = 8) (hq2 : kd q2 = 9) (hk : ∀ (x3 : Int32) (μ : Mem), Ex a0 RL cL_law 4 ret 40 (some (b, Lx, xs)) (fun x => (some (.int x.1), x.2)) 961 [] [] μ (k x3 μ)) : ∀ (n : Nat) (x3 : Int32) (μ : Mem), Ex a0 RL cL_law 4 ret 40 (some (b, Lx, xs)) (fun x => (some (.int x.1), x.2)) 18 [(0, .ref b), (1, .ref (a0 + q1)), (2, .ref (a0 + q2)), (3, .int x3)] [] μ (f_L_law_L18 F Lx xs q1 q2 k n x3 μ) := by
  intro n
  induction n with
  | zero => intro x3 μ; exact Ex_none
  | succ n ih =>
    intro x3 μ
    rw [f_L_law_L18]
    refine Ex_iload_n dL_law_18 rfl 3 rfl ?_
    refine Ex_aload_n dL_law_19 rfl 0 rfl ?_
    refine Ex_slen rfl dL_law_20 ?_
    refine Ex_iconst (v := 5) dL_law_21 (by decide) ?_
    refine Ex_isub dL_law_22 ?_
    refine Ex_icmp_gt (tgt := 961) dL_law_23 (by decide) ?_ ?_
    · refine Ex_perm [] rfl ?_
      exact hk x3 μ
    · refine Ex_aload_n dL_law_26 rfl 0 rfl ?_
      refine Ex_iload_n dL_law_27 rfl 3 rfl ?_
      refine Ex_sld rfl dL_law_28 ?_
      refine Ex_bipush (v := 31) dL_law_29 (by decide) ?_
      refine Ex_iand dL_law_31 ?_
      refine Ex_if (((xs x3.toNatClampNeg) &&& 31) = 0) (fun hc_1 => ?_) (fun hc_1 => ?_)
      · refine Ex_tblC (tgt := 160) dL_law_32 (i := 0) (by rw [hc_1]; rfl) (by decide) (by decide) (off := 128) rfl (by decide) ?_
        refine Ex_aload_n dL_law_160 rfl 1 rfl ?_
        refine Ex_aload_n dL_law_161 rfl 0 rfl ?_
        refine Ex_iload_n dL_law_162 rfl 3 rfl ?_
        refine Ex_iconst (v := 1) dL_law_163 (by decide) ?_
        refine Ex_iadd dL_law_164 ?_
        refine Ex_sld rfl dL_law_165 ?_
        refine Ex_callVW (n := 1) (dp2 := 1) [.int (xs (x3 + 1).toNatClampNeg)] cvL_13 hq1 rfl rfl (by decide) (by decide) (Nat.le_of_ble_eq_true rfl) rfl (fun v μ2 hv => c_X8_type a0 F μ q1 (xs (x3 + 1).toNatClampNeg) hq1 hv) dL_law_166 (fun v_2 μ_3 hv_4 => ?_)
        refine Ex_aload_n dL_law_169 rfl 2 rfl ?_
        refine Ex_aload_n dL_law_170 rfl 0 rfl ?_
        refine Ex_iload_n dL_law_171 rfl 3 rfl ?_
        refine Ex_iconst (v := 1) dL_law_172 (by decide) ?_
        refine Ex_iadd dL_law_173 ?_
        refine Ex_sld rfl dL_law_174 ?_
        refine Ex_callVW (n := 1) (dp2 := 1) [.int (xs (x3 + 1).toNatClampNeg)] cvL_17 hq2 rfl rfl (by decide) (by decide) (Nat.le_of_ble_eq_true rfl) rfl (fun v μ2 hv => c_X9_type a0 F μ_3 q2 (xs (x3 + 1).toNatClampNeg) hq2 hv) dL_law_175 (fun v_5 μ_6 hv_7 => ?_)
        refine Ex_icmp_eq (tgt := 955) dL_law_178 (by decide) ?_ ?_
        · refine Ex_iinc (v := x3 + 5) (L2 := [(3, .int (x3 + 5)), (0, .ref b), (1, .ref (a0 + q1)), (2, .ref (a0 + q2))]) dL_law_955 3 rfl rfl (by decide) rfl ?_
          refine Ex_goto (tgt := 18) dL_law_958 (by decide) ?_
          refine Ex_perm [1, 2, 3, 0] rfl ?_
          exact ih (x3 + 5) μ_6
        · refine Ex_iconst (v := 0) dL_law_181 (by decide) ?_
          exact Ex_iret dL_law_182 rfl (fun ty h => by cases h; rfl)
      · refine Ex_if (((xs x3.toNatClampNeg) &&& 31) = 1) (fun hc_8 => ?_) (fun hc_8 => ?_)
        · refine Ex_tblC (tgt := 183) dL_law_32 (i := 1) (by rw [hc_8]; rfl) (by decide) (by decide) (off := 151) rfl (by decide) ?_
          refine Ex_aload_n dL_law_183 rfl 1 rfl ?_
          refine Ex_callVW (n := 0) (dp2 := 0) [] cvL_18 hq1 rfl rfl (by decide) (by decide) (Nat.le_of_ble_eq_true rfl) rfl (fun v μ2 hv => c_X8_clear a0 F μ q1 hq1 hv) dL_law_184 (fun v_9 μ_10 hv_11 => ?_)
          refine Ex_aload_n dL_law_187 rfl 2 rfl ?_
          refine Ex_callVW (n := 0) (dp2 := 0) [] cvL_22 hq2 rfl rfl (by decide) (by decide) (Nat.le_of_ble_eq_true rfl) rfl (fun v μ2 hv => c_X9_clear a0 F μ_10 q2 hq2 hv) dL_law_188 (fun v_12 μ_13 hv_14 => ?_)
          refine Ex_icmp_eq (tgt := 955) dL_law_191 (by decide) ?_ ?_
          · refine Ex_iinc (v := x3 + 5) (L2 := [(3, .int (x3 + 5)), (0, .ref b), (1, .ref (a0 + q1)), (2, .ref (a0 + q2))]) dL_law_955 3 rfl rfl (by decide) rfl ?_
            refine Ex_goto (tgt := 18) dL_law_958 (by decide) ?_
            refine Ex_perm [1, 2, 3, 0] rfl ?_
            exact ih (x3 + 5) μ_13
          · refine Ex_iconst (v := 0) dL_law_194 (by decide) ?_
            exact Ex_iret dL_law_195 rfl (fun ty h => by cases h; rfl)
        · refine Ex_if (((xs x3.toNatClampNeg) &&& 31) = 2) (fun hc_15 => ?_) (fun hc_15 => ?_)
          · refine Ex_tblC (tgt := 196) dL_law_32 (i := 2) (by rw [hc_15]; rfl) (by decide) (by decide) (off := 164) rfl (by decide) ?_
            refine Ex_aload_n dL_law_196 rfl 1 rfl ?_
            refine Ex_callVW (n := 0) (dp2 := 6) [] cvL_23 hq1 rfl rfl (by decide) (by decide) (Nat.le_of_ble_eq_true rfl) rfl (fun v μ2 hv => c_X8_capital a0 F μ q1 hq1 hv) dL_law_197 (fun v_16 μ_17 hv_18 => ?_)
            refine Ex_aload_n dL_law_200 rfl 2 rfl ?_
            refine Ex_callVW (n := 0) (dp2 := 5) [] cvL_26 hq2 rfl rfl (by decide) (by decide) (Nat.le_of_ble_eq_true rfl) rfl (fun v μ2 hv => c_X9_capital a0 F μ_17 q2 hq2 hv) dL_law_201 (fun v_19 μ_20 hv_21 => ?_)
            refine Ex_icmp_eq (tgt := 955) dL_law_204 (by decide) ?_ ?_
            · refine Ex_iinc (v := x3 + 5) (L2 := [(3, .int (x3 + 5)), (0, .ref b), (1, .ref (a0 + q1)), (2, .ref (a0 + q2))]) dL_law_955 3 rfl rfl (by decide) rfl ?_
              refine Ex_goto (tgt := 18) dL_law_958 (by decide) ?_
              refine Ex_perm [1, 2, 3, 0] rfl ?_
              exact ih (x3 + 5) μ_20
            · refine Ex_iconst (v := 0) dL_law_207 (by decide) ?_
              exact Ex_iret dL_law_208 rfl (fun ty h => by cases h; rfl)
          · refine Ex_if (((xs x3.toNatClampNeg) &&& 31) = 3) (fun hc_22 => ?_) (fun hc_22 => ?_)
            · refine Ex_tblC (tgt := 209) dL_law_32 (i := 3) (by rw [hc_22]; rfl) (by decide) (by decide) (off := 177) rfl (by decide) ?_
              refine Ex_aload_n dL_law_209 rfl 1 rfl ?_
              refine Ex_aload_n dL_law_210 rfl 0 rfl ?_
              refine Ex_iload_n dL_law_211 rfl 3 rfl ?_
              refine Ex_iconst (v := 1) dL_law_212 (by decide) ?_
              refine Ex_iadd dL_law_213 ?_
              refine Ex_sld rfl dL_law_214 ?_
              refine Ex_aload_n dL_law_215 rfl 0 rfl ?_
              refine Ex_iload_n dL_law_216 rfl 3 rfl ?_
              refine Ex_iconst (v := 2) dL_law_217 (by decide) ?_
              refine Ex_iadd dL_law_218 ?_
              refine Ex_sld rfl dL_law_219 ?_
              refine Ex_callVR (n := 2) (dp2 := 1) [.int (xs (x3 + 1).toNatClampNeg), .int (xs (x3 + 2).toNatClampNeg)] cvL_27 hq1 rfl rfl (by decide) (by decide) (Nat.le_of_ble_eq_true rfl) rfl (fun v hv => c_X8_lane a0 F μ q1 (xs (x3 + 1).toNatClampNeg) (xs (x3 + 2).toNatClampNeg) hq1 hv) dL_law_220 (fun v_23 hv_25 => ?_)
              refine Ex_aload_n dL_law_223 rfl 2 rfl ?_
              refine Ex_aload_n dL_law_224 rfl 0 rfl ?_
              refine Ex_iload_n dL_law_225 rfl 3 rfl ?_
              refine Ex_iconst (v := 1) dL_law_226 (by decide) ?_
              refine Ex_iadd dL_law_227 ?_
              refine Ex_sld rfl dL_law_228 ?_
              refine Ex_aload_n dL_law_229 rfl 0 rfl ?_
              refine Ex_iload_n dL_law_230 rfl 3 rfl ?_
              refine Ex_iconst (v := 2) dL_law_231 (by decide) ?_
              refine Ex_iadd dL_law_232 ?_
              refine Ex_sld rfl dL_law_233 ?_
              refine Ex_callVR (n := 2) (dp2 := 2) [.int (xs (x3 + 1).toNatClampNeg), .int (xs (x3 + 2).toNatClampNeg)] cvL_31 hq2 rfl rfl (by decide) (by decide) (Nat.le_of_ble_eq_true rfl) rfl (fun v hv => c_X9_lane a0 F μ q2 (xs (x3 + 1).toNatClampNeg) (xs (x3 + 2).toNatClampNeg) hq2 hv) dL_law_234 (fun v_26 hv_28 => ?_)
              refine Ex_icmp_eq (tgt := 955) dL_law_237 (by decide) ?_ ?_
              · refine Ex_iinc (v := x3 + 5) (L2 := [(3, .int (x3 + 5)), (0, .ref b), (1, .ref (a0 + q1)), (2, .ref (a0 + q2))]) dL_law_955 3 rfl rfl (by decide) rfl ?_
                refine Ex_goto (tgt := 18) dL_law_958 (by decide) ?_
                refine Ex_perm [1, 2, 3, 0] rfl ?_
                exact ih (x3 + 5) μ
              · refine Ex_iconst (v := 0) dL_law_240 (by decide) ?_
                exact Ex_iret dL_law_241 rfl (fun ty h => by cases h; rfl)
            · refine Ex_if (((xs x3.toNatClampNeg) &&& 31) = 4) (fun hc_29 => ?_) (fun hc_29 => ?_)
              · refine Ex_tblC (tgt := 242) dL_law_32 (i := 4) (by rw [hc_29]; rfl) (by decide) (by decide) (off := 210) rfl (by decide) ?_
                refine Ex_aload_n dL_law_242 rfl 1 rfl ?_
                refine Ex_aload_n dL_law_243 rfl 0 rfl ?_
                refine Ex_iload_n dL_law_244 rfl 3 rfl ?_
                refine Ex_iconst (v := 1) dL_law_245 (by decide) ?_
                refine Ex_iadd dL_law_246 ?_
                refine Ex_sld rfl dL_law_247 ?_
                refine Ex_aload_n dL_law_248 rfl 0 rfl ?_
                refine Ex_iload_n dL_law_249 rfl 3 rfl ?_
                refine Ex_iconst (v := 2) dL_law_250 (by decide) ?_
                refine Ex_iadd dL_law_251 ?_
                refine Ex_sld rfl dL_law_252 ?_
                refine Ex_callVR (n := 2) (dp2 := 4) [.int (xs (x3 + 1).toNatClampNeg), .int (xs (x3 + 2).toNatClampNeg)] cvL_32 hq1 rfl rfl (by decide) (by decide) (Nat.le_of_ble_eq_true rfl) rfl (fun v hv => c_X8_person a0 F μ q1 (xs (x3 + 1).toNatClampNeg) (xs (x3 + 2).toNatClampNeg) hq1 hv) dL_law_253 (fun v_30 hv_32 => ?_)
                refine Ex_aload_n dL_law_256 rfl 2 rfl ?_
                refine Ex_aload_n dL_law_257 rfl 0 rfl ?_
                refine Ex_iload_n dL_law_258 rfl 3 rfl ?_
                refine Ex_iconst (v := 1) dL_law_259 (by decide) ?_
                refine Ex_iadd dL_law_260 ?_
                refine Ex_sld rfl dL_law_261 ?_
                refine Ex_aload_n dL_law_262 rfl 0 rfl ?_
                refine Ex_iload_n dL_law_263 rfl 3 rfl ?_
                refine Ex_iconst (v := 2) dL_law_264 (by decide) ?_
                refine Ex_iadd dL_law_265 ?_
                refine Ex_sld rfl dL_law_266 ?_
                refine Ex_callVR (n := 2) (dp2 := 3) [.int (xs (x3 + 1).toNatClampNeg), .int (xs (x3 + 2).toNatClampNeg)] cvL_35 hq2 rfl rfl (by decide) (by decide) (Nat.le_of_ble_eq_true rfl) rfl (fun v hv => c_X9_person a0 F μ q2 (xs (x3 + 1).toNatClampNeg) (xs (x3 + 2).toNatClampNeg) hq2 hv) dL_law_267 (fun v_33 hv_35 => ?_)
                refine Ex_icmp_eq (tgt := 955) dL_law_270 (by decide) ?_ ?_
                · refine Ex_iinc (v := x3 + 5) (L2 := [(3, .int (x3 + 5)), (0, .ref b), (1, .ref (a0 + q1)), (2, .ref (a0 + q2))]) dL_law_955 3 rfl rfl (by decide) rfl ?_
                  refine Ex_goto (tgt := 18) dL_law_958 (by decide) ?_
                  refine Ex_perm [1, 2, 3, 0] rfl ?_
                  exact ih (x3 + 5) μ
                · refine Ex_iconst (v := 0) dL_law_273 (by decide) ?_
                  exact Ex_iret dL_law_274 rfl (fun ty h => by cases h; rfl)
              · refine Ex_if (((xs x3.toNatClampNeg) &&& 31) = 5) (fun hc_36 => ?_) (fun hc_36 => ?_)
                · refine Ex_tblC (tgt := 275) dL_law_32 (i := 5) (by rw [hc_36]; rfl) (by decide) (by decide) (off := 243) rfl (by decide) ?_
                  refine Ex_aload_n dL_law_275 rfl 1 rfl ?_
                  refine Ex_aload_n dL_law_276 rfl 0 rfl ?_
                  refine Ex_iload_n dL_law_277 rfl 3 rfl ?_
                  refine Ex_iconst (v := 1) dL_law_278 (by decide) ?_
                  refine Ex_iadd dL_law_279 ?_
                  refine Ex_sld rfl dL_law_280 ?_
                  refine Ex_aload_n dL_law_281 rfl 0 rfl ?_
                  refine Ex_iload_n dL_law_282 rfl 3 rfl ?_
                  refine Ex_iconst (v := 2) dL_law_283 (by decide) ?_
                  refine Ex_iadd dL_law_284 ?_
                  refine Ex_sld rfl dL_law_285 ?_
                  refine Ex_callVW (n := 2) (dp2 := 2) [.int (xs (x3 + 1).toNatClampNeg), .int (xs (x3 + 2).toNatClampNeg)] cvL_36 hq1 rfl rfl (by decide) (by decide) (Nat.le_of_ble_eq_true rfl) rfl (fun v μ2 hv => c_X8_goes a0 F μ q1 (xs (x3 + 1).toNatClampNeg) (xs (x3 + 2).toNatClampNeg) hq1 hv) dL_law_286 (fun v_37 μ_38 hv_39 => ?_)
                  refine Ex_aload_n dL_law_289 rfl 2 rfl ?_
                  refine Ex_aload_n dL_law_290 rfl 0 rfl ?_
                  refine Ex_iload_n dL_law_291 rfl 3 rfl ?_
                  refine Ex_iconst (v := 1) dL_law_292 (by decide) ?_
                  refine Ex_iadd dL_law_293 ?_
                  refine Ex_sld rfl dL_law_294 ?_
                  refine Ex_aload_n dL_law_295 rfl 0 rfl ?_
                  refine Ex_iload_n dL_law_296 rfl 3 rfl ?_
                  refine Ex_iconst (v := 2) dL_law_297 (by decide) ?_
                  refine Ex_iadd dL_law_298 ?_
                  refine Ex_sld rfl dL_law_299 ?_
                  refine Ex_callVW (n := 2) (dp2 := 2) [.int (xs (x3 + 1).toNatClampNeg), .int (xs (x3 + 2).toNatClampNeg)] cvL_39 hq2 rfl rfl (by decide) (by decide) (Nat.le_of_ble_eq_true rfl) rfl (fun v μ2 hv => c_X9_goes a0 F μ_38 q2 (xs (x3 + 1).toNatClampNeg) (xs (x3 + 2).toNatClampNeg) hq2 hv) dL_law_300 (fun v_40 μ_41 hv_42 => ?_)
                  refine Ex_icmp_eq (tgt := 955) dL_law_303 (by decide) ?_ ?_
                  · refine Ex_iinc (v := x3 + 5) (L2 := [(3, .int (x3 + 5)), (0, .ref b), (1, .ref (a0 + q1)), (2, .ref (a0 + q2))]) dL_law_955 3 rfl rfl (by decide) rfl ?_
                    refine Ex_goto (tgt := 18) dL_law_958 (by decide) ?_
                    refine Ex_perm [1, 2, 3, 0] rfl ?_
                    exact ih (x3 + 5) μ_41
                  · refine Ex_iconst (v := 0) dL_law_306 (by decide) ?_
                    exact Ex_iret dL_law_307 rfl (fun ty h => by cases h; rfl)
                · refine Ex_if (((xs x3.toNatClampNeg) &&& 31) = 6) (fun hc_43 => ?_) (fun hc_43 => ?_)
                  · refine Ex_tblC (tgt := 308) dL_law_32 (i := 6) (by rw [hc_43]; rfl) (by decide) (by decide) (off := 276) rfl (by decide) ?_
                    refine Ex_aload_n dL_law_308 rfl 1 rfl ?_
                    refine Ex_aload_n dL_law_309 rfl 0 rfl ?_
                    refine Ex_iload_n dL_law_310 rfl 3 rfl ?_
                    refine Ex_iconst (v := 1) dL_law_311 (by decide) ?_
                    refine Ex_iadd dL_law_312 ?_
                    refine Ex_sld rfl dL_law_313 ?_
                    refine Ex_aload_n dL_law_314 rfl 0 rfl ?_
                    refine Ex_iload_n dL_law_315 rfl 3 rfl ?_
                    refine Ex_iconst (v := 2) dL_law_316 (by decide) ?_
                    refine Ex_iadd dL_law_317 ?_
                    refine Ex_sld rfl dL_law_318 ?_
                    refine Ex_aload_n dL_law_319 rfl 0 rfl ?_
                    refine Ex_iload_n dL_law_320 rfl 3 rfl ?_
                    refine Ex_iconst (v := 3) dL_law_321 (by decide) ?_
                    refine Ex_iadd dL_law_322 ?_
                    refine Ex_sld rfl dL_law_323 ?_
                    refine Ex_callVW (n := 3) (dp2 := 3) [.int (xs (x3 + 1).toNatClampNeg), .int (xs (x3 + 2).toNatClampNeg), .int (xs (x3 + 3).toNatClampNeg)] cvL_40 hq1 rfl rfl (by decide) (by decide) (Nat.le_of_ble_eq_true rfl) rfl (fun v μ2 hv => c_X8_meets a0 F μ q1 (xs (x3 + 1).toNatClampNeg) (xs (x3 + 2).toNatClampNeg) (xs (x3 + 3).toNatClampNeg) hq1 hv) dL_law_324 (fun v_44 μ_45 hv_46 => ?_)
                    refine Ex_aload_n dL_law_327 rfl 2 rfl ?_
                    refine Ex_aload_n dL_law_328 rfl 0 rfl ?_
                    refine Ex_iload_n dL_law_329 rfl 3 rfl ?_
                    refine Ex_iconst (v := 1) dL_law_330 (by decide) ?_
                    refine Ex_iadd dL_law_331 ?_
                    refine Ex_sld rfl dL_law_332 ?_
                    refine Ex_aload_n dL_law_333 rfl 0 rfl ?_
                    refine Ex_iload_n dL_law_334 rfl 3 rfl ?_
                    refine Ex_iconst (v := 2) dL_law_335 (by decide) ?_
                    refine Ex_iadd dL_law_336 ?_
                    refine Ex_sld rfl dL_law_337 ?_
                    refine Ex_aload_n dL_law_338 rfl 0 rfl ?_
                    refine Ex_iload_n dL_law_339 rfl 3 rfl ?_
                    refine Ex_iconst (v := 3) dL_law_340 (by decide) ?_
                    refine Ex_iadd dL_law_341 ?_
                    refine Ex_sld rfl dL_law_342 ?_
                    refine Ex_callVW (n := 3) (dp2 := 2) [.int (xs (x3 + 1).toNatClampNeg), .int (xs (x3 + 2).toNatClampNeg), .int (xs (x3 + 3).toNatClampNeg)] cvL_44 hq2 rfl rfl (by decide) (by decide) (Nat.le_of_ble_eq_true rfl) rfl (fun v μ2 hv => c_X9_meets a0 F μ_45 q2 (xs (x3 + 1).toNatClampNeg) (xs (x3 + 2).toNatClampNeg) (xs (x3 + 3).toNatClampNeg) hq2 hv) dL_law_343 (fun v_47 μ_48 hv_49 => ?_)
                    refine Ex_icmp_eq (tgt := 955) dL_law_346 (by decide) ?_ ?_
                    · refine Ex_iinc (v := x3 + 5) (L2 := [(3, .int (x3 + 5)), (0, .ref b), (1, .ref (a0 + q1)), (2, .ref (a0 + q2))]) dL_law_955 3 rfl rfl (by decide) rfl ?_
                      refine Ex_goto (tgt := 18) dL_law_958 (by decide) ?_
                      refine Ex_perm [1, 2, 3, 0] rfl ?_
                      exact ih (x3 + 5) μ_48
                    · refine Ex_iconst (v := 0) dL_law_349 (by decide) ?_
                      exact Ex_iret dL_law_350 rfl (fun ty h => by cases h; rfl)
                  · refine Ex_if (((xs x3.toNatClampNeg) &&& 31) = 7) (fun hc_50 => ?_) (fun hc_50 => ?_)
                    · refine Ex_tblC (tgt := 351) dL_law_32 (i := 7) (by rw [hc_50]; rfl) (by decide) (by decide) (off := 319) rfl (by decide) ?_
                      refine Ex_aload_n dL_law_351 rfl 1 rfl ?_
                      refine Ex_aload_n dL_law_352 rfl 0 rfl ?_
                      refine Ex_iload_n dL_law_353 rfl 3 rfl ?_
                      refine Ex_iconst (v := 1) dL_law_354 (by decide) ?_
                      refine Ex_iadd dL_law_355 ?_
                      refine Ex_sld rfl dL_law_356 ?_
                      refine Ex_aload_n dL_law_357 rfl 0 rfl ?_
                      refine Ex_iload_n dL_law_358 rfl 3 rfl ?_
                      refine Ex_iconst (v := 2) dL_law_359 (by decide) ?_
                      refine Ex_iadd dL_law_360 ?_
                      refine Ex_sld rfl dL_law_361 ?_
                      refine Ex_callVW (n := 2) (dp2 := 2) [.int (xs (x3 + 1).toNatClampNeg), .int (xs (x3 + 2).toNatClampNeg)] cvL_45 hq1 rfl rfl (by decide) (by decide) (Nat.le_of_ble_eq_true rfl) rfl (fun v μ2 hv => c_X8_claims a0 F μ q1 (xs (x3 + 1).toNatClampNeg) (xs (x3 + 2).toNatClampNeg) hq1 hv) dL_law_362 (fun v_51 μ_52 hv_53 => ?_)
                      refine Ex_aload_n dL_law_365 rfl 2 rfl ?_
                      refine Ex_aload_n dL_law_366 rfl 0 rfl ?_
                      refine Ex_iload_n dL_law_367 rfl 3 rfl ?_
                      refine Ex_iconst (v := 1) dL_law_368 (by decide) ?_
                      refine Ex_iadd dL_law_369 ?_
                      refine Ex_sld rfl dL_law_370 ?_
                      refine Ex_aload_n dL_law_371 rfl 0 rfl ?_
                      refine Ex_iload_n dL_law_372 rfl 3 rfl ?_
                      refine Ex_iconst (v := 2) dL_law_373 (by decide) ?_
                      refine Ex_iadd dL_law_374 ?_
                      refine Ex_sld rfl dL_law_375 ?_
                      refine Ex_callVW (n := 2) (dp2 := 2) [.int (xs (x3 + 1).toNatClampNeg), .int (xs (x3 + 2).toNatClampNeg)] cvL_48 hq2 rfl rfl (by decide) (by decide) (Nat.le_of_ble_eq_true rfl) rfl (fun v μ2 hv => c_X9_claims a0 F μ_52 q2 (xs (x3 + 1).toNatClampNeg) (xs (x3 + 2).toNatClampNeg) hq2 hv) dL_law_376 (fun v_54 μ_55 hv_56 => ?_)
                      refine Ex_icmp_eq (tgt := 955) dL_law_379 (by decide) ?_ ?_
                      · refine Ex_iinc (v := x3 + 5) (L2 := [(3, .int (x3 + 5)), (0, .ref b), (1, .ref (a0 + q1)), (2, .ref (a0 + q2))]) dL_law_955 3 rfl rfl (by decide) rfl ?_
                        refine Ex_goto (tgt := 18) dL_law_958 (by decide) ?_
                        refine Ex_perm [1, 2, 3, 0] rfl ?_
                        exact ih (x3 + 5) μ_55
                      · refine Ex_iconst (v := 0) dL_law_382 (by decide) ?_
                        exact Ex_iret dL_law_383 rfl (fun ty h => by cases h; rfl)
                    · refine Ex_if (((xs x3.toNatClampNeg) &&& 31) = 8) (fun hc_57 => ?_) (fun hc_57 => ?_)
                      · refine Ex_tblC (tgt := 384) dL_law_32 (i := 8) (by rw [hc_57]; rfl) (by decide) (by decide) (off := 352) rfl (by decide) ?_
                        refine Ex_aload_n dL_law_384 rfl 1 rfl ?_
                        refine Ex_aload_n dL_law_385 rfl 0 rfl ?_
                        refine Ex_iload_n dL_law_386 rfl 3 rfl ?_
                        refine Ex_iconst (v := 1) dL_law_387 (by decide) ?_
                        refine Ex_iadd dL_law_388 ?_
                        refine Ex_sld rfl dL_law_389 ?_
                        refine Ex_aload_n dL_law_390 rfl 0 rfl ?_
                        refine Ex_iload_n dL_law_391 rfl 3 rfl ?_
                        refine Ex_iconst (v := 2) dL_law_392 (by decide) ?_
                        refine Ex_iadd dL_law_393 ?_
                        refine Ex_sld rfl dL_law_394 ?_
                        refine Ex_callVW (n := 2) (dp2 := 2) [.int (xs (x3 + 1).toNatClampNeg), .int (xs (x3 + 2).toNatClampNeg)] cvL_49 hq1 rfl rfl (by decide) (by decide) (Nat.le_of_ble_eq_true rfl) rfl (fun v μ2 hv => c_X8_patents a0 F μ q1 (xs (x3 + 1).toNatClampNeg) (xs (x3 + 2).toNatClampNeg) hq1 hv) dL_law_395 (fun v_58 μ_59 hv_60 => ?_)
                        refine Ex_aload_n dL_law_398 rfl 2 rfl ?_
                        refine Ex_aload_n dL_law_399 rfl 0 rfl ?_
                        refine Ex_iload_n dL_law_400 rfl 3 rfl ?_
                        refine Ex_iconst (v := 1) dL_law_401 (by decide) ?_
                        refine Ex_iadd dL_law_402 ?_
                        refine Ex_sld rfl dL_law_403 ?_
                        refine Ex_aload_n dL_law_404 rfl 0 rfl ?_
                        refine Ex_iload_n dL_law_405 rfl 3 rfl ?_
                        refine Ex_iconst (v := 2) dL_law_406 (by decide) ?_
                        refine Ex_iadd dL_law_407 ?_
                        refine Ex_sld rfl dL_law_408 ?_
                        refine Ex_callVW (n := 2) (dp2 := 2) [.int (xs (x3 + 1).toNatClampNeg), .int (xs (x3 + 2).toNatClampNeg)] cvL_52 hq2 rfl rfl (by decide) (by decide) (Nat.le_of_ble_eq_true rfl) rfl (fun v μ2 hv => c_X9_patents a0 F μ_59 q2 (xs (x3 + 1).toNatClampNeg) (xs (x3 + 2).toNatClampNeg) hq2 hv) dL_law_409 (fun v_61 μ_62 hv_63 => ?_)
                        refine Ex_icmp_eq (tgt := 955) dL_law_412 (by decide) ?_ ?_
                        · refine Ex_iinc (v := x3 + 5) (L2 := [(3, .int (x3 + 5)), (0, .ref b), (1, .ref (a0 + q1)), (2, .ref (a0 + q2))]) dL_law_955 3 rfl rfl (by decide) rfl ?_
                          refine Ex_goto (tgt := 18) dL_law_958 (by decide) ?_
                          refine Ex_perm [1, 2, 3, 0] rfl ?_
                          exact ih (x3 + 5) μ_62
                        · refine Ex_iconst (v := 0) dL_law_415 (by decide) ?_
                          exact Ex_iret dL_law_416 rfl (fun ty h => by cases h; rfl)
                      · refine Ex_if (((xs x3.toNatClampNeg) &&& 31) = 9) (fun hc_64 => ?_) (fun hc_64 => ?_)
                        · refine Ex_tblC (tgt := 417) dL_law_32 (i := 9) (by rw [hc_64]; rfl) (by decide) (by decide) (off := 385) rfl (by decide) ?_
                          refine Ex_aload_n dL_law_417 rfl 1 rfl ?_
                          refine Ex_aload_n dL_law_418 rfl 0 rfl ?_
                          refine Ex_iload_n dL_law_419 rfl 3 rfl ?_
                          refine Ex_iconst (v := 1) dL_law_420 (by decide) ?_
                          refine Ex_iadd dL_law_421 ?_
                          refine Ex_sld rfl dL_law_422 ?_
                          refine Ex_aload_n dL_law_423 rfl 0 rfl ?_
                          refine Ex_iload_n dL_law_424 rfl 3 rfl ?_
                          refine Ex_iconst (v := 2) dL_law_425 (by decide) ?_
                          refine Ex_iadd dL_law_426 ?_
                          refine Ex_sld rfl dL_law_427 ?_
                          refine Ex_callVW (n := 2) (dp2 := 2) [.int (xs (x3 + 1).toNatClampNeg), .int (xs (x3 + 2).toNatClampNeg)] cvL_53 hq1 rfl rfl (by decide) (by decide) (Nat.le_of_ble_eq_true rfl) rfl (fun v μ2 hv => c_X8_shuts a0 F μ q1 (xs (x3 + 1).toNatClampNeg) (xs (x3 + 2).toNatClampNeg) hq1 hv) dL_law_428 (fun v_65 μ_66 hv_67 => ?_)
                          refine Ex_aload_n dL_law_431 rfl 2 rfl ?_
                          refine Ex_aload_n dL_law_432 rfl 0 rfl ?_
                          refine Ex_iload_n dL_law_433 rfl 3 rfl ?_
                          refine Ex_iconst (v := 1) dL_law_434 (by decide) ?_
                          refine Ex_iadd dL_law_435 ?_
                          refine Ex_sld rfl dL_law_436 ?_
                          refine Ex_aload_n dL_law_437 rfl 0 rfl ?_
                          refine Ex_iload_n dL_law_438 rfl 3 rfl ?_
                          refine Ex_iconst (v := 2) dL_law_439 (by decide) ?_
                          refine Ex_iadd dL_law_440 ?_
                          refine Ex_sld rfl dL_law_441 ?_
                          refine Ex_callVW (n := 2) (dp2 := 2) [.int (xs (x3 + 1).toNatClampNeg), .int (xs (x3 + 2).toNatClampNeg)] cvL_56 hq2 rfl rfl (by decide) (by decide) (Nat.le_of_ble_eq_true rfl) rfl (fun v μ2 hv => c_X9_shuts a0 F μ_66 q2 (xs (x3 + 1).toNatClampNeg) (xs (x3 + 2).toNatClampNeg) hq2 hv) dL_law_442 (fun v_68 μ_69 hv_70 => ?_)
                          refine Ex_icmp_eq (tgt := 955) dL_law_445 (by decide) ?_ ?_
                          · refine Ex_iinc (v := x3 + 5) (L2 := [(3, .int (x3 + 5)), (0, .ref b), (1, .ref (a0 + q1)), (2, .ref (a0 + q2))]) dL_law_955 3 rfl rfl (by decide) rfl ?_
                            refine Ex_goto (tgt := 18) dL_law_958 (by decide) ?_
                            refine Ex_perm [1, 2, 3, 0] rfl ?_
                            exact ih (x3 + 5) μ_69
                          · refine Ex_iconst (v := 0) dL_law_448 (by decide) ?_
                            exact Ex_iret dL_law_449 rfl (fun ty h => by cases h; rfl)
                        · refine Ex_if (((xs x3.toNatClampNeg) &&& 31) = 10) (fun hc_71 => ?_) (fun hc_71 => ?_)
                          · refine Ex_tblC (tgt := 450) dL_law_32 (i := 10) (by rw [hc_71]; rfl) (by decide) (by decide) (off := 418) rfl (by decide) ?_
                            refine Ex_aload_n dL_law_450 rfl 1 rfl ?_
                            refine Ex_callVW (n := 0) (dp2 := 2) [] cvL_57 hq1 rfl rfl (by decide) (by decide) (Nat.le_of_ble_eq_true rfl) rfl (fun v μ2 hv => c_X8_undo a0 F μ q1 hq1 hv) dL_law_451 (fun v_72 μ_73 hv_74 => ?_)
                            refine Ex_aload_n dL_law_454 rfl 2 rfl ?_
                            refine Ex_callVW (n := 0) (dp2 := 0) [] cvL_60 hq2 rfl rfl (by decide) (by decide) (Nat.le_of_ble_eq_true rfl) rfl (fun v μ2 hv => c_X9_undo a0 F μ_73 q2 hq2 hv) dL_law_455 (fun v_75 μ_76 hv_77 => ?_)
                            refine Ex_icmp_eq (tgt := 955) dL_law_458 (by decide) ?_ ?_
                            · refine Ex_iinc (v := x3 + 5) (L2 := [(3, .int (x3 + 5)), (0, .ref b), (1, .ref (a0 + q1)), (2, .ref (a0 + q2))]) dL_law_955 3 rfl rfl (by decide) rfl ?_
                              refine Ex_goto (tgt := 18) dL_law_958 (by decide) ?_
                              refine Ex_perm [1, 2, 3, 0] rfl ?_
                              exact ih (x3 + 5) μ_76
                            · refine Ex_iconst (v := 0) dL_law_461 (by decide) ?_
                              exact Ex_iret dL_law_462 rfl (fun ty h => by cases h; rfl)
                          · refine Ex_if (((xs x3.toNatClampNeg) &&& 31) = 11) (fun hc_78 => ?_) (fun hc_78 => ?_)
                            · refine Ex_tblC (tgt := 463) dL_law_32 (i := 11) (by rw [hc_78]; rfl) (by decide) (by decide) (off := 431) rfl (by decide) ?_
                              refine Ex_aload_n dL_law_463 rfl 1 rfl ?_
                              refine Ex_aload_n dL_law_464 rfl 0 rfl ?_
                              refine Ex_iload_n dL_law_465 rfl 3 rfl ?_
                              refine Ex_iconst (v := 1) dL_law_466 (by decide) ?_
                              refine Ex_iadd dL_law_467 ?_
                              refine Ex_sld rfl dL_law_468 ?_
                              refine Ex_callVR (n := 1) (dp2 := 4) [.int (xs (x3 + 1).toNatClampNeg)] cvL_61 hq1 rfl rfl (by decide) (by decide) (Nat.le_of_ble_eq_true rfl) rfl (fun v hv => c_X8_now a0 F μ q1 (xs (x3 + 1).toNatClampNeg) hq1 hv) dL_law_469 (fun v_79 hv_81 => ?_)
                              refine Ex_aload_n dL_law_472 rfl 2 rfl ?_
                              refine Ex_aload_n dL_law_473 rfl 0 rfl ?_
                              refine Ex_iload_n dL_law_474 rfl 3 rfl ?_
                              refine Ex_iconst (v := 1) dL_law_475 (by decide) ?_
                              refine Ex_iadd dL_law_476 ?_
                              refine Ex_sld rfl dL_law_477 ?_
                              refine Ex_callVR (n := 1) (dp2 := 2) [.int (xs (x3 + 1).toNatClampNeg)] cvL_64 hq2 rfl rfl (by decide) (by decide) (Nat.le_of_ble_eq_true rfl) rfl (fun v hv => c_X9_now a0 F μ q2 (xs (x3 + 1).toNatClampNeg) hq2 hv) dL_law_478 (fun v_82 hv_84 => ?_)
                              refine Ex_icmp_eq (tgt := 955) dL_law_481 (by decide) ?_ ?_
                              · refine Ex_iinc (v := x3 + 5) (L2 := [(3, .int (x3 + 5)), (0, .ref b), (1, .ref (a0 + q1)), (2, .ref (a0 + q2))]) dL_law_955 3 rfl rfl (by decide) rfl ?_
                                refine Ex_goto (tgt := 18) dL_law_958 (by decide) ?_
                                refine Ex_perm [1, 2, 3, 0] rfl ?_
                                exact ih (x3 + 5) μ
                              · refine Ex_iconst (v := 0) dL_law_484 (by decide) ?_
                                exact Ex_iret dL_law_485 rfl (fun ty h => by cases h; rfl)
                            · refine Ex_if (((xs x3.toNatClampNeg) &&& 31) = 12) (fun hc_85 => ?_) (fun hc_85 => ?_)
                              · refine Ex_tblC (tgt := 486) dL_law_32 (i := 12) (by rw [hc_85]; rfl) (by decide) (by decide) (off := 454) rfl (by decide) ?_
                                refine Ex_aload_n dL_law_486 rfl 1 rfl ?_
                                refine Ex_aload_n dL_law_487 rfl 0 rfl ?_
                                refine Ex_iload_n dL_law_488 rfl 3 rfl ?_
                                refine Ex_iconst (v := 1) dL_law_489 (by decide) ?_
                                refine Ex_iadd dL_law_490 ?_
                                refine Ex_sld rfl dL_law_491 ?_
                                refine Ex_aload_n dL_law_492 rfl 0 rfl ?_
                                refine Ex_iload_n dL_law_493 rfl 3 rfl ?_
                                refine Ex_iconst (v := 2) dL_law_494 (by decide) ?_
                                refine Ex_iadd dL_law_495 ?_
                                refine Ex_sld rfl dL_law_496 ?_
                                refine Ex_aload_n dL_law_497 rfl 0 rfl ?_
                                refine Ex_iload_n dL_law_498 rfl 3 rfl ?_
                                refine Ex_iconst (v := 3) dL_law_499 (by decide) ?_
                                refine Ex_iadd dL_law_500 ?_
                                refine Ex_sld rfl dL_law_501 ?_
                                refine Ex_callVW (n := 3) (dp2 := 3) [.int (xs (x3 + 1).toNatClampNeg), .int (xs (x3 + 2).toNatClampNeg), .int (xs (x3 + 3).toNatClampNeg)] cvL_65 hq1 rfl rfl (by decide) (by decide) (Nat.le_of_ble_eq_true rfl) rfl (fun v μ2 hv => c_X8_way a0 F μ q1 (xs (x3 + 1).toNatClampNeg) (xs (x3 + 2).toNatClampNeg) (xs (x3 + 3).toNatClampNeg) hq1 hv) dL_law_502 (fun v_86 μ_87 hv_88 => ?_)
                                refine Ex_aload_n dL_law_505 rfl 2 rfl ?_
                                refine Ex_aload_n dL_law_506 rfl 0 rfl ?_
                                refine Ex_iload_n dL_law_507 rfl 3 rfl ?_
                                refine Ex_iconst (v := 1) dL_law_508 (by decide) ?_
                                refine Ex_iadd dL_law_509 ?_
                                refine Ex_sld rfl dL_law_510 ?_
                                refine Ex_aload_n dL_law_511 rfl 0 rfl ?_
                                refine Ex_iload_n dL_law_512 rfl 3 rfl ?_
                                refine Ex_iconst (v := 2) dL_law_513 (by decide) ?_
                                refine Ex_iadd dL_law_514 ?_
                                refine Ex_sld rfl dL_law_515 ?_
                                refine Ex_aload_n dL_law_516 rfl 0 rfl ?_
                                refine Ex_iload_n dL_law_517 rfl 3 rfl ?_
                                refine Ex_iconst (v := 3) dL_law_518 (by decide) ?_
                                refine Ex_iadd dL_law_519 ?_
                                refine Ex_sld rfl dL_law_520 ?_
                                refine Ex_callVW (n := 3) (dp2 := 3) [.int (xs (x3 + 1).toNatClampNeg), .int (xs (x3 + 2).toNatClampNeg), .int (xs (x3 + 3).toNatClampNeg)] cvL_68 hq2 rfl rfl (by decide) (by decide) (Nat.le_of_ble_eq_true rfl) rfl (fun v μ2 hv => c_X9_way a0 F μ_87 q2 (xs (x3 + 1).toNatClampNeg) (xs (x3 + 2).toNatClampNeg) (xs (x3 + 3).toNatClampNeg) hq2 hv) dL_law_521 (fun v_89 μ_90 hv_91 => ?_)
                                refine Ex_icmp_eq (tgt := 955) dL_law_524 (by decide) ?_ ?_
                                · refine Ex_iinc (v := x3 + 5) (L2 := [(3, .int (x3 + 5)), (0, .ref b), (1, .ref (a0 + q1)), (2, .ref (a0 + q2))]) dL_law_955 3 rfl rfl (by decide) rfl ?_
                                  refine Ex_goto (tgt := 18) dL_law_958 (by decide) ?_
                                  refine Ex_perm [1, 2, 3, 0] rfl ?_
                                  exact ih (x3 + 5) μ_90
                                · refine Ex_iconst (v := 0) dL_law_527 (by decide) ?_
                                  exact Ex_iret dL_law_528 rfl (fun ty h => by cases h; rfl)
                              · refine Ex_if (((xs x3.toNatClampNeg) &&& 31) = 13) (fun hc_92 => ?_) (fun hc_92 => ?_)
                                · refine Ex_tblC (tgt := 529) dL_law_32 (i := 13) (by rw [hc_92]; rfl) (by decide) (by decide) (off := 497) rfl (by decide) ?_
                                  refine Ex_aload_n dL_law_529 rfl 1 rfl ?_
                                  refine Ex_aload_n dL_law_530 rfl 0 rfl ?_
                                  refine Ex_iload_n dL_law_531 rfl 3 rfl ?_
                                  refine Ex_iconst (v := 1) dL_law_532 (by decide) ?_
                                  refine Ex_iadd dL_law_533 ?_
                                  refine Ex_sld rfl dL_law_534 ?_
                                  refine Ex_aload_n dL_law_535 rfl 0 rfl ?_
                                  refine Ex_iload_n dL_law_536 rfl 3 rfl ?_
                                  refine Ex_iconst (v := 2) dL_law_537 (by decide) ?_
                                  refine Ex_iadd dL_law_538 ?_
                                  refine Ex_sld rfl dL_law_539 ?_
                                  refine Ex_callVW (n := 2) (dp2 := 3) [.int (xs (x3 + 1).toNatClampNeg), .int (xs (x3 + 2).toNatClampNeg)] cvL_69 hq1 rfl rfl (by decide) (by decide) (Nat.le_of_ble_eq_true rfl) rfl (fun v μ2 hv => c_X8_lacks a0 F μ q1 (xs (x3 + 1).toNatClampNeg) (xs (x3 + 2).toNatClampNeg) hq1 hv) dL_law_540 (fun v_93 μ_94 hv_95 => ?_)
                                  refine Ex_aload_n dL_law_543 rfl 2 rfl ?_
                                  refine Ex_aload_n dL_law_544 rfl 0 rfl ?_
                                  refine Ex_iload_n dL_law_545 rfl 3 rfl ?_
                                  refine Ex_iconst (v := 1) dL_law_546 (by decide) ?_
                                  refine Ex_iadd dL_law_547 ?_
                                  refine Ex_sld rfl dL_law_548 ?_
                                  refine Ex_aload_n dL_law_549 rfl 0 rfl ?_
                                  refine Ex_iload_n dL_law_550 rfl 3 rfl ?_
                                  refine Ex_iconst (v := 2) dL_law_551 (by decide) ?_
                                  refine Ex_iadd dL_law_552 ?_
                                  refine Ex_sld rfl dL_law_553 ?_
                                  refine Ex_callVW (n := 2) (dp2 := 3) [.int (xs (x3 + 1).toNatClampNeg), .int (xs (x3 + 2).toNatClampNeg)] cvL_72 hq2 rfl rfl (by decide) (by decide) (Nat.le_of_ble_eq_true rfl) rfl (fun v μ2 hv => c_X9_lacks a0 F μ_94 q2 (xs (x3 + 1).toNatClampNeg) (xs (x3 + 2).toNatClampNeg) hq2 hv) dL_law_554 (fun v_96 μ_97 hv_98 => ?_)
                                  refine Ex_icmp_eq (tgt := 955) dL_law_557 (by decide) ?_ ?_
                                  · refine Ex_iinc (v := x3 + 5) (L2 := [(3, .int (x3 + 5)), (0, .ref b), (1, .ref (a0 + q1)), (2, .ref (a0 + q2))]) dL_law_955 3 rfl rfl (by decide) rfl ?_
                                    refine Ex_goto (tgt := 18) dL_law_958 (by decide) ?_
                                    refine Ex_perm [1, 2, 3, 0] rfl ?_
                                    exact ih (x3 + 5) μ_97
                                  · refine Ex_iconst (v := 0) dL_law_560 (by decide) ?_
                                    exact Ex_iret dL_law_561 rfl (fun ty h => by cases h; rfl)
                                · refine Ex_if (((xs x3.toNatClampNeg) &&& 31) = 14) (fun hc_99 => ?_) (fun hc_99 => ?_)
                                  · refine Ex_tblC (tgt := 562) dL_law_32 (i := 14) (by rw [hc_99]; rfl) (by decide) (by decide) (off := 530) rfl (by decide) ?_
                                    refine Ex_aload_n dL_law_562 rfl 1 rfl ?_
                                    refine Ex_aload_n dL_law_563 rfl 0 rfl ?_
                                    refine Ex_iload_n dL_law_564 rfl 3 rfl ?_
                                    refine Ex_iconst (v := 1) dL_law_565 (by decide) ?_
                                    refine Ex_iadd dL_law_566 ?_
                                    refine Ex_sld rfl dL_law_567 ?_
                                    refine Ex_aload_n dL_law_568 rfl 0 rfl ?_
                                    refine Ex_iload_n dL_law_569 rfl 3 rfl ?_
                                    refine Ex_iconst (v := 2) dL_law_570 (by decide) ?_
                                    refine Ex_iadd dL_law_571 ?_
                                    refine Ex_sld rfl dL_law_572 ?_
                                    refine Ex_callVR (n := 2) (dp2 := 3) [.int (xs (x3 + 1).toNatClampNeg), .int (xs (x3 + 2).toNatClampNeg)] cvL_73 hq1 rfl rfl (by decide) (by decide) (Nat.le_of_ble_eq_true rfl) rfl (fun v hv => c_X8_must a0 F μ q1 (xs (x3 + 1).toNatClampNeg) (xs (x3 + 2).toNatClampNeg) hq1 hv) dL_law_573 (fun v_100 hv_102 => ?_)
                                    refine Ex_aload_n dL_law_576 rfl 2 rfl ?_
                                    refine Ex_aload_n dL_law_577 rfl 0 rfl ?_
                                    refine Ex_iload_n dL_law_578 rfl 3 rfl ?_
                                    refine Ex_iconst (v := 1) dL_law_579 (by decide) ?_
                                    refine Ex_iadd dL_law_580 ?_
                                    refine Ex_sld rfl dL_law_581 ?_
                                    refine Ex_aload_n dL_law_582 rfl 0 rfl ?_
                                    refine Ex_iload_n dL_law_583 rfl 3 rfl ?_
                                    refine Ex_iconst (v := 2) dL_law_584 (by decide) ?_
                                    refine Ex_iadd dL_law_585 ?_
                                    refine Ex_sld rfl dL_law_586 ?_
                                    refine Ex_callVR (n := 2) (dp2 := 4) [.int (xs (x3 + 1).toNatClampNeg), .int (xs (x3 + 2).toNatClampNeg)] cvL_76 hq2 rfl rfl (by decide) (by decide) (Nat.le_of_ble_eq_true rfl) rfl (fun v hv => c_X9_must a0 F μ q2 (xs (x3 + 1).toNatClampNeg) (xs (x3 + 2).toNatClampNeg) hq2 hv) dL_law_587 (fun v_103 hv_105 => ?_)
                                    refine Ex_icmp_eq (tgt := 955) dL_law_590 (by decide) ?_ ?_
                                    · refine Ex_iinc (v := x3 + 5) (L2 := [(3, .int (x3 + 5)), (0, .ref b), (1, .ref (a0 + q1)), (2, .ref (a0 + q2))]) dL_law_955 3 rfl rfl (by decide) rfl ?_
                                      refine Ex_goto (tgt := 18) dL_law_958 (by decide) ?_
                                      refine Ex_perm [1, 2, 3, 0] rfl ?_
                                      exact ih (x3 + 5) μ
                                    · refine Ex_iconst (v := 0) dL_law_593 (by decide) ?_
                                      exact Ex_iret dL_law_594 rfl (fun ty h => by cases h; rfl)
                                  · refine Ex_if (((xs x3.toNatClampNeg) &&& 31) = 15) (fun hc_106 => ?_) (fun hc_106 => ?_)
                                    · refine Ex_tblC (tgt := 595) dL_law_32 (i := 15) (by rw [hc_106]; rfl) (by decide) (by decide) (off := 563) rfl (by decide) ?_
                                      refine Ex_aload_n dL_law_595 rfl 1 rfl ?_
                                      refine Ex_aload_n dL_law_596 rfl 0 rfl ?_
                                      refine Ex_iload_n dL_law_597 rfl 3 rfl ?_
                                      refine Ex_iconst (v := 1) dL_law_598 (by decide) ?_
                                      refine Ex_iadd dL_law_599 ?_
                                      refine Ex_sld rfl dL_law_600 ?_
                                      refine Ex_aload_n dL_law_601 rfl 0 rfl ?_
                                      refine Ex_iload_n dL_law_602 rfl 3 rfl ?_
                                      refine Ex_iconst (v := 2) dL_law_603 (by decide) ?_
                                      refine Ex_iadd dL_law_604 ?_
                                      refine Ex_sld rfl dL_law_605 ?_
                                      refine Ex_aload_n dL_law_606 rfl 0 rfl ?_
                                      refine Ex_iload_n dL_law_607 rfl 3 rfl ?_
                                      refine Ex_iconst (v := 3) dL_law_608 (by decide) ?_
                                      refine Ex_iadd dL_law_609 ?_
                                      refine Ex_sld rfl dL_law_610 ?_
                                      refine Ex_aload_n dL_law_611 rfl 0 rfl ?_
                                      refine Ex_iload_n dL_law_612 rfl 3 rfl ?_
                                      refine Ex_iconst (v := 4) dL_law_613 (by decide) ?_
                                      refine Ex_iadd dL_law_614 ?_
                                      refine Ex_sld rfl dL_law_615 ?_
                                      refine Ex_callVR (n := 4) (dp2 := 4) [.int (xs (x3 + 1).toNatClampNeg), .int (xs (x3 + 2).toNatClampNeg), .int (xs (x3 + 3).toNatClampNeg), .int (xs (x3 + 4).toNatClampNeg)] cvL_77 hq1 rfl rfl (by decide) (by decide) (Nat.le_of_ble_eq_true rfl) rfl (fun v hv => c_X8_odds a0 F μ q1 (xs (x3 + 1).toNatClampNeg) (xs (x3 + 2).toNatClampNeg) (xs (x3 + 3).toNatClampNeg) (xs (x3 + 4).toNatClampNeg) hq1 hv) dL_law_616 (fun v_107 hv_109 => ?_)
                                      refine Ex_aload_n dL_law_619 rfl 2 rfl ?_
                                      refine Ex_aload_n dL_law_620 rfl 0 rfl ?_
                                      refine Ex_iload_n dL_law_621 rfl 3 rfl ?_
                                      refine Ex_iconst (v := 1) dL_law_622 (by decide) ?_
                                      refine Ex_iadd dL_law_623 ?_
                                      refine Ex_sld rfl dL_law_624 ?_
                                      refine Ex_aload_n dL_law_625 rfl 0 rfl ?_
                                      refine Ex_iload_n dL_law_626 rfl 3 rfl ?_
                                      refine Ex_iconst (v := 2) dL_law_627 (by decide) ?_
                                      refine Ex_iadd dL_law_628 ?_
                                      refine Ex_sld rfl dL_law_629 ?_
                                      refine Ex_aload_n dL_law_630 rfl 0 rfl ?_
                                      refine Ex_iload_n dL_law_631 rfl 3 rfl ?_
                                      refine Ex_iconst (v := 3) dL_law_632 (by decide) ?_
                                      refine Ex_iadd dL_law_633 ?_
                                      refine Ex_sld rfl dL_law_634 ?_
                                      refine Ex_aload_n dL_law_635 rfl 0 rfl ?_
                                      refine Ex_iload_n dL_law_636 rfl 3 rfl ?_
                                      refine Ex_iconst (v := 4) dL_law_637 (by decide) ?_
                                      refine Ex_iadd dL_law_638 ?_
                                      refine Ex_sld rfl dL_law_639 ?_
                                      refine Ex_callVR (n := 4) (dp2 := 4) [.int (xs (x3 + 1).toNatClampNeg), .int (xs (x3 + 2).toNatClampNeg), .int (xs (x3 + 3).toNatClampNeg), .int (xs (x3 + 4).toNatClampNeg)] cvL_81 hq2 rfl rfl (by decide) (by decide) (Nat.le_of_ble_eq_true rfl) rfl (fun v hv => c_X9_odds a0 F μ q2 (xs (x3 + 1).toNatClampNeg) (xs (x3 + 2).toNatClampNeg) (xs (x3 + 3).toNatClampNeg) (xs (x3 + 4).toNatClampNeg) hq2 hv) dL_law_640 (fun v_110 hv_112 => ?_)
                                      refine Ex_icmp_eq (tgt := 955) dL_law_643 (by decide) ?_ ?_
                                      · refine Ex_iinc (v := x3 + 5) (L2 := [(3, .int (x3 + 5)), (0, .ref b), (1, .ref (a0 + q1)), (2, .ref (a0 + q2))]) dL_law_955 3 rfl rfl (by decide) rfl ?_
                                        refine Ex_goto (tgt := 18) dL_law_958 (by decide) ?_
                                        refine Ex_perm [1, 2, 3, 0] rfl ?_
                                        exact ih (x3 + 5) μ
                                      · refine Ex_iconst (v := 0) dL_law_646 (by decide) ?_
                                        exact Ex_iret dL_law_647 rfl (fun ty h => by cases h; rfl)
                                    · refine Ex_if (((xs x3.toNatClampNeg) &&& 31) = 16) (fun hc_113 => ?_) (fun hc_113 => ?_)
                                      · refine Ex_tblC (tgt := 648) dL_law_32 (i := 16) (by rw [hc_113]; rfl) (by decide) (by decide) (off := 616) rfl (by decide) ?_
                                        refine Ex_aload_n dL_law_648 rfl 1 rfl ?_
                                        refine Ex_aload_n dL_law_649 rfl 0 rfl ?_
                                        refine Ex_iload_n dL_law_650 rfl 3 rfl ?_
                                        refine Ex_iconst (v := 1) dL_law_651 (by decide) ?_
                                        refine Ex_iadd dL_law_652 ?_
                                        refine Ex_sld rfl dL_law_653 ?_
                                        refine Ex_aload_n dL_law_654 rfl 0 rfl ?_
                                        refine Ex_iload_n dL_law_655 rfl 3 rfl ?_
                                        refine Ex_iconst (v := 2) dL_law_656 (by decide) ?_
                                        refine Ex_iadd dL_law_657 ?_
                                        refine Ex_sld rfl dL_law_658 ?_
                                        refine Ex_aload_n dL_law_659 rfl 0 rfl ?_
                                        refine Ex_iload_n dL_law_660 rfl 3 rfl ?_
                                        refine Ex_iconst (v := 3) dL_law_661 (by decide) ?_
                                        refine Ex_iadd dL_law_662 ?_
                                        refine Ex_sld rfl dL_law_663 ?_
                                        refine Ex_callVR (n := 3) (dp2 := 3) [.int (xs (x3 + 1).toNatClampNeg), .int (xs (x3 + 2).toNatClampNeg), .int (xs (x3 + 3).toNatClampNeg)] cvL_82 hq1 rfl rfl (by decide) (by decide) (Nat.le_of_ble_eq_true rfl) rfl (fun v hv => c_X8_meeting a0 F μ q1 (xs (x3 + 1).toNatClampNeg) (xs (x3 + 2).toNatClampNeg) (xs (x3 + 3).toNatClampNeg) hq1 hv) dL_law_664 (fun v_114 hv_116 => ?_)
                                        refine Ex_aload_n dL_law_667 rfl 2 rfl ?_
                                        refine Ex_aload_n dL_law_668 rfl 0 rfl ?_
                                        refine Ex_iload_n dL_law_669 rfl 3 rfl ?_
                                        refine Ex_iconst (v := 1) dL_law_670 (by decide) ?_
                                        refine Ex_iadd dL_law_671 ?_
                                        refine Ex_sld rfl dL_law_672 ?_
                                        refine Ex_aload_n dL_law_673 rfl 0 rfl ?_
                                        refine Ex_iload_n dL_law_674 rfl 3 rfl ?_
                                        refine Ex_iconst (v := 2) dL_law_675 (by decide) ?_
                                        refine Ex_iadd dL_law_676 ?_
                                        refine Ex_sld rfl dL_law_677 ?_
                                        refine Ex_aload_n dL_law_678 rfl 0 rfl ?_
                                        refine Ex_iload_n dL_law_679 rfl 3 rfl ?_
                                        refine Ex_iconst (v := 3) dL_law_680 (by decide) ?_
                                        refine Ex_iadd dL_law_681 ?_
                                        refine Ex_sld rfl dL_law_682 ?_
                                        refine Ex_callVR (n := 3) (dp2 := 2) [.int (xs (x3 + 1).toNatClampNeg), .int (xs (x3 + 2).toNatClampNeg), .int (xs (x3 + 3).toNatClampNeg)] cvL_85 hq2 rfl rfl (by decide) (by decide) (Nat.le_of_ble_eq_true rfl) rfl (fun v hv => c_X9_meeting a0 F μ q2 (xs (x3 + 1).toNatClampNeg) (xs (x3 + 2).toNatClampNeg) (xs (x3 + 3).toNatClampNeg) hq2 hv) dL_law_683 (fun v_117 hv_119 => ?_)
                                        refine Ex_icmp_eq (tgt := 955) dL_law_686 (by decide) ?_ ?_
                                        · refine Ex_iinc (v := x3 + 5) (L2 := [(3, .int (x3 + 5)), (0, .ref b), (1, .ref (a0 + q1)), (2, .ref (a0 + q2))]) dL_law_955 3 rfl rfl (by decide) rfl ?_
                                          refine Ex_goto (tgt := 18) dL_law_958 (by decide) ?_
                                          refine Ex_perm [1, 2, 3, 0] rfl ?_
                                          exact ih (x3 + 5) μ
                                        · refine Ex_iconst (v := 0) dL_law_689 (by decide) ?_
                                          exact Ex_iret dL_law_690 rfl (fun ty h => by cases h; rfl)
                                      · refine Ex_if (((xs x3.toNatClampNeg) &&& 31) = 17) (fun hc_120 => ?_) (fun hc_120 => ?_)
                                        · refine Ex_tblC (tgt := 691) dL_law_32 (i := 17) (by rw [hc_120]; rfl) (by decide) (by decide) (off := 659) rfl (by decide) ?_
                                          refine Ex_aload_n dL_law_691 rfl 1 rfl ?_
                                          refine Ex_aload_n dL_law_692 rfl 0 rfl ?_
                                          refine Ex_iload_n dL_law_693 rfl 3 rfl ?_
                                          refine Ex_iconst (v := 1) dL_law_694 (by decide) ?_
                                          refine Ex_iadd dL_law_695 ?_
                                          refine Ex_sld rfl dL_law_696 ?_
                                          refine Ex_aload_n dL_law_697 rfl 0 rfl ?_
                                          refine Ex_iload_n dL_law_698 rfl 3 rfl ?_
                                          refine Ex_iconst (v := 2) dL_law_699 (by decide) ?_
                                          refine Ex_iadd dL_law_700 ?_
                                          refine Ex_sld rfl dL_law_701 ?_
                                          refine Ex_callVW (n := 2) (dp2 := 11) [.int (xs (x3 + 1).toNatClampNeg), .int (xs (x3 + 2).toNatClampNeg)] cvL_86 hq1 rfl rfl (by decide) (by decide) (Nat.le_of_ble_eq_true rfl) rfl (fun v μ2 hv => c_X8_theatre a0 F μ q1 (xs (x3 + 1).toNatClampNeg) (xs (x3 + 2).toNatClampNeg) hq1 hv) dL_law_702 (fun v_121 μ_122 hv_123 => ?_)
                                          refine Ex_aload_n dL_law_705 rfl 2 rfl ?_
                                          refine Ex_aload_n dL_law_706 rfl 0 rfl ?_
                                          refine Ex_iload_n dL_law_707 rfl 3 rfl ?_
                                          refine Ex_iconst (v := 1) dL_law_708 (by decide) ?_
                                          refine Ex_iadd dL_law_709 ?_
                                          refine Ex_sld rfl dL_law_710 ?_
                                          refine Ex_aload_n dL_law_711 rfl 0 rfl ?_
                                          refine Ex_iload_n dL_law_712 rfl 3 rfl ?_
                                          refine Ex_iconst (v := 2) dL_law_713 (by decide) ?_
                                          refine Ex_iadd dL_law_714 ?_
                                          refine Ex_sld rfl dL_law_715 ?_
                                          refine Ex_callVW (n := 2) (dp2 := 2) [.int (xs (x3 + 1).toNatClampNeg), .int (xs (x3 + 2).toNatClampNeg)] cvL_89 hq2 rfl rfl (by decide) (by decide) (Nat.le_of_ble_eq_true rfl) rfl (fun v μ2 hv => c_X9_theatre a0 F μ_122 q2 (xs (x3 + 1).toNatClampNeg) (xs (x3 + 2).toNatClampNeg) hq2 hv) dL_law_716 (fun v_124 μ_125 hv_126 => ?_)
                                          refine Ex_icmp_eq (tgt := 955) dL_law_719 (by decide) ?_ ?_
                                          · refine Ex_iinc (v := x3 + 5) (L2 := [(3, .int (x3 + 5)), (0, .ref b), (1, .ref (a0 + q1)), (2, .ref (a0 + q2))]) dL_law_955 3 rfl rfl (by decide) rfl ?_
                                            refine Ex_goto (tgt := 18) dL_law_958 (by decide) ?_
                                            refine Ex_perm [1, 2, 3, 0] rfl ?_
                                            exact ih (x3 + 5) μ_125
                                          · refine Ex_iconst (v := 0) dL_law_722 (by decide) ?_
                                            exact Ex_iret dL_law_723 rfl (fun ty h => by cases h; rfl)
                                        · refine Ex_if (((xs x3.toNatClampNeg) &&& 31) = 18) (fun hc_127 => ?_) (fun hc_127 => ?_)
                                          · refine Ex_tblC (tgt := 724) dL_law_32 (i := 18) (by rw [hc_127]; rfl) (by decide) (by decide) (off := 692) rfl (by decide) ?_
                                            refine Ex_aload_n dL_law_724 rfl 1 rfl ?_
                                            refine Ex_aload_n dL_law_725 rfl 0 rfl ?_
                                            refine Ex_iload_n dL_law_726 rfl 3 rfl ?_
                                            refine Ex_iconst (v := 1) dL_law_727 (by decide) ?_
                                            refine Ex_iadd dL_law_728 ?_
                                            refine Ex_sld rfl dL_law_729 ?_
                                            refine Ex_callVR (n := 1) (dp2 := 2) [.int (xs (x3 + 1).toNatClampNeg)] cvL_90 hq1 rfl rfl (by decide) (by decide) (Nat.le_of_ble_eq_true rfl) rfl (fun v hv => c_X8_narrow a0 F μ q1 (xs (x3 + 1).toNatClampNeg) hq1 hv) dL_law_730 (fun v_128 hv_130 => ?_)
                                            refine Ex_aload_n dL_law_733 rfl 2 rfl ?_
                                            refine Ex_aload_n dL_law_734 rfl 0 rfl ?_
                                            refine Ex_iload_n dL_law_735 rfl 3 rfl ?_
                                            refine Ex_iconst (v := 1) dL_law_736 (by decide) ?_
                                            refine Ex_iadd dL_law_737 ?_
                                            refine Ex_sld rfl dL_law_738 ?_
                                            refine Ex_callVR (n := 1) (dp2 := 2) [.int (xs (x3 + 1).toNatClampNeg)] cvL_93 hq2 rfl rfl (by decide) (by decide) (Nat.le_of_ble_eq_true rfl) rfl (fun v hv => c_X9_narrow a0 F μ q2 (xs (x3 + 1).toNatClampNeg) hq2 hv) dL_law_739 (fun v_131 hv_133 => ?_)
                                            refine Ex_icmp_eq (tgt := 955) dL_law_742 (by decide) ?_ ?_
                                            · refine Ex_iinc (v := x3 + 5) (L2 := [(3, .int (x3 + 5)), (0, .ref b), (1, .ref (a0 + q1)), (2, .ref (a0 + q2))]) dL_law_955 3 rfl rfl (by decide) rfl ?_
                                              refine Ex_goto (tgt := 18) dL_law_958 (by decide) ?_
                                              refine Ex_perm [1, 2, 3, 0] rfl ?_
                                              exact ih (x3 + 5) μ
                                            · refine Ex_iconst (v := 0) dL_law_745 (by decide) ?_
                                              exact Ex_iret dL_law_746 rfl (fun ty h => by cases h; rfl)
                                          · refine Ex_if (((xs x3.toNatClampNeg) &&& 31) = 19) (fun hc_134 => ?_) (fun hc_134 => ?_)
                                            · refine Ex_tblC (tgt := 747) dL_law_32 (i := 19) (by rw [hc_134]; rfl) (by decide) (by decide) (off := 715) rfl (by decide) ?_
                                              refine Ex_aload_n dL_law_747 rfl 1 rfl ?_
                                              refine Ex_aload_n dL_law_748 rfl 0 rfl ?_
                                              refine Ex_iload_n dL_law_749 rfl 3 rfl ?_
                                              refine Ex_iconst (v := 1) dL_law_750 (by decide) ?_
                                              refine Ex_iadd dL_law_751 ?_
                                              refine Ex_sld rfl dL_law_752 ?_
                                              refine Ex_callVR (n := 1) (dp2 := 1) [.int (xs (x3 + 1).toNatClampNeg)] cvL_94 hq1 rfl rfl (by decide) (by decide) (Nat.le_of_ble_eq_true rfl) rfl (fun v hv => c_X8_order a0 F μ q1 (xs (x3 + 1).toNatClampNeg) hq1 hv) dL_law_753 (fun v_135 hv_137 => ?_)
                                              refine Ex_aload_n dL_law_756 rfl 2 rfl ?_
                                              refine Ex_aload_n dL_law_757 rfl 0 rfl ?_
                                              refine Ex_iload_n dL_law_758 rfl 3 rfl ?_
                                              refine Ex_iconst (v := 1) dL_law_759 (by decide) ?_
                                              refine Ex_iadd dL_law_760 ?_
                                              refine Ex_sld rfl dL_law_761 ?_
                                              refine Ex_callVR (n := 1) (dp2 := 2) [.int (xs (x3 + 1).toNatClampNeg)] cvL_97 hq2 rfl rfl (by decide) (by decide) (Nat.le_of_ble_eq_true rfl) rfl (fun v hv => c_X9_order a0 F μ q2 (xs (x3 + 1).toNatClampNeg) hq2 hv) dL_law_762 (fun v_138 hv_140 => ?_)
                                              refine Ex_icmp_eq (tgt := 955) dL_law_765 (by decide) ?_ ?_
                                              · refine Ex_iinc (v := x3 + 5) (L2 := [(3, .int (x3 + 5)), (0, .ref b), (1, .ref (a0 + q1)), (2, .ref (a0 + q2))]) dL_law_955 3 rfl rfl (by decide) rfl ?_
                                                refine Ex_goto (tgt := 18) dL_law_958 (by decide) ?_
                                                refine Ex_perm [1, 2, 3, 0] rfl ?_
                                                exact ih (x3 + 5) μ
                                              · refine Ex_iconst (v := 0) dL_law_768 (by decide) ?_
                                                exact Ex_iret dL_law_769 rfl (fun ty h => by cases h; rfl)
                                            · refine Ex_if (((xs x3.toNatClampNeg) &&& 31) = 20) (fun hc_141 => ?_) (fun hc_141 => ?_)
                                              · refine Ex_tblC (tgt := 770) dL_law_32 (i := 20) (by rw [hc_141]; rfl) (by decide) (by decide) (off := 738) rfl (by decide) ?_
                                                refine Ex_aload_n dL_law_770 rfl 1 rfl ?_
                                                refine Ex_aload_n dL_law_771 rfl 0 rfl ?_
                                                refine Ex_iload_n dL_law_772 rfl 3 rfl ?_
                                                refine Ex_iconst (v := 1) dL_law_773 (by decide) ?_
                                                refine Ex_iadd dL_law_774 ?_
                                                refine Ex_sld rfl dL_law_775 ?_
                                                refine Ex_aload_n dL_law_776 rfl 0 rfl ?_
                                                refine Ex_iload_n dL_law_777 rfl 3 rfl ?_
                                                refine Ex_iconst (v := 2) dL_law_778 (by decide) ?_
                                                refine Ex_iadd dL_law_779 ?_
                                                refine Ex_sld rfl dL_law_780 ?_
                                                refine Ex_callVW (n := 2) (dp2 := 1) [.int (xs (x3 + 1).toNatClampNeg), .int (xs (x3 + 2).toNatClampNeg)] cvL_98 hq1 rfl rfl (by decide) (by decide) (Nat.le_of_ble_eq_true rfl) rfl (fun v μ2 hv => c_X8_gate a0 F μ q1 (xs (x3 + 1).toNatClampNeg) (xs (x3 + 2).toNatClampNeg) hq1 hv) dL_law_781 (fun v_142 μ_143 hv_144 => ?_)
                                                refine Ex_aload_n dL_law_784 rfl 2 rfl ?_
                                                refine Ex_aload_n dL_law_785 rfl 0 rfl ?_
                                                refine Ex_iload_n dL_law_786 rfl 3 rfl ?_
                                                refine Ex_iconst (v := 1) dL_law_787 (by decide) ?_
                                                refine Ex_iadd dL_law_788 ?_
                                                refine Ex_sld rfl dL_law_789 ?_
                                                refine Ex_aload_n dL_law_790 rfl 0 rfl ?_
                                                refine Ex_iload_n dL_law_791 rfl 3 rfl ?_
                                                refine Ex_iconst (v := 2) dL_law_792 (by decide) ?_
                                                refine Ex_iadd dL_law_793 ?_
                                                refine Ex_sld rfl dL_law_794 ?_
                                                refine Ex_callVW (n := 2) (dp2 := 2) [.int (xs (x3 + 1).toNatClampNeg), .int (xs (x3 + 2).toNatClampNeg)] cvL_101 hq2 rfl rfl (by decide) (by decide) (Nat.le_of_ble_eq_true rfl) rfl (fun v μ2 hv => c_X9_gate a0 F μ_143 q2 (xs (x3 + 1).toNatClampNeg) (xs (x3 + 2).toNatClampNeg) hq2 hv) dL_law_795 (fun v_145 μ_146 hv_147 => ?_)
                                                refine Ex_icmp_eq (tgt := 955) dL_law_798 (by decide) ?_ ?_
                                                · refine Ex_iinc (v := x3 + 5) (L2 := [(3, .int (x3 + 5)), (0, .ref b), (1, .ref (a0 + q1)), (2, .ref (a0 + q2))]) dL_law_955 3 rfl rfl (by decide) rfl ?_
                                                  refine Ex_goto (tgt := 18) dL_law_958 (by decide) ?_
                                                  refine Ex_perm [1, 2, 3, 0] rfl ?_
                                                  exact ih (x3 + 5) μ_146
                                                · refine Ex_iconst (v := 0) dL_law_801 (by decide) ?_
                                                  exact Ex_iret dL_law_802 rfl (fun ty h => by cases h; rfl)
                                              · refine Ex_if (((xs x3.toNatClampNeg) &&& 31) = 21) (fun hc_148 => ?_) (fun hc_148 => ?_)
                                                · refine Ex_tblC (tgt := 803) dL_law_32 (i := 21) (by rw [hc_148]; rfl) (by decide) (by decide) (off := 771) rfl (by decide) ?_
                                                  refine Ex_aload_n dL_law_803 rfl 1 rfl ?_
                                                  refine Ex_callVW (n := 0) (dp2 := 0) [] cvL_102 hq1 rfl rfl (by decide) (by decide) (Nat.le_of_ble_eq_true rfl) rfl (fun v μ2 hv => c_X8_forget a0 F μ q1 hq1 hv) dL_law_804 (fun v_149 μ_150 hv_151 => ?_)
                                                  refine Ex_aload_n dL_law_807 rfl 2 rfl ?_
                                                  refine Ex_callVW (n := 0) (dp2 := 0) [] cvL_105 hq2 rfl rfl (by decide) (by decide) (Nat.le_of_ble_eq_true rfl) rfl (fun v μ2 hv => c_X9_forget a0 F μ_150 q2 hq2 hv) dL_law_808 (fun v_152 μ_153 hv_154 => ?_)
                                                  refine Ex_icmp_eq (tgt := 955) dL_law_811 (by decide) ?_ ?_
                                                  · refine Ex_iinc (v := x3 + 5) (L2 := [(3, .int (x3 + 5)), (0, .ref b), (1, .ref (a0 + q1)), (2, .ref (a0 + q2))]) dL_law_955 3 rfl rfl (by decide) rfl ?_
                                                    refine Ex_goto (tgt := 18) dL_law_958 (by decide) ?_
                                                    refine Ex_perm [1, 2, 3, 0] rfl ?_
                                                    exact ih (x3 + 5) μ_153
                                                  · refine Ex_iconst (v := 0) dL_law_814 (by decide) ?_
                                                    exact Ex_iret dL_law_815 rfl (fun ty h => by cases h; rfl)
                                                · refine Ex_if (((xs x3.toNatClampNeg) &&& 31) = 22) (fun hc_155 => ?_) (fun hc_155 => ?_)
                                                  · refine Ex_tblC (tgt := 816) dL_law_32 (i := 22) (by rw [hc_155]; rfl) (by decide) (by decide) (off := 784) rfl (by decide) ?_
                                                    refine Ex_aload_n dL_law_816 rfl 1 rfl ?_
                                                    refine Ex_aload_n dL_law_817 rfl 0 rfl ?_
                                                    refine Ex_iload_n dL_law_818 rfl 3 rfl ?_
                                                    refine Ex_iconst (v := 1) dL_law_819 (by decide) ?_
                                                    refine Ex_iadd dL_law_820 ?_
                                                    refine Ex_sld rfl dL_law_821 ?_
                                                    refine Ex_callVR (n := 1) (dp2 := 3) [.int (xs (x3 + 1).toNatClampNeg)] cvL_106 hq1 rfl rfl (by decide) (by decide) (Nat.le_of_ble_eq_true rfl) rfl (fun v hv => c_X8_fits a0 F μ q1 (xs (x3 + 1).toNatClampNeg) hq1 hv) dL_law_822 (fun v_156 hv_158 => ?_)
                                                    refine Ex_aload_n dL_law_825 rfl 2 rfl ?_
                                                    refine Ex_aload_n dL_law_826 rfl 0 rfl ?_
                                                    refine Ex_iload_n dL_law_827 rfl 3 rfl ?_
                                                    refine Ex_iconst (v := 1) dL_law_828 (by decide) ?_
                                                    refine Ex_iadd dL_law_829 ?_
                                                    refine Ex_sld rfl dL_law_830 ?_
                                                    refine Ex_callVR (n := 1) (dp2 := 2) [.int (xs (x3 + 1).toNatClampNeg)] cvL_109 hq2 rfl rfl (by decide) (by decide) (Nat.le_of_ble_eq_true rfl) rfl (fun v hv => c_X9_fits a0 F μ q2 (xs (x3 + 1).toNatClampNeg) hq2 hv) dL_law_831 (fun v_159 hv_161 => ?_)
                                                    refine Ex_icmp_eq (tgt := 955) dL_law_834 (by decide) ?_ ?_
                                                    · refine Ex_iinc (v := x3 + 5) (L2 := [(3, .int (x3 + 5)), (0, .ref b), (1, .ref (a0 + q1)), (2, .ref (a0 + q2))]) dL_law_955 3 rfl rfl (by decide) rfl ?_
                                                      refine Ex_goto (tgt := 18) dL_law_958 (by decide) ?_
                                                      refine Ex_perm [1, 2, 3, 0] rfl ?_
                                                      exact ih (x3 + 5) μ
                                                    · refine Ex_iconst (v := 0) dL_law_837 (by decide) ?_
                                                      exact Ex_iret dL_law_838 rfl (fun ty h => by cases h; rfl)
                                                  · refine Ex_if (((xs x3.toNatClampNeg) &&& 31) = 23) (fun hc_162 => ?_) (fun hc_162 => ?_)
                                                    · refine Ex_tblC (tgt := 839) dL_law_32 (i := 23) (by rw [hc_162]; rfl) (by decide) (by decide) (off := 807) rfl (by decide) ?_
                                                      refine Ex_aload_n dL_law_839 rfl 1 rfl ?_
                                                      refine Ex_aload_n dL_law_840 rfl 0 rfl ?_
                                                      refine Ex_iload_n dL_law_841 rfl 3 rfl ?_
                                                      refine Ex_iconst (v := 1) dL_law_842 (by decide) ?_
                                                      refine Ex_iadd dL_law_843 ?_
                                                      refine Ex_sld rfl dL_law_844 ?_
                                                      refine Ex_aload_n dL_law_845 rfl 0 rfl ?_
                                                      refine Ex_iload_n dL_law_846 rfl 3 rfl ?_
                                                      refine Ex_iconst (v := 2) dL_law_847 (by decide) ?_
                                                      refine Ex_iadd dL_law_848 ?_
                                                      refine Ex_sld rfl dL_law_849 ?_
                                                      refine Ex_callVW (n := 2) (dp2 := 6) [.int (xs (x3 + 1).toNatClampNeg), .int (xs (x3 + 2).toNatClampNeg)] cvL_110 hq1 rfl rfl (by decide) (by decide) (Nat.le_of_ble_eq_true rfl) rfl (fun v μ2 hv => c_X8_mark a0 F μ q1 (xs (x3 + 1).toNatClampNeg) (xs (x3 + 2).toNatClampNeg) hq1 hv) dL_law_850 (fun v_163 μ_164 hv_165 => ?_)
                                                      refine Ex_aload_n dL_law_853 rfl 2 rfl ?_
                                                      refine Ex_aload_n dL_law_854 rfl 0 rfl ?_
                                                      refine Ex_iload_n dL_law_855 rfl 3 rfl ?_
                                                      refine Ex_iconst (v := 1) dL_law_856 (by decide) ?_
                                                      refine Ex_iadd dL_law_857 ?_
                                                      refine Ex_sld rfl dL_law_858 ?_
                                                      refine Ex_aload_n dL_law_859 rfl 0 rfl ?_
                                                      refine Ex_iload_n dL_law_860 rfl 3 rfl ?_
                                                      refine Ex_iconst (v := 2) dL_law_861 (by decide) ?_
                                                      refine Ex_iadd dL_law_862 ?_
                                                      refine Ex_sld rfl dL_law_863 ?_
                                                      refine Ex_callVW (n := 2) (dp2 := 3) [.int (xs (x3 + 1).toNatClampNeg), .int (xs (x3 + 2).toNatClampNeg)] cvL_113 hq2 rfl rfl (by decide) (by decide) (Nat.le_of_ble_eq_true rfl) rfl (fun v μ2 hv => c_X9_mark a0 F μ_164 q2 (xs (x3 + 1).toNatClampNeg) (xs (x3 + 2).toNatClampNeg) hq2 hv) dL_law_864 (fun v_166 μ_167 hv_168 => ?_)
                                                      refine Ex_icmp_eq (tgt := 955) dL_law_867 (by decide) ?_ ?_
                                                      · refine Ex_iinc (v := x3 + 5) (L2 := [(3, .int (x3 + 5)), (0, .ref b), (1, .ref (a0 + q1)), (2, .ref (a0 + q2))]) dL_law_955 3 rfl rfl (by decide) rfl ?_
                                                        refine Ex_goto (tgt := 18) dL_law_958 (by decide) ?_
                                                        refine Ex_perm [1, 2, 3, 0] rfl ?_
                                                        exact ih (x3 + 5) μ_167
                                                      · refine Ex_iconst (v := 0) dL_law_870 (by decide) ?_
                                                        exact Ex_iret dL_law_871 rfl (fun ty h => by cases h; rfl)
                                                    · refine Ex_if (((xs x3.toNatClampNeg) &&& 31) = 24) (fun hc_169 => ?_) (fun hc_169 => ?_)
                                                      · refine Ex_tblC (tgt := 872) dL_law_32 (i := 24) (by rw [hc_169]; rfl) (by decide) (by decide) (off := 840) rfl (by decide) ?_
                                                        refine Ex_aload_n dL_law_872 rfl 1 rfl ?_
                                                        refine Ex_aload_n dL_law_873 rfl 0 rfl ?_
                                                        refine Ex_iload_n dL_law_874 rfl 3 rfl ?_
                                                        refine Ex_iconst (v := 1) dL_law_875 (by decide) ?_
                                                        refine Ex_iadd dL_law_876 ?_
                                                        refine Ex_sld rfl dL_law_877 ?_
                                                        refine Ex_callVW (n := 1) (dp2 := 2) [.int (xs (x3 + 1).toNatClampNeg)] cvL_114 hq1 rfl rfl (by decide) (by decide) (Nat.le_of_ble_eq_true rfl) rfl (fun v μ2 hv => c_X8_keep a0 F μ q1 (xs (x3 + 1).toNatClampNeg) hq1 hv) dL_law_878 (fun v_170 μ_171 hv_172 => ?_)
                                                        refine Ex_aload_n dL_law_881 rfl 2 rfl ?_
                                                        refine Ex_aload_n dL_law_882 rfl 0 rfl ?_
                                                        refine Ex_iload_n dL_law_883 rfl 3 rfl ?_
                                                        refine Ex_iconst (v := 1) dL_law_884 (by decide) ?_
                                                        refine Ex_iadd dL_law_885 ?_
                                                        refine Ex_sld rfl dL_law_886 ?_
                                                        refine Ex_callVW (n := 1) (dp2 := 1) [.int (xs (x3 + 1).toNatClampNeg)] cvL_117 hq2 rfl rfl (by decide) (by decide) (Nat.le_of_ble_eq_true rfl) rfl (fun v μ2 hv => c_X9_keep a0 F μ_171 q2 (xs (x3 + 1).toNatClampNeg) hq2 hv) dL_law_887 (fun v_173 μ_174 hv_175 => ?_)
                                                        refine Ex_icmp_eq (tgt := 955) dL_law_890 (by decide) ?_ ?_
                                                        · refine Ex_iinc (v := x3 + 5) (L2 := [(3, .int (x3 + 5)), (0, .ref b), (1, .ref (a0 + q1)), (2, .ref (a0 + q2))]) dL_law_955 3 rfl rfl (by decide) rfl ?_
                                                          refine Ex_goto (tgt := 18) dL_law_958 (by decide) ?_
                                                          refine Ex_perm [1, 2, 3, 0] rfl ?_
                                                          exact ih (x3 + 5) μ_174
                                                        · refine Ex_iconst (v := 0) dL_law_893 (by decide) ?_
                                                          exact Ex_iret dL_law_894 rfl (fun ty h => by cases h; rfl)
                                                      · refine Ex_if (((xs x3.toNatClampNeg) &&& 31) = 25) (fun hc_176 => ?_) (fun hc_176 => ?_)
                                                        · refine Ex_tblC (tgt := 895) dL_law_32 (i := 25) (by rw [hc_176]; rfl) (by decide) (by decide) (off := 863) rfl (by decide) ?_
                                                          refine Ex_aload_n dL_law_895 rfl 1 rfl ?_
                                                          refine Ex_aload_n dL_law_896 rfl 0 rfl ?_
                                                          refine Ex_iload_n dL_law_897 rfl 3 rfl ?_
                                                          refine Ex_iconst (v := 1) dL_law_898 (by decide) ?_
                                                          refine Ex_iadd dL_law_899 ?_
                                                          refine Ex_sld rfl dL_law_900 ?_
                                                          refine Ex_callVW (n := 1) (dp2 := 2) [.int (xs (x3 + 1).toNatClampNeg)] cvL_118 hq1 rfl rfl (by decide) (by decide) (Nat.le_of_ble_eq_true rfl) rfl (fun v μ2 hv => c_X8_back a0 F μ q1 (xs (x3 + 1).toNatClampNeg) hq1 hv) dL_law_901 (fun v_177 μ_178 hv_179 => ?_)
                                                          refine Ex_aload_n dL_law_904 rfl 2 rfl ?_
                                                          refine Ex_aload_n dL_law_905 rfl 0 rfl ?_
                                                          refine Ex_iload_n dL_law_906 rfl 3 rfl ?_
                                                          refine Ex_iconst (v := 1) dL_law_907 (by decide) ?_
                                                          refine Ex_iadd dL_law_908 ?_
                                                          refine Ex_sld rfl dL_law_909 ?_
                                                          refine Ex_callVW (n := 1) (dp2 := 1) [.int (xs (x3 + 1).toNatClampNeg)] cvL_121 hq2 rfl rfl (by decide) (by decide) (Nat.le_of_ble_eq_true rfl) rfl (fun v μ2 hv => c_X9_back a0 F μ_178 q2 (xs (x3 + 1).toNatClampNeg) hq2 hv) dL_law_910 (fun v_180 μ_181 hv_182 => ?_)
                                                          refine Ex_icmp_eq (tgt := 955) dL_law_913 (by decide) ?_ ?_
                                                          · refine Ex_iinc (v := x3 + 5) (L2 := [(3, .int (x3 + 5)), (0, .ref b), (1, .ref (a0 + q1)), (2, .ref (a0 + q2))]) dL_law_955 3 rfl rfl (by decide) rfl ?_
                                                            refine Ex_goto (tgt := 18) dL_law_958 (by decide) ?_
                                                            refine Ex_perm [1, 2, 3, 0] rfl ?_
                                                            exact ih (x3 + 5) μ_181
                                                          · refine Ex_iconst (v := 0) dL_law_916 (by decide) ?_
                                                            exact Ex_iret dL_law_917 rfl (fun ty h => by cases h; rfl)
                                                        · refine Ex_if (((xs x3.toNatClampNeg) &&& 31) = 26) (fun hc_183 => ?_) (fun hc_183 => ?_)
                                                          · refine Ex_tblC (tgt := 918) dL_law_32 (i := 26) (by rw [hc_183]; rfl) (by decide) (by decide) (off := 886) rfl (by decide) ?_
                                                            refine Ex_aload_n dL_law_918 rfl 1 rfl ?_
                                                            refine Ex_aload_n dL_law_919 rfl 0 rfl ?_
                                                            refine Ex_iload_n dL_law_920 rfl 3 rfl ?_
                                                            refine Ex_iconst (v := 1) dL_law_921 (by decide) ?_
                                                            refine Ex_iadd dL_law_922 ?_
                                                            refine Ex_sld rfl dL_law_923 ?_
                                                            refine Ex_callVR (n := 1) (dp2 := 0) [.int (xs (x3 + 1).toNatClampNeg)] cvL_122 hq1 rfl rfl (by decide) (by decide) (Nat.le_of_ble_eq_true rfl) rfl (fun v hv => c_X8_count a0 F μ q1 (xs (x3 + 1).toNatClampNeg) hq1 hv) dL_law_924 (fun v_184 hv_186 => ?_)
                                                            refine Ex_aload_n dL_law_927 rfl 2 rfl ?_
                                                            refine Ex_aload_n dL_law_928 rfl 0 rfl ?_
                                                            refine Ex_iload_n dL_law_929 rfl 3 rfl ?_
                                                            refine Ex_iconst (v := 1) dL_law_930 (by decide) ?_
                                                            refine Ex_iadd dL_law_931 ?_
                                                            refine Ex_sld rfl dL_law_932 ?_
                                                            refine Ex_callVR (n := 1) (dp2 := 0) [.int (xs (x3 + 1).toNatClampNeg)] cvL_125 hq2 rfl rfl (by decide) (by decide) (Nat.le_of_ble_eq_true rfl) rfl (fun v hv => c_X9_count a0 F μ q2 (xs (x3 + 1).toNatClampNeg) hq2 hv) dL_law_933 (fun v_187 hv_189 => ?_)
                                                            refine Ex_icmp_eq (tgt := 955) dL_law_936 (by decide) ?_ ?_
                                                            · refine Ex_iinc (v := x3 + 5) (L2 := [(3, .int (x3 + 5)), (0, .ref b), (1, .ref (a0 + q1)), (2, .ref (a0 + q2))]) dL_law_955 3 rfl rfl (by decide) rfl ?_
                                                              refine Ex_goto (tgt := 18) dL_law_958 (by decide) ?_
                                                              refine Ex_perm [1, 2, 3, 0] rfl ?_
                                                              exact ih (x3 + 5) μ
                                                            · refine Ex_iconst (v := 0) dL_law_939 (by decide) ?_
                                                              exact Ex_iret dL_law_940 rfl (fun ty h => by cases h; rfl)
                                                          · refine Ex_if (((xs x3.toNatClampNeg) &&& 31) = 27) (fun hc_190 => ?_) (fun hc_190 => ?_)
                                                            · refine Ex_tblC (tgt := 941) dL_law_32 (i := 27) (by rw [hc_190]; rfl) (by decide) (by decide) (off := 909) rfl (by decide) ?_
                                                              refine Ex_aload_n dL_law_941 rfl 1 rfl ?_
                                                              refine Ex_callVL (n := 0) (dp2 := 0) [] cvL_126 hq1 rfl rfl (by decide) (by decide) (Nat.le_of_ble_eq_true rfl) rfl (fun v hv => c_X8_trace a0 F μ q1 hq1 hv) dL_law_942 (fun v_191 hv_193 => ?_)
                                                              refine Ex_aload_n dL_law_945 rfl 2 rfl ?_
                                                              refine Ex_callVL (n := 0) (dp2 := 0) [] cvL_130 hq2 rfl rfl (by decide) (by decide) (Nat.le_of_ble_eq_true rfl) rfl (fun v hv => c_X9_trace a0 F μ q2 hq2 hv) dL_law_946 (fun v_194 hv_196 => ?_)
                                                              refine Ex_lcmp dL_law_949 ?_
                                                              refine Ex_if_eq (tgt := 955) dL_law_950 (by decide) ?_ ?_
                                                              · refine Ex_iinc (v := x3 + 5) (L2 := [(3, .int (x3 + 5)), (0, .ref b), (1, .ref (a0 + q1)), (2, .ref (a0 + q2))]) dL_law_955 3 rfl rfl (by decide) rfl ?_
                                                                refine Ex_goto (tgt := 18) dL_law_958 (by decide) ?_
                                                                refine Ex_perm [1, 2, 3, 0] rfl ?_
                                                                exact ih (x3 + 5) μ
                                                              · refine Ex_iconst (v := 0) dL_law_953 (by decide) ?_
                                                                exact Ex_iret dL_law_954 rfl (fun ty h => by cases h; rfl)
                                                            · refine Ex_tblD (tgt := 955) dL_law_32 (by have q0 := lv_neT hc_1 (show (0 : Int32).toInt = 0 from rfl); have q1 := lv_neT hc_8 (show (1 : Int32).toInt = 1 from rfl); have q2 := lv_neT hc_15 (show (2 : Int32).toInt = 2 from rfl); have q3 := lv_neT hc_22 (show (3 : Int32).toInt = 3 from rfl); have q4 := lv_neT hc_29 (show (4 : Int32).toInt = 4 from rfl); have q5 := lv_neT hc_36 (show (5 : Int32).toInt = 5 from rfl); have q6 := lv_neT hc_43 (show (6 : Int32).toInt = 6 from rfl); have q7 := lv_neT hc_50 (show (7 : Int32).toInt = 7 from rfl); have q8 := lv_neT hc_57 (show (8 : Int32).toInt = 8 from rfl); have q9 := lv_neT hc_64 (show (9 : Int32).toInt = 9 from rfl); have q10 := lv_neT hc_71 (show (10 : Int32).toInt = 10 from rfl); have q11 := lv_neT hc_78 (show (11 : Int32).toInt = 11 from rfl); have q12 := lv_neT hc_85 (show (12 : Int32).toInt = 12 from rfl); have q13 := lv_neT hc_92 (show (13 : Int32).toInt = 13 from rfl); have q14 := lv_neT hc_99 (show (14 : Int32).toInt = 14 from rfl); have q15 := lv_neT hc_106 (show (15 : Int32).toInt = 15 from rfl); have q16 := lv_neT hc_113 (show (16 : Int32).toInt = 16 from rfl); have q17 := lv_neT hc_120 (show (17 : Int32).toInt = 17 from rfl); have q18 := lv_neT hc_127 (show (18 : Int32).toInt = 18 from rfl); have q19 := lv_neT hc_134 (show (19 : Int32).toInt = 19 from rfl); have q20 := lv_neT hc_141 (show (20 : Int32).toInt = 20 from rfl); have q21 := lv_neT hc_148 (show (21 : Int32).toInt = 21 from rfl); have q22 := lv_neT hc_155 (show (22 : Int32).toInt = 22 from rfl); have q23 := lv_neT hc_162 (show (23 : Int32).toInt = 23 from rfl); have q24 := lv_neT hc_169 (show (24 : Int32).toInt = 24 from rfl); have q25 := lv_neT hc_176 (show (25 : Int32).toInt = 25 from rfl); have q26 := lv_neT hc_183 (show (26 : Int32).toInt = 26 from rfl); have q27 := lv_neT hc_190 (show (27 : Int32).toInt = 27 from rfl); omega) (by decide) ?_
                                                              refine Ex_iinc (v := x3 + 5) (L2 := [(3, .int (x3 + 5)), (0, .ref b), (1, .ref (a0 + q1)), (2, .ref (a0 + q2))]) dL_law_955 3 rfl rfl (by decide) rfl ?_
                                                              refine Ex_goto (tgt := 18) dL_law_958 (by decide) ?_
                                                              refine Ex_perm [1, 2, 3, 0] rfl ?_
                                                              exact ih (x3 + 5) μ
def f_law (F : Nat) (Lx : Nat) (xs : Nat → Int32) (μ : Mem) : Option (Int32 × Mem) := f_L_law_L18 F Lx xs 0 166 (fun x3_197 μ_198 => some (1, μ_198)) F 0 μ
set_option maxRecDepth 100000 in
set_option maxHeartbeats 4000000 in
theorem c_law (a0 b F : Nat) (Lx : Nat) (xs : Nat → Int32) (μ : Mem) : Ex a0 RL cL_law 4 ret 40 (some (b, Lx, xs)) (fun x => (some (.int x.1), x.2)) 18 [(0, .ref b), (1, .ref (a0 + 0)), (2, .ref (a0 + 166)), (3, .int 0)] [] μ (f_law F Lx xs μ) := by
  unfold f_law
  refine c_L_law_L18 a0 b F Lx xs 0 166 _ (show kd 0 = 8 from rfl) (show kd 166 = 9 from rfl) (fun x3_197 μ_198 => ?_) F 0 μ
  refine Ex_iconst (v := 1) dL_law_961 (by decide) ?_
  exact Ex_iret dL_law_962 rfl (fun ty h => by cases h; rfl)
