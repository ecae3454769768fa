def f_J_bitCount (F : Nat) (μ : Mem) (p1 : Int32) : Option (Int32) := lt (p1 - (((p1.toUInt32 >>> ((1 : Int32).toUInt32 &&& Int32.toUInt32 31)).toInt32) &&& 1431655765)) (fun x0_1 => lt ((x0_1 &&& 858993459) + (((x0_1.toUInt32 >>> ((2 : Int32).toUInt32 &&& Int32.toUInt32 31)).toInt32) &&& 858993459)) (fun x0_2 => lt ((x0_2 + ((x0_2.toUInt32 >>> ((4 : Int32).toUInt32 &&& Int32.toUInt32 31)).toInt32)) &&& 252645135) (fun x0_3 => lt (x0_3 + ((x0_3.toUInt32 >>> ((8 : Int32).toUInt32 &&& Int32.toUInt32 31)).toInt32)) (fun x0_4 => lt (x0_4 + ((x0_4.toUInt32 >>> ((16 : Int32).toUInt32 &&& Int32.toUInt32 31)).toInt32)) (fun x0_5 => some (x0_5 &&& 63))))))
set_option maxRecDepth 100000 in
set_option maxHeartbeats 4000000 in
theorem c_J_bitCount (a0 F : Nat) (μ : Mem) (p1 : Int32)  {v : Int32} (hr : f_J_bitCount F μ p1 = some v) : Ct a0 yJ_bitCount prog_12_method_49_code 1 (some .int) 0 [.int p1] μ (some (.int v)) μ := by
  refine Ct_of (own := "java/lang/Integer") (ι := (fun v => (some (.int v), μ))) (o := f_J_bitCount F μ p1) (by decide +kernel) rfl (Nat.le_of_ble_eq_true rfl) ?_ hr rfl ⟨_, rfl⟩
  show Ex a0 "java/lang/Integer" prog_12_method_49_code 1 (some .int) 0 none (fun v => (some (.int v), μ)) 0 [(0, .int p1)] [] μ (f_J_bitCount F μ p1)
  unfold f_J_bitCount
  refine Ex_iload_n dJ_bitCount_0 rfl 0 rfl ?_
  refine Ex_iload_n dJ_bitCount_1 rfl 0 rfl ?_
  refine Ex_iconst (v := 1) dJ_bitCount_2 (by decide) ?_
  refine Ex_iushr (v := (p1.toUInt32 >>> ((1 : Int32).toUInt32 &&& Int32.toUInt32 31)).toInt32) dJ_bitCount_3 rfl ?_
  refine Ex_ldcw (v := 1431655765) dJ_bitCount_4 cnInteger_265 ?_
  refine Ex_iand dJ_bitCount_7 ?_
  refine Ex_isub dJ_bitCount_8 ?_
  refine Ex_top (fun x0_1 => ?_)
  refine Ex_istore_n (L2 := [(0, .int x0_1)]) dJ_bitCount_9 rfl (by decide) rfl ?_
  refine Ex_iload_n dJ_bitCount_10 rfl 0 rfl ?_
  refine Ex_ldcw (v := 858993459) dJ_bitCount_11 cnInteger_266 ?_
  refine Ex_iand dJ_bitCount_14 ?_
  refine Ex_iload_n dJ_bitCount_15 rfl 0 rfl ?_
  refine Ex_iconst (v := 2) dJ_bitCount_16 (by decide) ?_
  refine Ex_iushr (v := (x0_1.toUInt32 >>> ((2 : Int32).toUInt32 &&& Int32.toUInt32 31)).toInt32) dJ_bitCount_17 rfl ?_
  refine Ex_ldcw (v := 858993459) dJ_bitCount_18 cnInteger_266 ?_
  refine Ex_iand dJ_bitCount_21 ?_
  refine Ex_iadd dJ_bitCount_22 ?_
  refine Ex_top (fun x0_2 => ?_)
  refine Ex_istore_n (L2 := [(0, .int x0_2)]) dJ_bitCount_23 rfl (by decide) rfl ?_
  refine Ex_iload_n dJ_bitCount_24 rfl 0 rfl ?_
  refine Ex_iload_n dJ_bitCount_25 rfl 0 rfl ?_
  refine Ex_iconst (v := 4) dJ_bitCount_26 (by decide) ?_
  refine Ex_iushr (v := (x0_2.toUInt32 >>> ((4 : Int32).toUInt32 &&& Int32.toUInt32 31)).toInt32) dJ_bitCount_27 rfl ?_
  refine Ex_iadd dJ_bitCount_28 ?_
  refine Ex_ldcw (v := 252645135) dJ_bitCount_29 cnInteger_267 ?_
  refine Ex_iand dJ_bitCount_32 ?_
  refine Ex_top (fun x0_3 => ?_)
  refine Ex_istore_n (L2 := [(0, .int x0_3)]) dJ_bitCount_33 rfl (by decide) rfl ?_
  refine Ex_iload_n dJ_bitCount_34 rfl 0 rfl ?_
  refine Ex_iload_n dJ_bitCount_35 rfl 0 rfl ?_
  refine Ex_bipush (v := 8) dJ_bitCount_36 (by decide) ?_
  refine Ex_iushr (v := (x0_3.toUInt32 >>> ((8 : Int32).toUInt32 &&& Int32.toUInt32 31)).toInt32) dJ_bitCount_38 rfl ?_
  refine Ex_iadd dJ_bitCount_39 ?_
  refine Ex_top (fun x0_4 => ?_)
  refine Ex_istore_n (L2 := [(0, .int x0_4)]) dJ_bitCount_40 rfl (by decide) rfl ?_
  refine Ex_iload_n dJ_bitCount_41 rfl 0 rfl ?_
  refine Ex_iload_n dJ_bitCount_42 rfl 0 rfl ?_
  refine Ex_bipush (v := 16) dJ_bitCount_43 (by decide) ?_
  refine Ex_iushr (v := (x0_4.toUInt32 >>> ((16 : Int32).toUInt32 &&& Int32.toUInt32 31)).toInt32) dJ_bitCount_45 rfl ?_
  refine Ex_iadd dJ_bitCount_46 ?_
  refine Ex_top (fun x0_5 => ?_)
  refine Ex_istore_n (L2 := [(0, .int x0_5)]) dJ_bitCount_47 rfl (by decide) rfl ?_
  refine Ex_iload_n dJ_bitCount_48 rfl 0 rfl ?_
  refine Ex_bipush (v := 63) dJ_bitCount_49 (by decide) ?_
  refine Ex_iand dJ_bitCount_51 ?_
  exact Ex_iret dJ_bitCount_52 rfl (fun ty h => by cases h; rfl)

def imax (x y : Int32) : Int32 := if x < y then y else x
def imin (x y : Int32) : Int32 := if y < x then y else x
def iabs (x : Int32) : Int32 := if 0 ≤ x then x else 0 - x
theorem jmax_code : prog_13_method_65_code = Lib.Math.max.code := by decide +kernel
theorem jmax_name : yJ_max = Lib.Math.max.name := by decide +kernel
theorem Ex_mmax {α : Type} {a0 : Nat} {own : String} {cb : ByteArray} {nL : Nat} {rt : Option FieldType} {dp : Nat} {sc : Option (Nat × Nat × (Nat → Int32))} {ι : α → Option Value × Mem} {pc : Nat} {L : List (Nat × Value)} {st : List Value} {μ : Mem} {o : Option α} {idx : Nat} {x y : Int32} (cv : CS own idx yJ_max prog_13_method_65_code 2 (some .int) 2) (hd : 0 < dp) (hrest : (st.map fun v => v.category).sum ≤ 8) (d : decode cb pc = .ok (.invokestatic idx, 3)) (kk : Ex a0 own cb nL rt dp sc ι (pc + 3) L (.int (imax x y) :: st) μ o) : Ex a0 own cb nL rt dp sc ι pc L (.int y :: .int x :: st) μ o := by
  obtain ⟨w1, w2, w4, w5, w6⟩ := cv
  rw [jmax_name] at w1 w2 w5
  rw [jmax_code] at w5
  intro r hr p l e R s m args below meth c cells slots Q cy D C K H locs ls hW hS hl
  obtain ⟨hx, hb, hml, hown, hts, hnw, hK, ⟨r1, r2, r3, r4⟩, hsc⟩ := id C
  exact va_mmax hx hb (hml.trans hl.1.symm) hown (hts _ w1) (hts _ w2) (hts _ w4) (hts _ w5) (by omega) (by omega) r3 r4 d (kk r hr p l e R s m args below meth c cells slots Q cy D C K H locs ls hW hS hl)
theorem jmin_code : prog_13_method_69_code = Lib.Math.min.code := by decide +kernel
theorem jmin_name : yJ_min = Lib.Math.min.name := by decide +kernel
theorem Ex_mmin {α : Type} {a0 : Nat} {own : String} {cb : ByteArray} {nL : Nat} {rt : Option FieldType} {dp : Nat} {sc : Option (Nat × Nat × (Nat → Int32))} {ι : α → Option Value × Mem} {pc : Nat} {L : List (Nat × Value)} {st : List Value} {μ : Mem} {o : Option α} {idx : Nat} {x y : Int32} (cv : CS own idx yJ_min prog_13_method_69_code 2 (some .int) 2) (hd : 0 < dp) (hrest : (st.map fun v => v.category).sum ≤ 8) (d : decode cb pc = .ok (.invokestatic idx, 3)) (kk : Ex a0 own cb nL rt dp sc ι (pc + 3) L (.int (imin x y) :: st) μ o) : Ex a0 own cb nL rt dp sc ι pc L (.int y :: .int x :: st) μ o := by
  obtain ⟨w1, w2, w4, w5, w6⟩ := cv
  rw [jmin_name] at w1 w2 w5
  rw [jmin_code] at w5
  intro r hr p l e R s m args below meth c cells slots Q cy D C K H locs ls hW hS hl
  obtain ⟨hx, hb, hml, hown, hts, hnw, hK, ⟨r1, r2, r3, r4⟩, hsc⟩ := id C
  exact va_mmin hx hb (hml.trans hl.1.symm) hown (hts _ w1) (hts _ w2) (hts _ w4) (hts _ w5) (by omega) (by omega) r3 r4 d (kk r hr p l e R s m args below meth c cells slots Q cy D C K H locs ls hW hS hl)
theorem jabs_code : prog_13_method_59_code = Lib.Math.abs.code := by decide +kernel
theorem jabs_name : yJ_abs = Lib.Math.abs.name := by decide +kernel
theorem Ex_mabs {α : Type} {a0 : Nat} {own : String} {cb : ByteArray} {nL : Nat} {rt : Option FieldType} {dp : Nat} {sc : Option (Nat × Nat × (Nat → Int32))} {ι : α → Option Value × Mem} {pc : Nat} {L : List (Nat × Value)} {st : List Value} {μ : Mem} {o : Option α} {idx : Nat} {x : Int32} (cv : CS own idx yJ_abs prog_13_method_59_code 1 (some .int) 1) (hd : 0 < dp) (hrest : (st.map fun v => v.category).sum ≤ 8) (d : decode cb pc = .ok (.invokestatic idx, 3)) (kk : Ex a0 own cb nL rt dp sc ι (pc + 3) L (.int (iabs x) :: st) μ o) : Ex a0 own cb nL rt dp sc ι pc L (.int x :: st) μ o := by
  obtain ⟨w1, w2, w4, w5, w6⟩ := cv
  rw [jabs_name] at w1 w2 w5
  rw [jabs_code] at w5
  intro r hr p l e R s m args below meth c cells slots Q cy D C K H locs ls hW hS hl
  obtain ⟨hx, hb, hml, hown, hts, hnw, hK, ⟨r1, r2, r3, r4⟩, hsc⟩ := id C
  exact va_mabs hx hb (hml.trans hl.1.symm) hown (hts _ w1) (hts _ w2) (hts _ w4) (hts _ w5) (by omega) (by omega) r3 r4 d (kk r hr p l e R s m args below meth c cells slots Q cy D C K H locs ls hW hS hl)
