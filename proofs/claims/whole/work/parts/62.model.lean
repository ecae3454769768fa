theorem WT_μ0 : WT μ0 := by
  intro q j k h1 h2
  have h : (List.range 185).all (fun q => (List.range 10).all (fun j => rty (kd q) j == 9999 || kd (gR μ0 q j) == rty (kd q) j)) = true := by decide +kernel
  have hq : q < 185 := by
    rcases Nat.lt_or_ge q 185 with h3 | h3
    · exact h3
    · exfalso
      have h4 : kd q = 9999 := by
        show kdL.getD q 9999 = 9999
        rw [List.getD_eq_getElem?_getD, List.getElem?_eq_none (by rw [kd_len]; exact h3)]
        rfl
      rw [h4] at h1
      simp [rty] at h1
      omega
  have hj : j < 10 := by
    rcases Nat.lt_or_ge j 10 with h3 | h3
    · exact h3
    · exfalso
      unfold rty at h1
      split at h1
      · rw [if_neg (by omega)] at h1; omega
      · split at h1
        · rw [if_neg (by omega)] at h1; omega
        · split at h1
          · rw [if_neg (by omega)] at h1; omega
          · omega
  have h5 := List.all_eq_true.mp (List.all_eq_true.mp h q (List.mem_range.mpr hq)) j (List.mem_range.mpr hj)
  simp only [Bool.or_eq_true, beq_iff_eq] at h5
  rcases h5 with h5 | h5
  · omega
  · rw [h5, h1]
theorem PW_Wd {a0 : Nat} {cy : Nat → ClassId} {D : va_G} {E : Nat → va_E} {H : Heap} (hP : PW a0 185 D E H) (h : ∀ k, k < 185 → E k = Fz a0 cy k) : Wd a0 cy D μ0 H := by
  have h2 : PW a0 185 D (fun k => entK a0 cy μ0 k (kd k)) H := PW_of (fun k hk => by have h1 := PW_at hP hk; rw [h k hk] at h1; exact h1) hP.2
  exact ⟨h2.1, WT_μ0⟩
set_option maxRecDepth 100000 in
theorem ex_model (a0 : Nat) : Ex a0 RX9 cX9_init 1 none 1 none (fun m => (none, m)) 140 [(0, .ref (a0 + 166))] [] μ0 (ini 20) := by
  unfold ini
  refine Ex_aload_n dX9_init_140 rfl 0 rfl ?_
  refine Ex_callVV (n := 0) (dp2 := 0) [] cvX9_66 (show kd 166 = 9 from rfl) rfl rfl (by decide) (by decide) (Nat.le_of_ble_eq_true rfl) rfl (fun μ2 hv => c_X9_plain a0 20 μ0 166 (show kd 166 = 9 from rfl) hv) dX9_init_141 (fun μ1 hv => ?_)
  refine Ex_aload_n dX9_init_144 rfl 0 rfl ?_
  refine Ex_callVV (n := 0) (dp2 := 0) [] cvX9_69 (show kd 166 = 9 from rfl) rfl rfl (by decide) (by decide) (Nat.le_of_ble_eq_true rfl) rfl (fun μ2 hv => c_X9_takeDraft a0 20 μ1 166 (show kd 166 = 9 from rfl) hv) dX9_init_145 (fun μ2 hv => ?_)
  exact Ex_vret dX9_init_148 rfl

set_option maxRecDepth 100000 in
set_option maxHeartbeats 4000000 in
theorem c_X9_init (a0 : Nat) (l : Launch) (cy : Nat → ClassId) (D : va_G) (E : Nat → va_E) (hE : E 166 = .inr (9, [.long 0, .null, .int 0, .null, .null, .null, .null, .null, .null, .null, .null, .null, .null, .int 0, .int 0, .int 0, .int 0, .int 0, .int 0, .null, .null, .null, .null, .null, .null, .null, .int 0])) (hE2 : ∀ k, k < 166 → E k = Fz a0 cy k) : Met l yX9_init (.code yX9_init cX9_init 1 none :: gT) (rmC 3 18 781) (va_Pc [.ref (a0 + 166)] (Wsc a0 167 cy D E)) (Qd a0 cy D none μI) 18 781 (fun q => a0 ≤ q) := by
  refine Met.ofW (cc := cX9_init) (maxL := 1) (ret := none) (by decide +kernel) rfl ?_
  intro p e s m args below meth c s₁ B hml hv
  obtain ⟨rfl, hP, hK, hnw, hao⟩ := hv
  have hts0 := atoms_spec (ws := .code yX9_init cX9_init 1 none :: gT) B.pre
  have hts : ∀ w ∈ gT, w.before _ s = true := fun w h => hts0 w (List.mem_cons_of_mem _ h)
  have hx := B.exec
  have hb := B.bytes
  have hr := B.returns
  have hlocks := B.notSynchronized
  have hown : s.vm.findClass RX9 = some m.cls := findClass_of_methodNamed B.named
  have hin : meth.name = "<init>" := (name_of_methodNamed B.named B.method).1
  have hS : va_S (fun q => a0 ≤ q) s.heap s.heap [] := va_S.rf
  have hl := lv_entry ([.ref (a0 + 166)]) (n := 1) (Nat.le_of_ble_eq_true rfl)
  rw [lg_entry_eq]
  generalize (lg_sl ([.ref (a0 + 166)]) ++ List.replicate (1 - (lg_sl ([.ref (a0 + 166)])).length) Slot.unset).toArray = ls at hl ⊢
  have hl : lv_has ls 1 [(0, .ref (a0 + 166))] := hl
  refine lv_aload_n hx hb dX9_init_0 rfl (lv_at hl 0 rfl) ?_
  refine pw_objInit hx hb (hml.trans hl.1.symm) hown hts (gT_of 661 (by decide +kernel) (by decide +kernel)) oi2 oi3 (Nat.le_of_ble_eq_true rfl) (Nat.le_of_ble_eq_true rfl) dX9_init_1 ?_
  refine lv_aload_n hx hb dX9_init_4 rfl (lv_at hl 0 rfl) ?_
  refine lv_sipush (v := 150) hx hb dX9_init_5 (by decide) ?_
  refine pw_newa hx hb hts hK (ty := .byte) rfl rfl (fun cA h => h) 0 rfl ac_byte 150 (by decide) (by decide) (by decide) hP hS (Nat.le_of_ble_eq_true rfl) (Nat.le_of_ble_eq_true rfl) dX9_init_8 (fun H E1 hP hN1 hO1 hS => ?_)
  have hP : PW a0 (168) D E1 H := hP
  have hq1 : E1 (166) = .inr (9, [.long 0, .null, .int 0, .null, .null, .null, .null, .null, .null, .null, .null, .null, .null, .int 0, .int 0, .int 0, .int 0, .int 0, .int 0, .null, .null, .null, .null, .null, .null, .null, .int 0]) := (hO1 _ (by omega)).trans hE
  refine pw_putF (k := 1) (q := 166) (ty := (.array .byte)) (v := .ref (a0 + (167))) hx hb hown hts hK (ci := 9) (C := RX9) (T := TX9) (N := 27) rfl (by decide) rfl hin rfl fwX9_7 hq1 (by omega) (by decide +kernel) rfl rfl (Nat.le_of_ble_eq_true rfl) hP hS dX9_init_10 (fun H E2 locs hP hN2 hO2 hS => ?_)
  have hq2 : E2 (166) = .inr (9, [.long 0, .ref (a0 + (167)), .int 0, .null, .null, .null, .null, .null, .null, .null, .null, .null, .null, .int 0, .int 0, .int 0, .int 0, .int 0, .int 0, .null, .null, .null, .null, .null, .null, .null, .int 0]) := hN2
  refine lv_aload_n hx hb dX9_init_13 rfl (lv_at hl 0 rfl) ?_
  refine lv_iconst (v := 2) hx hb dX9_init_14 (by decide) ?_
  refine pw_newa hx hb hts hK (ty := .int) rfl rfl (fun cA h => h) 1 rfl ac_int 2 (by decide) (by decide) (by decide) hP hS (Nat.le_of_ble_eq_true rfl) (Nat.le_of_ble_eq_true rfl) dX9_init_15 (fun H E3 hP hN3 hO3 hS => ?_)
  have hP : PW a0 (169) D E3 H := hP
  have hq3 : E3 (166) = .inr (9, [.long 0, .ref (a0 + (167)), .int 0, .null, .null, .null, .null, .null, .null, .null, .null, .null, .null, .int 0, .int 0, .int 0, .int 0, .int 0, .int 0, .null, .null, .null, .null, .null, .null, .null, .int 0]) := (hO3 _ (by omega)).trans hq2
  refine pw_putF (k := 3) (q := 166) (ty := (.array .int)) (v := .ref (a0 + (168))) hx hb hown hts hK (ci := 9) (C := RX9) (T := TX9) (N := 27) rfl (by decide) rfl hin rfl fwX9_13 hq3 (by omega) (by decide +kernel) rfl rfl (Nat.le_of_ble_eq_true rfl) hP hS dX9_init_17 (fun H E4 locs hP hN4 hO4 hS => ?_)
  have hq4 : E4 (166) = .inr (9, [.long 0, .ref (a0 + (167)), .int 0, .ref (a0 + (168)), .null, .null, .null, .null, .null, .null, .null, .null, .null, .int 0, .int 0, .int 0, .int 0, .int 0, .int 0, .null, .null, .null, .null, .null, .null, .null, .int 0]) := hN4
  refine lv_aload_n hx hb dX9_init_20 rfl (lv_at hl 0 rfl) ?_
  refine lv_iconst (v := 2) hx hb dX9_init_21 (by decide) ?_
  refine pw_newa hx hb hts hK (ty := .int) rfl rfl (fun cA h => h) 1 rfl ac_int 2 (by decide) (by decide) (by decide) hP hS (Nat.le_of_ble_eq_true rfl) (Nat.le_of_ble_eq_true rfl) dX9_init_22 (fun H E5 hP hN5 hO5 hS => ?_)
  have hP : PW a0 (170) D E5 H := hP
  have hq5 : E5 (166) = .inr (9, [.long 0, .ref (a0 + (167)), .int 0, .ref (a0 + (168)), .null, .null, .null, .null, .null, .null, .null, .null, .null, .int 0, .int 0, .int 0, .int 0, .int 0, .int 0, .null, .null, .null, .null, .null, .null, .null, .int 0]) := (hO5 _ (by omega)).trans hq4
  refine pw_putF (k := 4) (q := 166) (ty := (.array .int)) (v := .ref (a0 + (169))) hx hb hown hts hK (ci := 9) (C := RX9) (T := TX9) (N := 27) rfl (by decide) rfl hin rfl fwX9_17 hq5 (by omega) (by decide +kernel) rfl rfl (Nat.le_of_ble_eq_true rfl) hP hS dX9_init_24 (fun H E6 locs hP hN6 hO6 hS => ?_)
  have hq6 : E6 (166) = .inr (9, [.long 0, .ref (a0 + (167)), .int 0, .ref (a0 + (168)), .ref (a0 + (169)), .null, .null, .null, .null, .null, .null, .null, .null, .int 0, .int 0, .int 0, .int 0, .int 0, .int 0, .null, .null, .null, .null, .null, .null, .null, .int 0]) := hN6
  refine lv_aload_n hx hb dX9_init_27 rfl (lv_at hl 0 rfl) ?_
  refine lv_bipush (v := 16) hx hb dX9_init_28 (by decide) ?_
  refine pw_newa hx hb hts hK (ty := .int) rfl rfl (fun cA h => h) 1 rfl ac_int 16 (by decide) (by decide) (by decide) hP hS (Nat.le_of_ble_eq_true rfl) (Nat.le_of_ble_eq_true rfl) dX9_init_30 (fun H E7 hP hN7 hO7 hS => ?_)
  have hP : PW a0 (171) D E7 H := hP
  have hq7 : E7 (166) = .inr (9, [.long 0, .ref (a0 + (167)), .int 0, .ref (a0 + (168)), .ref (a0 + (169)), .null, .null, .null, .null, .null, .null, .null, .null, .int 0, .int 0, .int 0, .int 0, .int 0, .int 0, .null, .null, .null, .null, .null, .null, .null, .int 0]) := (hO7 _ (by omega)).trans hq6
  refine pw_putF (k := 5) (q := 166) (ty := (.array .int)) (v := .ref (a0 + (170))) hx hb hown hts hK (ci := 9) (C := RX9) (T := TX9) (N := 27) rfl (by decide) rfl hin rfl fwX9_20 hq7 (by omega) (by decide +kernel) rfl rfl (Nat.le_of_ble_eq_true rfl) hP hS dX9_init_32 (fun H E8 locs hP hN8 hO8 hS => ?_)
  have hq8 : E8 (166) = .inr (9, [.long 0, .ref (a0 + (167)), .int 0, .ref (a0 + (168)), .ref (a0 + (169)), .ref (a0 + (170)), .null, .null, .null, .null, .null, .null, .null, .int 0, .int 0, .int 0, .int 0, .int 0, .int 0, .null, .null, .null, .null, .null, .null, .null, .int 0]) := hN8
  refine lv_aload_n hx hb dX9_init_35 rfl (lv_at hl 0 rfl) ?_
  refine lv_bipush (v := 16) hx hb dX9_init_36 (by decide) ?_
  refine pw_newa hx hb hts hK (ty := .int) rfl rfl (fun cA h => h) 1 rfl ac_int 16 (by decide) (by decide) (by decide) hP hS (Nat.le_of_ble_eq_true rfl) (Nat.le_of_ble_eq_true rfl) dX9_init_38 (fun H E9 hP hN9 hO9 hS => ?_)
  have hP : PW a0 (172) D E9 H := hP
  have hq9 : E9 (166) = .inr (9, [.long 0, .ref (a0 + (167)), .int 0, .ref (a0 + (168)), .ref (a0 + (169)), .ref (a0 + (170)), .null, .null, .null, .null, .null, .null, .null, .int 0, .int 0, .int 0, .int 0, .int 0, .int 0, .null, .null, .null, .null, .null, .null, .null, .int 0]) := (hO9 _ (by omega)).trans hq8
  refine pw_putF (k := 6) (q := 166) (ty := (.array .int)) (v := .ref (a0 + (171))) hx hb hown hts hK (ci := 9) (C := RX9) (T := TX9) (N := 27) rfl (by decide) rfl hin rfl fwX9_23 hq9 (by omega) (by decide +kernel) rfl rfl (Nat.le_of_ble_eq_true rfl) hP hS dX9_init_40 (fun H E10 locs hP hN10 hO10 hS => ?_)
  have hq10 : E10 (166) = .inr (9, [.long 0, .ref (a0 + (167)), .int 0, .ref (a0 + (168)), .ref (a0 + (169)), .ref (a0 + (170)), .ref (a0 + (171)), .null, .null, .null, .null, .null, .null, .int 0, .int 0, .int 0, .int 0, .int 0, .int 0, .null, .null, .null, .null, .null, .null, .null, .int 0]) := hN10
  refine lv_aload_n hx hb dX9_init_43 rfl (lv_at hl 0 rfl) ?_
  refine lv_bipush (v := 16) hx hb dX9_init_44 (by decide) ?_
  refine pw_newa hx hb hts hK (ty := .int) rfl rfl (fun cA h => h) 1 rfl ac_int 16 (by decide) (by decide) (by decide) hP hS (Nat.le_of_ble_eq_true rfl) (Nat.le_of_ble_eq_true rfl) dX9_init_46 (fun H E11 hP hN11 hO11 hS => ?_)
  have hP : PW a0 (173) D E11 H := hP
  have hq11 : E11 (166) = .inr (9, [.long 0, .ref (a0 + (167)), .int 0, .ref (a0 + (168)), .ref (a0 + (169)), .ref (a0 + (170)), .ref (a0 + (171)), .null, .null, .null, .null, .null, .null, .int 0, .int 0, .int 0, .int 0, .int 0, .int 0, .null, .null, .null, .null, .null, .null, .null, .int 0]) := (hO11 _ (by omega)).trans hq10
  refine pw_putF (k := 7) (q := 166) (ty := (.array .int)) (v := .ref (a0 + (172))) hx hb hown hts hK (ci := 9) (C := RX9) (T := TX9) (N := 27) rfl (by decide) rfl hin rfl fwX9_26 hq11 (by omega) (by decide +kernel) rfl rfl (Nat.le_of_ble_eq_true rfl) hP hS dX9_init_48 (fun H E12 locs hP hN12 hO12 hS => ?_)
  have hq12 : E12 (166) = .inr (9, [.long 0, .ref (a0 + (167)), .int 0, .ref (a0 + (168)), .ref (a0 + (169)), .ref (a0 + (170)), .ref (a0 + (171)), .ref (a0 + (172)), .null, .null, .null, .null, .null, .int 0, .int 0, .int 0, .int 0, .int 0, .int 0, .null, .null, .null, .null, .null, .null, .null, .int 0]) := hN12
  refine lv_aload_n hx hb dX9_init_51 rfl (lv_at hl 0 rfl) ?_
  refine lv_iconst (v := 2) hx hb dX9_init_52 (by decide) ?_
  refine pw_newa hx hb hts hK (ty := .int) rfl rfl (fun cA h => h) 1 rfl ac_int 2 (by decide) (by decide) (by decide) hP hS (Nat.le_of_ble_eq_true rfl) (Nat.le_of_ble_eq_true rfl) dX9_init_53 (fun H E13 hP hN13 hO13 hS => ?_)
  have hP : PW a0 (174) D E13 H := hP
  have hq13 : E13 (166) = .inr (9, [.long 0, .ref (a0 + (167)), .int 0, .ref (a0 + (168)), .ref (a0 + (169)), .ref (a0 + (170)), .ref (a0 + (171)), .ref (a0 + (172)), .null, .null, .null, .null, .null, .int 0, .int 0, .int 0, .int 0, .int 0, .int 0, .null, .null, .null, .null, .null, .null, .null, .int 0]) := (hO13 _ (by omega)).trans hq12
  refine pw_putF (k := 8) (q := 166) (ty := (.array .int)) (v := .ref (a0 + (173))) hx hb hown hts hK (ci := 9) (C := RX9) (T := TX9) (N := 27) rfl (by decide) rfl hin rfl fwX9_29 hq13 (by omega) (by decide +kernel) rfl rfl (Nat.le_of_ble_eq_true rfl) hP hS dX9_init_55 (fun H E14 locs hP hN14 hO14 hS => ?_)
  have hq14 : E14 (166) = .inr (9, [.long 0, .ref (a0 + (167)), .int 0, .ref (a0 + (168)), .ref (a0 + (169)), .ref (a0 + (170)), .ref (a0 + (171)), .ref (a0 + (172)), .ref (a0 + (173)), .null, .null, .null, .null, .int 0, .int 0, .int 0, .int 0, .int 0, .int 0, .null, .null, .null, .null, .null, .null, .null, .int 0]) := hN14
  refine lv_aload_n hx hb dX9_init_58 rfl (lv_at hl 0 rfl) ?_
  refine lv_iconst (v := 5) hx hb dX9_init_59 (by decide) ?_
  refine pw_newa hx hb hts hK (ty := .int) rfl rfl (fun cA h => h) 1 rfl ac_int 5 (by decide) (by decide) (by decide) hP hS (Nat.le_of_ble_eq_true rfl) (Nat.le_of_ble_eq_true rfl) dX9_init_60 (fun H E15 hP hN15 hO15 hS => ?_)
  have hP : PW a0 (175) D E15 H := hP
  have hq15 : E15 (166) = .inr (9, [.long 0, .ref (a0 + (167)), .int 0, .ref (a0 + (168)), .ref (a0 + (169)), .ref (a0 + (170)), .ref (a0 + (171)), .ref (a0 + (172)), .ref (a0 + (173)), .null, .null, .null, .null, .int 0, .int 0, .int 0, .int 0, .int 0, .int 0, .null, .null, .null, .null, .null, .null, .null, .int 0]) := (hO15 _ (by omega)).trans hq14
  refine pw_putF (k := 9) (q := 166) (ty := (.array .int)) (v := .ref (a0 + (174))) hx hb hown hts hK (ci := 9) (C := RX9) (T := TX9) (N := 27) rfl (by decide) rfl hin rfl fwX9_32 hq15 (by omega) (by decide +kernel) rfl rfl (Nat.le_of_ble_eq_true rfl) hP hS dX9_init_62 (fun H E16 locs hP hN16 hO16 hS => ?_)
  have hq16 : E16 (166) = .inr (9, [.long 0, .ref (a0 + (167)), .int 0, .ref (a0 + (168)), .ref (a0 + (169)), .ref (a0 + (170)), .ref (a0 + (171)), .ref (a0 + (172)), .ref (a0 + (173)), .ref (a0 + (174)), .null, .null, .null, .int 0, .int 0, .int 0, .int 0, .int 0, .int 0, .null, .null, .null, .null, .null, .null, .null, .int 0]) := hN16
  refine lv_aload_n hx hb dX9_init_65 rfl (lv_at hl 0 rfl) ?_
  refine lv_iconst (v := 5) hx hb dX9_init_66 (by decide) ?_
  refine pw_newa hx hb hts hK (ty := .int) rfl rfl (fun cA h => h) 1 rfl ac_int 5 (by decide) (by decide) (by decide) hP hS (Nat.le_of_ble_eq_true rfl) (Nat.le_of_ble_eq_true rfl) dX9_init_67 (fun H E17 hP hN17 hO17 hS => ?_)
  have hP : PW a0 (176) D E17 H := hP
  have hq17 : E17 (166) = .inr (9, [.long 0, .ref (a0 + (167)), .int 0, .ref (a0 + (168)), .ref (a0 + (169)), .ref (a0 + (170)), .ref (a0 + (171)), .ref (a0 + (172)), .ref (a0 + (173)), .ref (a0 + (174)), .null, .null, .null, .int 0, .int 0, .int 0, .int 0, .int 0, .int 0, .null, .null, .null, .null, .null, .null, .null, .int 0]) := (hO17 _ (by omega)).trans hq16
  refine pw_putF (k := 10) (q := 166) (ty := (.array .int)) (v := .ref (a0 + (175))) hx hb hown hts hK (ci := 9) (C := RX9) (T := TX9) (N := 27) rfl (by decide) rfl hin rfl fwX9_35 hq17 (by omega) (by decide +kernel) rfl rfl (Nat.le_of_ble_eq_true rfl) hP hS dX9_init_69 (fun H E18 locs hP hN18 hO18 hS => ?_)
  have hq18 : E18 (166) = .inr (9, [.long 0, .ref (a0 + (167)), .int 0, .ref (a0 + (168)), .ref (a0 + (169)), .ref (a0 + (170)), .ref (a0 + (171)), .ref (a0 + (172)), .ref (a0 + (173)), .ref (a0 + (174)), .ref (a0 + (175)), .null, .null, .int 0, .int 0, .int 0, .int 0, .int 0, .int 0, .null, .null, .null, .null, .null, .null, .null, .int 0]) := hN18
  refine lv_aload_n hx hb dX9_init_72 rfl (lv_at hl 0 rfl) ?_
  refine lv_iconst (v := 2) hx hb dX9_init_73 (by decide) ?_
  refine pw_newa hx hb hts hK (ty := .int) rfl rfl (fun cA h => h) 1 rfl ac_int 2 (by decide) (by decide) (by decide) hP hS (Nat.le_of_ble_eq_true rfl) (Nat.le_of_ble_eq_true rfl) dX9_init_74 (fun H E19 hP hN19 hO19 hS => ?_)
  have hP : PW a0 (177) D E19 H := hP
  have hq19 : E19 (166) = .inr (9, [.long 0, .ref (a0 + (167)), .int 0, .ref (a0 + (168)), .ref (a0 + (169)), .ref (a0 + (170)), .ref (a0 + (171)), .ref (a0 + (172)), .ref (a0 + (173)), .ref (a0 + (174)), .ref (a0 + (175)), .null, .null, .int 0, .int 0, .int 0, .int 0, .int 0, .int 0, .null, .null, .null, .null, .null, .null, .null, .int 0]) := (hO19 _ (by omega)).trans hq18
  refine pw_putF (k := 11) (q := 166) (ty := (.array .int)) (v := .ref (a0 + (176))) hx hb hown hts hK (ci := 9) (C := RX9) (T := TX9) (N := 27) rfl (by decide) rfl hin rfl fwX9_38 hq19 (by omega) (by decide +kernel) rfl rfl (Nat.le_of_ble_eq_true rfl) hP hS dX9_init_76 (fun H E20 locs hP hN20 hO20 hS => ?_)
  have hq20 : E20 (166) = .inr (9, [.long 0, .ref (a0 + (167)), .int 0, .ref (a0 + (168)), .ref (a0 + (169)), .ref (a0 + (170)), .ref (a0 + (171)), .ref (a0 + (172)), .ref (a0 + (173)), .ref (a0 + (174)), .ref (a0 + (175)), .ref (a0 + (176)), .null, .int 0, .int 0, .int 0, .int 0, .int 0, .int 0, .null, .null, .null, .null, .null, .null, .null, .int 0]) := hN20
  refine lv_aload_n hx hb dX9_init_79 rfl (lv_at hl 0 rfl) ?_
  refine lv_iconst (v := 2) hx hb dX9_init_80 (by decide) ?_
  refine pw_newa hx hb hts hK (ty := .int) rfl rfl (fun cA h => h) 1 rfl ac_int 2 (by decide) (by decide) (by decide) hP hS (Nat.le_of_ble_eq_true rfl) (Nat.le_of_ble_eq_true rfl) dX9_init_81 (fun H E21 hP hN21 hO21 hS => ?_)
  have hP : PW a0 (178) D E21 H := hP
  have hq21 : E21 (166) = .inr (9, [.long 0, .ref (a0 + (167)), .int 0, .ref (a0 + (168)), .ref (a0 + (169)), .ref (a0 + (170)), .ref (a0 + (171)), .ref (a0 + (172)), .ref (a0 + (173)), .ref (a0 + (174)), .ref (a0 + (175)), .ref (a0 + (176)), .null, .int 0, .int 0, .int 0, .int 0, .int 0, .int 0, .null, .null, .null, .null, .null, .null, .null, .int 0]) := (hO21 _ (by omega)).trans hq20
  refine pw_putF (k := 12) (q := 166) (ty := (.array .int)) (v := .ref (a0 + (177))) hx hb hown hts hK (ci := 9) (C := RX9) (T := TX9) (N := 27) rfl (by decide) rfl hin rfl fwX9_41 hq21 (by omega) (by decide +kernel) rfl rfl (Nat.le_of_ble_eq_true rfl) hP hS dX9_init_83 (fun H E22 locs hP hN22 hO22 hS => ?_)
  have hq22 : E22 (166) = .inr (9, [.long 0, .ref (a0 + (167)), .int 0, .ref (a0 + (168)), .ref (a0 + (169)), .ref (a0 + (170)), .ref (a0 + (171)), .ref (a0 + (172)), .ref (a0 + (173)), .ref (a0 + (174)), .ref (a0 + (175)), .ref (a0 + (176)), .ref (a0 + (177)), .int 0, .int 0, .int 0, .int 0, .int 0, .int 0, .null, .null, .null, .null, .null, .null, .null, .int 0]) := hN22
  refine lv_aload_n hx hb dX9_init_86 rfl (lv_at hl 0 rfl) ?_
  refine lv_sipush (v := 531) hx hb dX9_init_87 (by decide) ?_
  refine pw_newa hx hb hts hK (ty := .int) rfl rfl (fun cA h => h) 1 rfl ac_int 531 (by decide) (by decide) (by decide) hP hS (Nat.le_of_ble_eq_true rfl) (Nat.le_of_ble_eq_true rfl) dX9_init_90 (fun H E23 hP hN23 hO23 hS => ?_)
  have hP : PW a0 (179) D E23 H := hP
  have hq23 : E23 (166) = .inr (9, [.long 0, .ref (a0 + (167)), .int 0, .ref (a0 + (168)), .ref (a0 + (169)), .ref (a0 + (170)), .ref (a0 + (171)), .ref (a0 + (172)), .ref (a0 + (173)), .ref (a0 + (174)), .ref (a0 + (175)), .ref (a0 + (176)), .ref (a0 + (177)), .int 0, .int 0, .int 0, .int 0, .int 0, .int 0, .null, .null, .null, .null, .null, .null, .null, .int 0]) := (hO23 _ (by omega)).trans hq22
  refine pw_putF (k := 19) (q := 166) (ty := (.array .int)) (v := .ref (a0 + (178))) hx hb hown hts hK (ci := 9) (C := RX9) (T := TX9) (N := 27) rfl (by decide) rfl hin rfl fwX9_44 hq23 (by omega) (by decide +kernel) rfl rfl (Nat.le_of_ble_eq_true rfl) hP hS dX9_init_92 (fun H E24 locs hP hN24 hO24 hS => ?_)
  have hq24 : E24 (166) = .inr (9, [.long 0, .ref (a0 + (167)), .int 0, .ref (a0 + (168)), .ref (a0 + (169)), .ref (a0 + (170)), .ref (a0 + (171)), .ref (a0 + (172)), .ref (a0 + (173)), .ref (a0 + (174)), .ref (a0 + (175)), .ref (a0 + (176)), .ref (a0 + (177)), .int 0, .int 0, .int 0, .int 0, .int 0, .int 0, .ref (a0 + (178)), .null, .null, .null, .null, .null, .null, .int 0]) := hN24
  refine lv_aload_n hx hb dX9_init_95 rfl (lv_at hl 0 rfl) ?_
  refine lv_iconst (v := 2) hx hb dX9_init_96 (by decide) ?_
  refine pw_newa hx hb hts hK (ty := .boolean) rfl rfl (fun cA h => h) 2 rfl ac_boolean 2 (by decide) (by decide) (by decide) hP hS (Nat.le_of_ble_eq_true rfl) (Nat.le_of_ble_eq_true rfl) dX9_init_97 (fun H E25 hP hN25 hO25 hS => ?_)
  have hP : PW a0 (180) D E25 H := hP
  have hq25 : E25 (166) = .inr (9, [.long 0, .ref (a0 + (167)), .int 0, .ref (a0 + (168)), .ref (a0 + (169)), .ref (a0 + (170)), .ref (a0 + (171)), .ref (a0 + (172)), .ref (a0 + (173)), .ref (a0 + (174)), .ref (a0 + (175)), .ref (a0 + (176)), .ref (a0 + (177)), .int 0, .int 0, .int 0, .int 0, .int 0, .int 0, .ref (a0 + (178)), .null, .null, .null, .null, .null, .null, .int 0]) := (hO25 _ (by omega)).trans hq24
  refine pw_putF (k := 20) (q := 166) (ty := (.array .boolean)) (v := .ref (a0 + (179))) hx hb hown hts hK (ci := 9) (C := RX9) (T := TX9) (N := 27) rfl (by decide) rfl hin rfl fwX9_47 hq25 (by omega) (by decide +kernel) rfl rfl (Nat.le_of_ble_eq_true rfl) hP hS dX9_init_99 (fun H E26 locs hP hN26 hO26 hS => ?_)
  have hq26 : E26 (166) = .inr (9, [.long 0, .ref (a0 + (167)), .int 0, .ref (a0 + (168)), .ref (a0 + (169)), .ref (a0 + (170)), .ref (a0 + (171)), .ref (a0 + (172)), .ref (a0 + (173)), .ref (a0 + (174)), .ref (a0 + (175)), .ref (a0 + (176)), .ref (a0 + (177)), .int 0, .int 0, .int 0, .int 0, .int 0, .int 0, .ref (a0 + (178)), .ref (a0 + (179)), .null, .null, .null, .null, .null, .int 0]) := hN26
  refine lv_aload_n hx hb dX9_init_102 rfl (lv_at hl 0 rfl) ?_
  refine lv_bipush (v := 8) hx hb dX9_init_103 (by decide) ?_
  refine pw_newa hx hb hts hK (ty := .int) rfl rfl (fun cA h => h) 1 rfl ac_int 8 (by decide) (by decide) (by decide) hP hS (Nat.le_of_ble_eq_true rfl) (Nat.le_of_ble_eq_true rfl) dX9_init_105 (fun H E27 hP hN27 hO27 hS => ?_)
  have hP : PW a0 (181) D E27 H := hP
  have hq27 : E27 (166) = .inr (9, [.long 0, .ref (a0 + (167)), .int 0, .ref (a0 + (168)), .ref (a0 + (169)), .ref (a0 + (170)), .ref (a0 + (171)), .ref (a0 + (172)), .ref (a0 + (173)), .ref (a0 + (174)), .ref (a0 + (175)), .ref (a0 + (176)), .ref (a0 + (177)), .int 0, .int 0, .int 0, .int 0, .int 0, .int 0, .ref (a0 + (178)), .ref (a0 + (179)), .null, .null, .null, .null, .null, .int 0]) := (hO27 _ (by omega)).trans hq26
  refine pw_putF (k := 21) (q := 166) (ty := (.array .int)) (v := .ref (a0 + (180))) hx hb hown hts hK (ci := 9) (C := RX9) (T := TX9) (N := 27) rfl (by decide) rfl hin rfl fwX9_51 hq27 (by omega) (by decide +kernel) rfl rfl (Nat.le_of_ble_eq_true rfl) hP hS dX9_init_107 (fun H E28 locs hP hN28 hO28 hS => ?_)
  have hq28 : E28 (166) = .inr (9, [.long 0, .ref (a0 + (167)), .int 0, .ref (a0 + (168)), .ref (a0 + (169)), .ref (a0 + (170)), .ref (a0 + (171)), .ref (a0 + (172)), .ref (a0 + (173)), .ref (a0 + (174)), .ref (a0 + (175)), .ref (a0 + (176)), .ref (a0 + (177)), .int 0, .int 0, .int 0, .int 0, .int 0, .int 0, .ref (a0 + (178)), .ref (a0 + (179)), .ref (a0 + (180)), .null, .null, .null, .null, .int 0]) := hN28
  refine lv_aload_n hx hb dX9_init_110 rfl (lv_at hl 0 rfl) ?_
  refine lv_iconst (v := 5) hx hb dX9_init_111 (by decide) ?_
  refine pw_newa hx hb hts hK (ty := .int) rfl rfl (fun cA h => h) 1 rfl ac_int 5 (by decide) (by decide) (by decide) hP hS (Nat.le_of_ble_eq_true rfl) (Nat.le_of_ble_eq_true rfl) dX9_init_112 (fun H E29 hP hN29 hO29 hS => ?_)
  have hP : PW a0 (182) D E29 H := hP
  have hq29 : E29 (166) = .inr (9, [.long 0, .ref (a0 + (167)), .int 0, .ref (a0 + (168)), .ref (a0 + (169)), .ref (a0 + (170)), .ref (a0 + (171)), .ref (a0 + (172)), .ref (a0 + (173)), .ref (a0 + (174)), .ref (a0 + (175)), .ref (a0 + (176)), .ref (a0 + (177)), .int 0, .int 0, .int 0, .int 0, .int 0, .int 0, .ref (a0 + (178)), .ref (a0 + (179)), .ref (a0 + (180)), .null, .null, .null, .null, .int 0]) := (hO29 _ (by omega)).trans hq28
  refine pw_putF (k := 22) (q := 166) (ty := (.array .int)) (v := .ref (a0 + (181))) hx hb hown hts hK (ci := 9) (C := RX9) (T := TX9) (N := 27) rfl (by decide) rfl hin rfl fwX9_54 hq29 (by omega) (by decide +kernel) rfl rfl (Nat.le_of_ble_eq_true rfl) hP hS dX9_init_114 (fun H E30 locs hP hN30 hO30 hS => ?_)
  have hq30 : E30 (166) = .inr (9, [.long 0, .ref (a0 + (167)), .int 0, .ref (a0 + (168)), .ref (a0 + (169)), .ref (a0 + (170)), .ref (a0 + (171)), .ref (a0 + (172)), .ref (a0 + (173)), .ref (a0 + (174)), .ref (a0 + (175)), .ref (a0 + (176)), .ref (a0 + (177)), .int 0, .int 0, .int 0, .int 0, .int 0, .int 0, .ref (a0 + (178)), .ref (a0 + (179)), .ref (a0 + (180)), .ref (a0 + (181)), .null, .null, .null, .int 0]) := hN30
  refine lv_aload_n hx hb dX9_init_117 rfl (lv_at hl 0 rfl) ?_
  refine lv_iconst (v := 5) hx hb dX9_init_118 (by decide) ?_
  refine pw_newa hx hb hts hK (ty := .int) rfl rfl (fun cA h => h) 1 rfl ac_int 5 (by decide) (by decide) (by decide) hP hS (Nat.le_of_ble_eq_true rfl) (Nat.le_of_ble_eq_true rfl) dX9_init_119 (fun H E31 hP hN31 hO31 hS => ?_)
  have hP : PW a0 (183) D E31 H := hP
  have hq31 : E31 (166) = .inr (9, [.long 0, .ref (a0 + (167)), .int 0, .ref (a0 + (168)), .ref (a0 + (169)), .ref (a0 + (170)), .ref (a0 + (171)), .ref (a0 + (172)), .ref (a0 + (173)), .ref (a0 + (174)), .ref (a0 + (175)), .ref (a0 + (176)), .ref (a0 + (177)), .int 0, .int 0, .int 0, .int 0, .int 0, .int 0, .ref (a0 + (178)), .ref (a0 + (179)), .ref (a0 + (180)), .ref (a0 + (181)), .null, .null, .null, .int 0]) := (hO31 _ (by omega)).trans hq30
  refine pw_putF (k := 23) (q := 166) (ty := (.array .int)) (v := .ref (a0 + (182))) hx hb hown hts hK (ci := 9) (C := RX9) (T := TX9) (N := 27) rfl (by decide) rfl hin rfl fwX9_57 hq31 (by omega) (by decide +kernel) rfl rfl (Nat.le_of_ble_eq_true rfl) hP hS dX9_init_121 (fun H E32 locs hP hN32 hO32 hS => ?_)
  have hq32 : E32 (166) = .inr (9, [.long 0, .ref (a0 + (167)), .int 0, .ref (a0 + (168)), .ref (a0 + (169)), .ref (a0 + (170)), .ref (a0 + (171)), .ref (a0 + (172)), .ref (a0 + (173)), .ref (a0 + (174)), .ref (a0 + (175)), .ref (a0 + (176)), .ref (a0 + (177)), .int 0, .int 0, .int 0, .int 0, .int 0, .int 0, .ref (a0 + (178)), .ref (a0 + (179)), .ref (a0 + (180)), .ref (a0 + (181)), .ref (a0 + (182)), .null, .null, .int 0]) := hN32
  refine lv_aload_n hx hb dX9_init_124 rfl (lv_at hl 0 rfl) ?_
  refine lv_bipush (v := 6) hx hb dX9_init_125 (by decide) ?_
  refine pw_newa hx hb hts hK (ty := .int) rfl rfl (fun cA h => h) 1 rfl ac_int 6 (by decide) (by decide) (by decide) hP hS (Nat.le_of_ble_eq_true rfl) (Nat.le_of_ble_eq_true rfl) dX9_init_127 (fun H E33 hP hN33 hO33 hS => ?_)
  have hP : PW a0 (184) D E33 H := hP
  have hq33 : E33 (166) = .inr (9, [.long 0, .ref (a0 + (167)), .int 0, .ref (a0 + (168)), .ref (a0 + (169)), .ref (a0 + (170)), .ref (a0 + (171)), .ref (a0 + (172)), .ref (a0 + (173)), .ref (a0 + (174)), .ref (a0 + (175)), .ref (a0 + (176)), .ref (a0 + (177)), .int 0, .int 0, .int 0, .int 0, .int 0, .int 0, .ref (a0 + (178)), .ref (a0 + (179)), .ref (a0 + (180)), .ref (a0 + (181)), .ref (a0 + (182)), .null, .null, .int 0]) := (hO33 _ (by omega)).trans hq32
  refine pw_putF (k := 24) (q := 166) (ty := (.array .int)) (v := .ref (a0 + (183))) hx hb hown hts hK (ci := 9) (C := RX9) (T := TX9) (N := 27) rfl (by decide) rfl hin rfl fwX9_60 hq33 (by omega) (by decide +kernel) rfl rfl (Nat.le_of_ble_eq_true rfl) hP hS dX9_init_129 (fun H E34 locs hP hN34 hO34 hS => ?_)
  have hq34 : E34 (166) = .inr (9, [.long 0, .ref (a0 + (167)), .int 0, .ref (a0 + (168)), .ref (a0 + (169)), .ref (a0 + (170)), .ref (a0 + (171)), .ref (a0 + (172)), .ref (a0 + (173)), .ref (a0 + (174)), .ref (a0 + (175)), .ref (a0 + (176)), .ref (a0 + (177)), .int 0, .int 0, .int 0, .int 0, .int 0, .int 0, .ref (a0 + (178)), .ref (a0 + (179)), .ref (a0 + (180)), .ref (a0 + (181)), .ref (a0 + (182)), .ref (a0 + (183)), .null, .int 0]) := hN34
  refine lv_aload_n hx hb dX9_init_132 rfl (lv_at hl 0 rfl) ?_
  refine lv_bipush (v := 6) hx hb dX9_init_133 (by decide) ?_
  refine pw_newa hx hb hts hK (ty := .int) rfl rfl (fun cA h => h) 1 rfl ac_int 6 (by decide) (by decide) (by decide) hP hS (Nat.le_of_ble_eq_true rfl) (Nat.le_of_ble_eq_true rfl) dX9_init_135 (fun H E35 hP hN35 hO35 hS => ?_)
  have hP : PW a0 (185) D E35 H := hP
  have hq35 : E35 (166) = .inr (9, [.long 0, .ref (a0 + (167)), .int 0, .ref (a0 + (168)), .ref (a0 + (169)), .ref (a0 + (170)), .ref (a0 + (171)), .ref (a0 + (172)), .ref (a0 + (173)), .ref (a0 + (174)), .ref (a0 + (175)), .ref (a0 + (176)), .ref (a0 + (177)), .int 0, .int 0, .int 0, .int 0, .int 0, .int 0, .ref (a0 + (178)), .ref (a0 + (179)), .ref (a0 + (180)), .ref (a0 + (181)), .ref (a0 + (182)), .ref (a0 + (183)), .null, .int 0]) := (hO35 _ (by omega)).trans hq34
  refine pw_putF (k := 25) (q := 166) (ty := (.array .int)) (v := .ref (a0 + (184))) hx hb hown hts hK (ci := 9) (C := RX9) (T := TX9) (N := 27) rfl (by decide) rfl hin rfl fwX9_63 hq35 (by omega) (by decide +kernel) rfl rfl (Nat.le_of_ble_eq_true rfl) hP hS dX9_init_137 (fun H E36 locs hP hN36 hO36 hS => ?_)
  have hq36 : E36 (166) = .inr (9, [.long 0, .ref (a0 + (167)), .int 0, .ref (a0 + (168)), .ref (a0 + (169)), .ref (a0 + (170)), .ref (a0 + (171)), .ref (a0 + (172)), .ref (a0 + (173)), .ref (a0 + (174)), .ref (a0 + (175)), .ref (a0 + (176)), .ref (a0 + (177)), .int 0, .int 0, .int 0, .int 0, .int 0, .int 0, .ref (a0 + (178)), .ref (a0 + (179)), .ref (a0 + (180)), .ref (a0 + (181)), .ref (a0 + (182)), .ref (a0 + (183)), .ref (a0 + (184)), .int 0]) := hN36
  have hW : Wd a0 cy D μ0 H := by
    refine PW_Wd hP (fun k hk => ?_)
    rcases (show k < 166 ∨ k = 166 ∨ k = 167 ∨ k = 168 ∨ k = 169 ∨ k = 170 ∨ k = 171 ∨ k = 172 ∨ k = 173 ∨ k = 174 ∨ k = 175 ∨ k = 176 ∨ k = 177 ∨ k = 178 ∨ k = 179 ∨ k = 180 ∨ k = 181 ∨ k = 182 ∨ k = 183 ∨ k = 184 by omega) with h | h | h | h | h | h | h | h | h | h | h | h | h | h | h | h | h | h | h | h
    · rw [hO36 _ (by omega), hO35 _ (by omega), hO34 _ (by omega), hO33 _ (by omega), hO32 _ (by omega), hO31 _ (by omega), hO30 _ (by omega), hO29 _ (by omega), hO28 _ (by omega), hO27 _ (by omega), hO26 _ (by omega), hO25 _ (by omega), hO24 _ (by omega), hO23 _ (by omega), hO22 _ (by omega), hO21 _ (by omega), hO20 _ (by omega), hO19 _ (by omega), hO18 _ (by omega), hO17 _ (by omega), hO16 _ (by omega), hO15 _ (by omega), hO14 _ (by omega), hO13 _ (by omega), hO12 _ (by omega), hO11 _ (by omega), hO10 _ (by omega), hO9 _ (by omega), hO8 _ (by omega), hO7 _ (by omega), hO6 _ (by omega), hO5 _ (by omega), hO4 _ (by omega), hO3 _ (by omega), hO2 _ (by omega), hO1 _ (by omega)]; exact hE2 k h
    · subst h; rw [hq36]; exact (Fz_O (show kd 166 = 9 from rfl) (by decide) (by simp [fl, gI, gR, gL, μ0, show kd 166 = 9 from rfl])).symm
    · subst h; exact (by rw [hO36 _ (by omega), hO35 _ (by omega), hO34 _ (by omega), hO33 _ (by omega), hO32 _ (by omega), hO31 _ (by omega), hO30 _ (by omega), hO29 _ (by omega), hO28 _ (by omega), hO27 _ (by omega), hO26 _ (by omega), hO25 _ (by omega), hO24 _ (by omega), hO23 _ (by omega), hO22 _ (by omega), hO21 _ (by omega), hO20 _ (by omega), hO19 _ (by omega), hO18 _ (by omega), hO17 _ (by omega), hO16 _ (by omega), hO15 _ (by omega), hO14 _ (by omega), hO13 _ (by omega), hO12 _ (by omega), hO11 _ (by omega), hO10 _ (by omega), hO9 _ (by omega), hO8 _ (by omega), hO7 _ (by omega), hO6 _ (by omega), hO5 _ (by omega), hO4 _ (by omega), hO3 _ (by omega), hO2 _ (by omega), hN1]; exact (Fz_B (n := 150) (show kd 167 = 3150 from rfl) (by decide)).symm)
    · subst h; exact (by rw [hO36 _ (by omega), hO35 _ (by omega), hO34 _ (by omega), hO33 _ (by omega), hO32 _ (by omega), hO31 _ (by omega), hO30 _ (by omega), hO29 _ (by omega), hO28 _ (by omega), hO27 _ (by omega), hO26 _ (by omega), hO25 _ (by omega), hO24 _ (by omega), hO23 _ (by omega), hO22 _ (by omega), hO21 _ (by omega), hO20 _ (by omega), hO19 _ (by omega), hO18 _ (by omega), hO17 _ (by omega), hO16 _ (by omega), hO15 _ (by omega), hO14 _ (by omega), hO13 _ (by omega), hO12 _ (by omega), hO11 _ (by omega), hO10 _ (by omega), hO9 _ (by omega), hO8 _ (by omega), hO7 _ (by omega), hO6 _ (by omega), hO5 _ (by omega), hO4 _ (by omega), hN3]; exact (Fz_I (n := 2) (show kd 168 = 1002 from rfl) (by decide)).symm)
    · subst h; exact (by rw [hO36 _ (by omega), hO35 _ (by omega), hO34 _ (by omega), hO33 _ (by omega), hO32 _ (by omega), hO31 _ (by omega), hO30 _ (by omega), hO29 _ (by omega), hO28 _ (by omega), hO27 _ (by omega), hO26 _ (by omega), hO25 _ (by omega), hO24 _ (by omega), hO23 _ (by omega), hO22 _ (by omega), hO21 _ (by omega), hO20 _ (by omega), hO19 _ (by omega), hO18 _ (by omega), hO17 _ (by omega), hO16 _ (by omega), hO15 _ (by omega), hO14 _ (by omega), hO13 _ (by omega), hO12 _ (by omega), hO11 _ (by omega), hO10 _ (by omega), hO9 _ (by omega), hO8 _ (by omega), hO7 _ (by omega), hO6 _ (by omega), hN5]; exact (Fz_I (n := 2) (show kd 169 = 1002 from rfl) (by decide)).symm)
    · subst h; exact (by rw [hO36 _ (by omega), hO35 _ (by omega), hO34 _ (by omega), hO33 _ (by omega), hO32 _ (by omega), hO31 _ (by omega), hO30 _ (by omega), hO29 _ (by omega), hO28 _ (by omega), hO27 _ (by omega), hO26 _ (by omega), hO25 _ (by omega), hO24 _ (by omega), hO23 _ (by omega), hO22 _ (by omega), hO21 _ (by omega), hO20 _ (by omega), hO19 _ (by omega), hO18 _ (by omega), hO17 _ (by omega), hO16 _ (by omega), hO15 _ (by omega), hO14 _ (by omega), hO13 _ (by omega), hO12 _ (by omega), hO11 _ (by omega), hO10 _ (by omega), hO9 _ (by omega), hO8 _ (by omega), hN7]; exact (Fz_I (n := 16) (show kd 170 = 1016 from rfl) (by decide)).symm)
    · subst h; exact (by rw [hO36 _ (by omega), hO35 _ (by omega), hO34 _ (by omega), hO33 _ (by omega), hO32 _ (by omega), hO31 _ (by omega), hO30 _ (by omega), hO29 _ (by omega), hO28 _ (by omega), hO27 _ (by omega), hO26 _ (by omega), hO25 _ (by omega), hO24 _ (by omega), hO23 _ (by omega), hO22 _ (by omega), hO21 _ (by omega), hO20 _ (by omega), hO19 _ (by omega), hO18 _ (by omega), hO17 _ (by omega), hO16 _ (by omega), hO15 _ (by omega), hO14 _ (by omega), hO13 _ (by omega), hO12 _ (by omega), hO11 _ (by omega), hO10 _ (by omega), hN9]; exact (Fz_I (n := 16) (show kd 171 = 1016 from rfl) (by decide)).symm)
    · subst h; exact (by rw [hO36 _ (by omega), hO35 _ (by omega), hO34 _ (by omega), hO33 _ (by omega), hO32 _ (by omega), hO31 _ (by omega), hO30 _ (by omega), hO29 _ (by omega), hO28 _ (by omega), hO27 _ (by omega), hO26 _ (by omega), hO25 _ (by omega), hO24 _ (by omega), hO23 _ (by omega), hO22 _ (by omega), hO21 _ (by omega), hO20 _ (by omega), hO19 _ (by omega), hO18 _ (by omega), hO17 _ (by omega), hO16 _ (by omega), hO15 _ (by omega), hO14 _ (by omega), hO13 _ (by omega), hO12 _ (by omega), hN11]; exact (Fz_I (n := 16) (show kd 172 = 1016 from rfl) (by decide)).symm)
    · subst h; exact (by rw [hO36 _ (by omega), hO35 _ (by omega), hO34 _ (by omega), hO33 _ (by omega), hO32 _ (by omega), hO31 _ (by omega), hO30 _ (by omega), hO29 _ (by omega), hO28 _ (by omega), hO27 _ (by omega), hO26 _ (by omega), hO25 _ (by omega), hO24 _ (by omega), hO23 _ (by omega), hO22 _ (by omega), hO21 _ (by omega), hO20 _ (by omega), hO19 _ (by omega), hO18 _ (by omega), hO17 _ (by omega), hO16 _ (by omega), hO15 _ (by omega), hO14 _ (by omega), hN13]; exact (Fz_I (n := 2) (show kd 173 = 1002 from rfl) (by decide)).symm)
    · subst h; exact (by rw [hO36 _ (by omega), hO35 _ (by omega), hO34 _ (by omega), hO33 _ (by omega), hO32 _ (by omega), hO31 _ (by omega), hO30 _ (by omega), hO29 _ (by omega), hO28 _ (by omega), hO27 _ (by omega), hO26 _ (by omega), hO25 _ (by omega), hO24 _ (by omega), hO23 _ (by omega), hO22 _ (by omega), hO21 _ (by omega), hO20 _ (by omega), hO19 _ (by omega), hO18 _ (by omega), hO17 _ (by omega), hO16 _ (by omega), hN15]; exact (Fz_I (n := 5) (show kd 174 = 1005 from rfl) (by decide)).symm)
    · subst h; exact (by rw [hO36 _ (by omega), hO35 _ (by omega), hO34 _ (by omega), hO33 _ (by omega), hO32 _ (by omega), hO31 _ (by omega), hO30 _ (by omega), hO29 _ (by omega), hO28 _ (by omega), hO27 _ (by omega), hO26 _ (by omega), hO25 _ (by omega), hO24 _ (by omega), hO23 _ (by omega), hO22 _ (by omega), hO21 _ (by omega), hO20 _ (by omega), hO19 _ (by omega), hO18 _ (by omega), hN17]; exact (Fz_I (n := 5) (show kd 175 = 1005 from rfl) (by decide)).symm)
    · subst h; exact (by rw [hO36 _ (by omega), hO35 _ (by omega), hO34 _ (by omega), hO33 _ (by omega), hO32 _ (by omega), hO31 _ (by omega), hO30 _ (by omega), hO29 _ (by omega), hO28 _ (by omega), hO27 _ (by omega), hO26 _ (by omega), hO25 _ (by omega), hO24 _ (by omega), hO23 _ (by omega), hO22 _ (by omega), hO21 _ (by omega), hO20 _ (by omega), hN19]; exact (Fz_I (n := 2) (show kd 176 = 1002 from rfl) (by decide)).symm)
    · subst h; exact (by rw [hO36 _ (by omega), hO35 _ (by omega), hO34 _ (by omega), hO33 _ (by omega), hO32 _ (by omega), hO31 _ (by omega), hO30 _ (by omega), hO29 _ (by omega), hO28 _ (by omega), hO27 _ (by omega), hO26 _ (by omega), hO25 _ (by omega), hO24 _ (by omega), hO23 _ (by omega), hO22 _ (by omega), hN21]; exact (Fz_I (n := 2) (show kd 177 = 1002 from rfl) (by decide)).symm)
    · subst h; exact (by rw [hO36 _ (by omega), hO35 _ (by omega), hO34 _ (by omega), hO33 _ (by omega), hO32 _ (by omega), hO31 _ (by omega), hO30 _ (by omega), hO29 _ (by omega), hO28 _ (by omega), hO27 _ (by omega), hO26 _ (by omega), hO25 _ (by omega), hO24 _ (by omega), hN23]; exact (Fz_I (n := 531) (show kd 178 = 1531 from rfl) (by decide)).symm)
    · subst h; exact (by rw [hO36 _ (by omega), hO35 _ (by omega), hO34 _ (by omega), hO33 _ (by omega), hO32 _ (by omega), hO31 _ (by omega), hO30 _ (by omega), hO29 _ (by omega), hO28 _ (by omega), hO27 _ (by omega), hO26 _ (by omega), hN25]; exact (Fz_Z (n := 2) (show kd 179 = 2002 from rfl) (by decide)).symm)
    · subst h; exact (by rw [hO36 _ (by omega), hO35 _ (by omega), hO34 _ (by omega), hO33 _ (by omega), hO32 _ (by omega), hO31 _ (by omega), hO30 _ (by omega), hO29 _ (by omega), hO28 _ (by omega), hN27]; exact (Fz_I (n := 8) (show kd 180 = 1008 from rfl) (by decide)).symm)
    · subst h; exact (by rw [hO36 _ (by omega), hO35 _ (by omega), hO34 _ (by omega), hO33 _ (by omega), hO32 _ (by omega), hO31 _ (by omega), hO30 _ (by omega), hN29]; exact (Fz_I (n := 5) (show kd 181 = 1005 from rfl) (by decide)).symm)
    · subst h; exact (by rw [hO36 _ (by omega), hO35 _ (by omega), hO34 _ (by omega), hO33 _ (by omega), hO32 _ (by omega), hN31]; exact (Fz_I (n := 5) (show kd 182 = 1005 from rfl) (by decide)).symm)
    · subst h; exact (by rw [hO36 _ (by omega), hO35 _ (by omega), hO34 _ (by omega), hN33]; exact (Fz_I (n := 6) (show kd 183 = 1006 from rfl) (by decide)).symm)
    · subst h; exact (by rw [hO36 _ (by omega), hN35]; exact (Fz_I (n := 6) (show kd 184 = 1006 from rfl) (by decide)).symm)
  refine ex_model a0 μI ini_eq p l e (rmC 3 18 781) s m _ below meth c 18 781 (MQ below (Qd a0 cy D none μI) _ s 18 781 (fun q => a0 ≤ q)) cy D ⟨hx, hb, hml, hown, hts, hnw, hK, ⟨Nat.le_of_ble_eq_true rfl, Nat.le_of_ble_eq_true rfl, Nat.le_refl _, Nat.le_refl _⟩, fun _ _ _ h => by cases h⟩ ?_ H locs ls hW hS hl
  intro H locs ls pc hW hS hd _
  exact W.vret hx hb hr (fun t ht _ => ⟨⟨rfl, by rw [ht]; exact hW⟩, hS.F ht⟩) hS.2.2 hd hlocks

theorem ao_C : Cond.arrayOver (.object "ElbowRanks$Course") ∈ lw_tbl := List.mem_append_right _ (List.mem_of_getElem? (i := 167) (by decide +kernel))
theorem ao_M : Cond.arrayOver (.object "ElbowRanks$Moment") ∈ lw_tbl := List.mem_append_right _ (List.mem_of_getElem? (i := 154) (by decide +kernel))
theorem lk9 : Cond.methodLink RL 12 yX9_init ∈ gT := gT_of 658 (by decide +kernel) (by decide +kernel)
theorem arr_K {s : State} {ty : FieldType} {args : Array Value} (h : (Cond.arrayClass ty).before args s = true) (hno : ∀ C, ty ≠ .object C) : ∃ cA : ClassId, ArrOfT s cA ty ∧ va_RA s cA ty := by
  obtain ⟨cA, kA, comp, h1, h2, h3⟩ := Cond.arrayClass_spec h
  refine ⟨cA, fun n z => ⟨fun k h => (by cases h), kA, h2, comp, h3⟩, ?_⟩
  cases ty with
  | object C => exact absurd rfl (hno C)
  | _ => exact h1
theorem arr_KO {s : State} {C : String} {args : Array Value} (h : (Cond.arrayOver (.object C)).before args s = true) : ∃ cA : ClassId, ArrOfT s cA (.object C) ∧ va_RA s cA (.object C) := by
  obtain ⟨comp, cA, kA, f1, f2, f3, f4, f5⟩ := Cond.arrayOver_spec h
  exact ⟨cA, fun n z => ⟨fun k h => (by cases h), kA, f3, comp, f4⟩, kA, comp, f3, f4, f1, f5⟩
theorem pw_runM {p : Program} {l : Launch} {e : Env} {R : Room} {s : State} {m : MethodId} {args : Array Value} {below : List Frame} {meth : Method} {c : Code} {H : Heap} {locs : List Loc} {cells slots : Nat} {Q : State → Prop} {pc : Nat} {ls : Array Slot} {rest : List Value} {a0 : Nat} {D : va_G} {cy : Nat → ClassId} {mc ms : Nat} {st0 : List Value} {a : Array Value} {μ2 : Mem} (hr : va_Run p l e R s m args below meth c H locs cells slots mc ms (F0 m pc ls st0) rest (Qd a0 cy D none μ2 a) (fun q => a0 ≤ q)) (hS : va_S (fun q => a0 ≤ q) s.heap H locs)
    (kk : ∀ (H1 : Heap) (locs1 : List Loc), Wd a0 cy D μ2 H1 → va_S (fun q => a0 ≤ q) s.heap H1 locs1 → W p l e R s m args below meth c H1 locs1 (cells + mc) (slots + ms) Q (F0 m (pc + 3) ls rest)) : W p l e R s m args below meth c H locs cells slots Q (F0 m pc ls st0) := by
  intro T hT X
  obtain ⟨v, st₀, t, T', LL, h0, X', hL, e1, e2, ⟨⟨hv, hW⟩, hz, hk⟩, stp⟩ := hr T hT X
  cases hv
  rw [h0] at hz hk
  rw [← e1] at hW hz hk
  obtain ⟨t2, a1, b1⟩ := kk T'.heap (locs ++ LL) hW ⟨Nat.le_trans hS.1 hz, fun q h1 h2 => (hk q (Nat.lt_of_lt_of_le h1 hS.1) h2).trans (hS.2.1 q h1 h2), fun q hq => (List.mem_append.mp hq).elim (hS.2.2 q) (hL q)⟩ T' rfl X'
  exact ⟨t2, stp t2 a1, b1⟩

