section R72
variable {F d : Nat} {μ μ1 : Mem} {tx : List Nat} {D : Dr} {σ : St}
theorem succ_M (hF : 5000 ≤ F) (v : Int32) (hM : RcM σ μ) (fm : FrM μ μ1) (hD : OkDr D) (hr : DrM μ1 D) (e8 : gI μ1 166 18 = -9) : ∃ μ2, capK F v μ1 = some (v, μ2) ∧ RcM (fresh D σ.2.2.2.2.2) μ2 ∧ LoS μ μ2 := by
  obtain ⟨s, e, f, ⟨a1, a2, a3, a4, a5⟩, a6, a7, b1, b2, b3, b4⟩ := take_ok (μ := μ1) hF
  obtain ⟨⟨y1, y2, y3, y4, y5⟩, y6, y7, y8⟩ := hr
  have h8 : gN D.1 ≤ 8 := hD.1.2.2.1
  have h5 : gM D.1 ≤ 5 := hD.1.2.2.2.1
  unfold capK
  rw [if_pos e8, e, Option.bind_some, lt_eq]
  have n : ∀ {a i : Nat}, ¬ (a = 166 ∧ i = 2) → gI (sI s 166 2 0) a i = gI s a i := fun z => sI_ne z
  refine ⟨_, rfl, ⟨⟨(n (by omega)).trans (a1.trans y1), (n (by omega)).trans (a2.trans y2), (n (by omega)).trans (a3.trans y3), (n (by omega)).trans (a4.trans y4), (n (by omega)).trans (a5.trans y5), fun l hl => ?_⟩, ⟨⟨(n (by omega)).trans b1, fun p hp => ?_⟩, (n (by omega)).trans b2, Nat.zero_le _, fun i hi => absurd hi (Nat.not_lt_zero _)⟩, fun i hi => ⟨(n (by omega)).trans (b4 i hi), fun c hc => (by cases hc)⟩, ⟨sI_eq, fun i hi => absurd hi (Nat.not_lt_zero _)⟩, ⟨(n (by omega)).trans b3, fun i hi => absurd hi (Nat.not_lt_zero _)⟩, (f.2.1 166).trans ((fm.2.1 166).trans hM.2.2.2.2.2)⟩, fun q hq => ⟨fun j _ => ?_, fun j => (f.1 q j).trans (fm.1 q j), (f.2.1 q).trans (fm.2.1 q)⟩⟩
  · have hl : l < gN D.1 := hl
    have z := a6 l (by omega)
    have y := y6 l hl
    exact ⟨(n (by omega)).trans (z.1.trans y.1), (n (by omega)).trans (z.2.1.trans y.2.1), (n (by omega)).trans (z.2.2.trans y.2.2)⟩
  · have hp : p < gM D.1 := hp
    have z := a7 p (by omega)
    have y := y7 p hp
    refine ⟨(n (by omega)).trans (z.2.1.trans y.1), ?_, (n (by omega)).trans z.2.2⟩
    rw [Nat.zero_add]
    exact (n (by omega)).trans (z.1.trans y.2)
  · exact (n (by omega)).trans ((f.2.2 q j (by unfold Tkn; omega)).trans (fm.2.2 q j (by unfold Drf; omega)))
theorem RcC_tc {σ : St} {μ : Mem} (h : RcC σ μ) : TxC σ.2.2.2.1 μ := ⟨h.2.2.2.2.1.1, fun i hi => by
  rw [h.2.2.2.2.1.2 i hi]
  simp [hi]⟩
theorem RcM_tm {σ : St} {μ : Mem} (h : RcM σ μ) : TxM σ.2.2.2.1 μ := ⟨h.2.2.2.1.1, fun i hi => by
  rw [h.2.2.2.1.2 i hi]
  simp [hi]⟩
theorem OkS_tx {σ : St} (h : OkS σ) : OkT σ.2.2.2.1 := ⟨h.2.2.2.1.1, fun i hi => by
  have z := h.2.2.2.1.2 _ (List.getElem_mem hi)
  simpa [hi] using z⟩
theorem S_capital {F : Nat} (hF : 5000 ≤ F) {σ : St} {μ μ' : Mem} (ho : OkS σ) (hC : RcC σ μ) (hM : RcM σ μ') : Stps μ μ' (f_X8_capital F μ 0) (f_X9_capital F μ' 166) := by
  obtain ⟨t, d, r1, r2, r3, -⟩ := id hC.1
  have hd : 4 ≤ d := by omega
  have ht := OkS_tx ho
  have hl := ht.1
  obtain ⟨μ3, e3, c3, f3⟩ := read_ok hF hd ht (RcC_tc hC)
  obtain ⟨μ4, e4, m4, f4⟩ := cap_ok hF ht (RcM_tm hM)
  have hlaw := loop_two hF hd ht (fun x μ => some (x, μ)) (capK F) (σ.2.2.2.1.length + 1) 0 0 Dr0 μ3 μ4 F F (by omega) (by omega) (by omega) (Nat.le_refl _) c3 m4 Dr0_ok (fun _ => ⟨rfl, rfl⟩)
  rw [show nI 0 = 0 from rfl, ← e3, ← e4] at hlaw
  have ecap : f_X8_capital F μ 0 = bW (f_X4_read F μ 1 d) (fun v μ1 => if v < 0 then some ((-10) - gI μ1 1 2, μ1) else capC F v μ1) := by
    unfold f_X8_capital capC
    rw [r2]
  rw [ecap]
  rcases hlaw with ⟨m, D', μ1, μ2, g1, g2, g3, g4, g5, g6, g7, g8, g9⟩ | ⟨s, x, μ1, μ2, g1, g2, g3, g4, g5, g6, g7⟩
  · obtain ⟨μ5, k1, k2, k3⟩ := succ_C hF (nI m) hC r2 (FrC_tr f3 g7) g4 g5
    obtain ⟨μ6, l1, l2, l3⟩ := succ_M hF (nI m) hM (FrM_tr f4 g8) g4 g6 g9
    rw [g2, g3, bW_some, if_neg (nI_pos (by omega)), k1, l1]
    exact ⟨nI m, fresh D' σ.2.2.2.2.2, μ5, μ6, rfl, rfl, fresh_ok g4 _, k2, l2, k3, l3⟩
  · obtain ⟨k2, k3⟩ := RcC_fr hC r2 (FrC_tr f3 g4)
    obtain ⟨l2, l3⟩ := RcM_fr ho.1 hM (FrM_tr f4 g5)
    rw [g2, g3, bW_some, if_pos (show (-1 : Int32) < 0 by decide), g6]
    unfold capK
    rw [if_neg (by rw [g7]; exact nI_n9 (by omega)), g7]
    exact ⟨_, σ, μ1, μ2, rfl, rfl, ho, k2, l2, k3, l3⟩
end R72
