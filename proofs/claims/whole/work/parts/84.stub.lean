theorem S_capital {F : Nat} (hF : 5000 ≤ F) {σ : St} {μ μ' : Mem} (ho : OkS σ) (hC : RcC σ μ) (hM : RcM σ μ') : Stps μ μ' (f_X8_capital F μ 0) (f_X9_capital F μ' 166) := sorry
