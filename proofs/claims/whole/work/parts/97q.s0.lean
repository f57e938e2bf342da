/-! ===== the state behind the constructors ===== -/
set_option maxRecDepth 1000000 in
theorem S0_a : S0.1 1 1 = 0 ∧ S0.1 128 4 = 0 ∧ S0.1 0 9 = 0 ∧ S0.1 128 5 = 0 ∧ S0.1 0 10 = -1 ∧ S0.1 128 6 = -1 ∧ S0.1 0 11 = 0 ∧ S0.1 0 12 = 0 ∧ S0.1 128 19 = -1 ∧ S0.1 128 20 = -1 ∧ S0.1 128 29 = 0 := by decide +kernel
set_option maxRecDepth 1000000 in
theorem S0_b : ∀ r, r < 8 → S0.1 17 r = 0 ∧ S0.1 130 r = 0 ∧ S0.1 133 r = 0 ∧ S0.1 (TA (M0 r)) 1 = 0 ∧ S0.1 (TA (M0 r)) 8 = 1 ∧ S0.1 (TA (M0 r)) 10 = 0 ∧ S0.1 (TA (M0 r)) 11 = 0 ∧ S0.1 (TA (M0 r) + 3) 0 = 0 ∧ S0.1 (TA (M0 r) + 4) 0 = 0 ∧ S0.1 (TA (M0 r) + 5) 0 = -1 ∧ S0.1 (TA (M0 r) + 6) 0 = 0 := by decide +kernel
set_option maxRecDepth 1000000 in
theorem S0_c : ∀ k, k < 6 → S0.1 14 k = -1 ∧ S0.1 129 k = -1 ∧ S0.1 15 k = abv (S0.1 14) k 6 := by decide +kernel
set_option maxRecDepth 1000000 in
theorem S0_d : (List.range 896).all (fun x => decide (S0.1 19 x = 0)) = true := by decide +kernel
