/-! DECIDED case by case. -/
theorem z_pcM1 : ∀ j1 : Nat, j1 < 7 → ∀ j0 : Nat, j0 < 7 → ∀ x : Nat, x < 64 → (decide (j1 < j0) || decide (pc (zbin 3 x (mk j0 j1)) ≤ pc x)) = true := by decide +kernel
theorem z_pcM2 : ∀ j1 : Nat, j1 < 7 → ∀ j0 : Nat, j0 < 7 → ∀ x : Nat, x < 64 → (decide (j1 < j0) || (decide (pc (zbin 3 x (mk j0 j1)) = pc x) == decide (zbin 3 x (zbin 5 (mk j0 j1) (-1)) = 0))) = true := by decide +kernel
theorem z_pcM3 : ∀ j1 : Nat, j1 < 7 → ∀ j0 : Nat, j0 < 7 → ∀ x : Nat, x < 64 → (decide (j1 < j0) || (decide (pc (zbin 3 x (mk j0 j1)) = 0) == decide (zbin 3 x (mk j0 j1) = 0))) = true := by decide +kernel
theorem z_notM : ∀ j1 : Nat, j1 < 7 → ∀ j0 : Nat, j0 < 7 → j0 ≤ j1 → ∀ x : Nat, x < 64 → 0 ≤ zbin 3 x (zbin 5 (mk j0 j1) (-1)) ∧ zbin 3 x (zbin 5 (mk j0 j1) (-1)) < 64 := by decide +kernel
