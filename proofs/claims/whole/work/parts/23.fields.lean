/-! What the layout says of each field that holds a reference. -/
theorem zkd_hi {r : Nat} (h : zkd r < 25) : r < 159 := by
  refine Nat.lt_of_not_le fun h2 => ?_
  unfold zkd at h
  rw [if_neg (by omega), List.getD_eq_getElem?_getD, List.getElem?_eq_none (by rw [show zkl.length = 149 from rfl]; omega)] at h
  exact absurd h (by decide)
theorem zln_hi {P : zP} {r : Nat} (h : 10 ≤ r) : zln P r = (zkl.getD (r - 10) (99, 0)).2 := by
  unfold zln
  rw [if_neg (by omega)]
theorem zix_lt {i : Int} {n : Nat} (h : zin i n) : zix i < n := by
  unfold zix
  have h1 := h.1
  have h2 := h.2
  omega
theorem kf_0_0 : ∀ r, r < 159 → zkd r = 0 → zkd (r + 1) = 20 ∧ (zkl.getD (r + 1 - 10) (99, 0)).2 = 2 := by decide +kernel
theorem kd_0_0 {r : Nat} (h : zkd r = 0) : zkd (r + 1) = 20 := (kf_0_0 r (zkd_hi (by omega)) h).1
theorem ln_0_0 {P : zP} {r : Nat} (h : zkd r = 0) : zln P (r + 1) = 2 := by
  have h1 := zkd_lt (r := r) (by omega)
  rw [zln_hi (by omega)]
  exact (kf_0_0 r (zkd_hi (by omega)) h).2
theorem kf_0_1 : ∀ r, r < 159 → zkd r = 0 → zkd (r + 2) = 24 ∧ (zkl.getD (r + 2 - 10) (99, 0)).2 = 2 := by decide +kernel
theorem kd_0_1 {r : Nat} (h : zkd r = 0) : zkd (r + 2) = 24 := (kf_0_1 r (zkd_hi (by omega)) h).1
theorem ln_0_1 {P : zP} {r : Nat} (h : zkd r = 0) : zln P (r + 2) = 2 := by
  have h1 := zkd_lt (r := r) (by omega)
  rw [zln_hi (by omega)]
  exact (kf_0_1 r (zkd_hi (by omega)) h).2
theorem kg_0_1 : ∀ r, r < 159 → zkd r = 0 → ∀ q, q < 2 → zkd (r + 2 + (1 + q)) = 21 ∧ (zkl.getD (r + 2 + (1 + q) - 10) (99, 0)).2 = 40 := by decide +kernel
theorem kq_0_1 {r q : Nat} (h : zkd r = 0) (hq : q < 2) : zkd (r + 2 + (1 + q)) = 21 := (kg_0_1 r (zkd_hi (by omega)) h q hq).1
theorem lq_0_1 {P : zP} {r q : Nat} (h : zkd r = 0) (hq : q < 2) : zln P (r + 2 + (1 + q)) = 40 := by
  have h1 := zkd_lt (r := r) (by omega)
  rw [zln_hi (by omega)]
  exact (kg_0_1 r (zkd_hi (by omega)) h q hq).2
theorem kf_0_2 : ∀ r, r < 159 → zkd r = 0 → zkd (r + 5) = 24 ∧ (zkl.getD (r + 5 - 10) (99, 0)).2 = 2 := by decide +kernel
theorem kd_0_2 {r : Nat} (h : zkd r = 0) : zkd (r + 5) = 24 := (kf_0_2 r (zkd_hi (by omega)) h).1
theorem ln_0_2 {P : zP} {r : Nat} (h : zkd r = 0) : zln P (r + 5) = 2 := by
  have h1 := zkd_lt (r := r) (by omega)
  rw [zln_hi (by omega)]
  exact (kf_0_2 r (zkd_hi (by omega)) h).2
theorem kg_0_2 : ∀ r, r < 159 → zkd r = 0 → ∀ q, q < 2 → zkd (r + 5 + (1 + q)) = 21 ∧ (zkl.getD (r + 5 + (1 + q) - 10) (99, 0)).2 = 40 := by decide +kernel
theorem kq_0_2 {r q : Nat} (h : zkd r = 0) (hq : q < 2) : zkd (r + 5 + (1 + q)) = 21 := (kg_0_2 r (zkd_hi (by omega)) h q hq).1
theorem lq_0_2 {P : zP} {r q : Nat} (h : zkd r = 0) (hq : q < 2) : zln P (r + 5 + (1 + q)) = 40 := by
  have h1 := zkd_lt (r := r) (by omega)
  rw [zln_hi (by omega)]
  exact (kg_0_2 r (zkd_hi (by omega)) h q hq).2
theorem kf_0_3 : ∀ r, r < 159 → zkd r = 0 → zkd (r + 8) = 23 ∧ (zkl.getD (r + 8 - 10) (99, 0)).2 = 2 := by decide +kernel
theorem kd_0_3 {r : Nat} (h : zkd r = 0) : zkd (r + 8) = 23 := (kf_0_3 r (zkd_hi (by omega)) h).1
theorem ln_0_3 {P : zP} {r : Nat} (h : zkd r = 0) : zln P (r + 8) = 2 := by
  have h1 := zkd_lt (r := r) (by omega)
  rw [zln_hi (by omega)]
  exact (kf_0_3 r (zkd_hi (by omega)) h).2
theorem kg_0_3 : ∀ r, r < 159 → zkd r = 0 → ∀ q, q < 2 → zkd (r + 8 + (1 + q)) = 20 ∧ (zkl.getD (r + 8 + (1 + q) - 10) (99, 0)).2 = 24 := by decide +kernel
theorem kq_0_3 {r q : Nat} (h : zkd r = 0) (hq : q < 2) : zkd (r + 8 + (1 + q)) = 20 := (kg_0_3 r (zkd_hi (by omega)) h q hq).1
theorem lq_0_3 {P : zP} {r q : Nat} (h : zkd r = 0) (hq : q < 2) : zln P (r + 8 + (1 + q)) = 24 := by
  have h1 := zkd_lt (r := r) (by omega)
  rw [zln_hi (by omega)]
  exact (kg_0_3 r (zkd_hi (by omega)) h q hq).2
theorem kf_0_4 : ∀ r, r < 159 → zkd r = 0 → zkd (r + 11) = 23 ∧ (zkl.getD (r + 11 - 10) (99, 0)).2 = 2 := by decide +kernel
theorem kd_0_4 {r : Nat} (h : zkd r = 0) : zkd (r + 11) = 23 := (kf_0_4 r (zkd_hi (by omega)) h).1
theorem ln_0_4 {P : zP} {r : Nat} (h : zkd r = 0) : zln P (r + 11) = 2 := by
  have h1 := zkd_lt (r := r) (by omega)
  rw [zln_hi (by omega)]
  exact (kf_0_4 r (zkd_hi (by omega)) h).2
theorem kg_0_4 : ∀ r, r < 159 → zkd r = 0 → ∀ q, q < 2 → zkd (r + 11 + (1 + q)) = 20 ∧ (zkl.getD (r + 11 + (1 + q) - 10) (99, 0)).2 = 144 := by decide +kernel
theorem kq_0_4 {r q : Nat} (h : zkd r = 0) (hq : q < 2) : zkd (r + 11 + (1 + q)) = 20 := (kg_0_4 r (zkd_hi (by omega)) h q hq).1
theorem lq_0_4 {P : zP} {r q : Nat} (h : zkd r = 0) (hq : q < 2) : zln P (r + 11 + (1 + q)) = 144 := by
  have h1 := zkd_lt (r := r) (by omega)
  rw [zln_hi (by omega)]
  exact (kg_0_4 r (zkd_hi (by omega)) h q hq).2
theorem kf_0_5 : ∀ r, r < 159 → zkd r = 0 → zkd (r + 14) = 20 ∧ (zkl.getD (r + 14 - 10) (99, 0)).2 = 144 := by decide +kernel
theorem kd_0_5 {r : Nat} (h : zkd r = 0) : zkd (r + 14) = 20 := (kf_0_5 r (zkd_hi (by omega)) h).1
theorem ln_0_5 {P : zP} {r : Nat} (h : zkd r = 0) : zln P (r + 14) = 144 := by
  have h1 := zkd_lt (r := r) (by omega)
  rw [zln_hi (by omega)]
  exact (kf_0_5 r (zkd_hi (by omega)) h).2
theorem kf_1_0 : ∀ r, r < 159 → zkd r = 1 → zkd (r + 1) = 20 ∧ (zkl.getD (r + 1 - 10) (99, 0)).2 = 6 := by decide +kernel
theorem kd_1_0 {r : Nat} (h : zkd r = 1) : zkd (r + 1) = 20 := (kf_1_0 r (zkd_hi (by omega)) h).1
theorem ln_1_0 {P : zP} {r : Nat} (h : zkd r = 1) : zln P (r + 1) = 6 := by
  have h1 := zkd_lt (r := r) (by omega)
  rw [zln_hi (by omega)]
  exact (kf_1_0 r (zkd_hi (by omega)) h).2
theorem kf_1_1 : ∀ r, r < 159 → zkd r = 1 → zkd (r + 2) = 20 ∧ (zkl.getD (r + 2 - 10) (99, 0)).2 = 6 := by decide +kernel
theorem kd_1_1 {r : Nat} (h : zkd r = 1) : zkd (r + 2) = 20 := (kf_1_1 r (zkd_hi (by omega)) h).1
theorem ln_1_1 {P : zP} {r : Nat} (h : zkd r = 1) : zln P (r + 2) = 6 := by
  have h1 := zkd_lt (r := r) (by omega)
  rw [zln_hi (by omega)]
  exact (kf_1_1 r (zkd_hi (by omega)) h).2
theorem kf_1_2 : ∀ r, r < 159 → zkd r = 1 → zkd (r + 3) = 20 ∧ (zkl.getD (r + 3 - 10) (99, 0)).2 = 6 := by decide +kernel
theorem kd_1_2 {r : Nat} (h : zkd r = 1) : zkd (r + 3) = 20 := (kf_1_2 r (zkd_hi (by omega)) h).1
theorem ln_1_2 {P : zP} {r : Nat} (h : zkd r = 1) : zln P (r + 3) = 6 := by
  have h1 := zkd_lt (r := r) (by omega)
  rw [zln_hi (by omega)]
  exact (kf_1_2 r (zkd_hi (by omega)) h).2
theorem kf_1_3 : ∀ r, r < 159 → zkd r = 1 → zkd (r + 4) = 20 ∧ (zkl.getD (r + 4 - 10) (99, 0)).2 = 6 := by decide +kernel
theorem kd_1_3 {r : Nat} (h : zkd r = 1) : zkd (r + 4) = 20 := (kf_1_3 r (zkd_hi (by omega)) h).1
theorem ln_1_3 {P : zP} {r : Nat} (h : zkd r = 1) : zln P (r + 4) = 6 := by
  have h1 := zkd_lt (r := r) (by omega)
  rw [zln_hi (by omega)]
  exact (kf_1_3 r (zkd_hi (by omega)) h).2
theorem kf_2_0 : ∀ r, r < 159 → zkd r = 2 → zkd (r + 1) = 20 ∧ (zkl.getD (r + 1 - 10) (99, 0)).2 = 81 := by decide +kernel
theorem kd_2_0 {r : Nat} (h : zkd r = 2) : zkd (r + 1) = 20 := (kf_2_0 r (zkd_hi (by omega)) h).1
theorem ln_2_0 {P : zP} {r : Nat} (h : zkd r = 2) : zln P (r + 1) = 81 := by
  have h1 := zkd_lt (r := r) (by omega)
  rw [zln_hi (by omega)]
  exact (kf_2_0 r (zkd_hi (by omega)) h).2
theorem kf_2_1 : ∀ r, r < 159 → zkd r = 2 → zkd (r + 2) = 20 ∧ (zkl.getD (r + 2 - 10) (99, 0)).2 = 16 := by decide +kernel
theorem kd_2_1 {r : Nat} (h : zkd r = 2) : zkd (r + 2) = 20 := (kf_2_1 r (zkd_hi (by omega)) h).1
theorem ln_2_1 {P : zP} {r : Nat} (h : zkd r = 2) : zln P (r + 2) = 16 := by
  have h1 := zkd_lt (r := r) (by omega)
  rw [zln_hi (by omega)]
  exact (kf_2_1 r (zkd_hi (by omega)) h).2
theorem kf_2_2 : ∀ r, r < 159 → zkd r = 2 → zkd (r + 3) = 20 ∧ (zkl.getD (r + 3 - 10) (99, 0)).2 = 9 := by decide +kernel
theorem kd_2_2 {r : Nat} (h : zkd r = 2) : zkd (r + 3) = 20 := (kf_2_2 r (zkd_hi (by omega)) h).1
theorem ln_2_2 {P : zP} {r : Nat} (h : zkd r = 2) : zln P (r + 3) = 9 := by
  have h1 := zkd_lt (r := r) (by omega)
  rw [zln_hi (by omega)]
  exact (kf_2_2 r (zkd_hi (by omega)) h).2
theorem kf_2_3 : ∀ r, r < 159 → zkd r = 2 → zkd (r + 4) = 20 ∧ (zkl.getD (r + 4 - 10) (99, 0)).2 = 9 := by decide +kernel
theorem kd_2_3 {r : Nat} (h : zkd r = 2) : zkd (r + 4) = 20 := (kf_2_3 r (zkd_hi (by omega)) h).1
theorem ln_2_3 {P : zP} {r : Nat} (h : zkd r = 2) : zln P (r + 4) = 9 := by
  have h1 := zkd_lt (r := r) (by omega)
  rw [zln_hi (by omega)]
  exact (kf_2_3 r (zkd_hi (by omega)) h).2
theorem kf_3_0 : ∀ r, r < 159 → zkd r = 3 → zkd (r + 1) = 21 ∧ (zkl.getD (r + 1 - 10) (99, 0)).2 = 40 := by decide +kernel
theorem kd_3_0 {r : Nat} (h : zkd r = 3) : zkd (r + 1) = 21 := (kf_3_0 r (zkd_hi (by omega)) h).1
theorem ln_3_0 {P : zP} {r : Nat} (h : zkd r = 3) : zln P (r + 1) = 40 := by
  have h1 := zkd_lt (r := r) (by omega)
  rw [zln_hi (by omega)]
  exact (kf_3_0 r (zkd_hi (by omega)) h).2
theorem kf_3_1 : ∀ r, r < 159 → zkd r = 3 → zkd (r + 2) = 21 ∧ (zkl.getD (r + 2 - 10) (99, 0)).2 = 40 := by decide +kernel
theorem kd_3_1 {r : Nat} (h : zkd r = 3) : zkd (r + 2) = 21 := (kf_3_1 r (zkd_hi (by omega)) h).1
theorem ln_3_1 {P : zP} {r : Nat} (h : zkd r = 3) : zln P (r + 2) = 40 := by
  have h1 := zkd_lt (r := r) (by omega)
  rw [zln_hi (by omega)]
  exact (kf_3_1 r (zkd_hi (by omega)) h).2
theorem kf_3_2 : ∀ r, r < 159 → zkd r = 3 → zkd (r + 3) = 20 ∧ (zkl.getD (r + 3 - 10) (99, 0)).2 = 40 := by decide +kernel
theorem kd_3_2 {r : Nat} (h : zkd r = 3) : zkd (r + 3) = 20 := (kf_3_2 r (zkd_hi (by omega)) h).1
theorem ln_3_2 {P : zP} {r : Nat} (h : zkd r = 3) : zln P (r + 3) = 40 := by
  have h1 := zkd_lt (r := r) (by omega)
  rw [zln_hi (by omega)]
  exact (kf_3_2 r (zkd_hi (by omega)) h).2
theorem kf_4_0 : ∀ r, r < 159 → zkd r = 4 → zkd (r + 1) = 21 ∧ (zkl.getD (r + 1 - 10) (99, 0)).2 = 5400 := by decide +kernel
theorem kd_4_0 {r : Nat} (h : zkd r = 4) : zkd (r + 1) = 21 := (kf_4_0 r (zkd_hi (by omega)) h).1
theorem ln_4_0 {P : zP} {r : Nat} (h : zkd r = 4) : zln P (r + 1) = 5400 := by
  have h1 := zkd_lt (r := r) (by omega)
  rw [zln_hi (by omega)]
  exact (kf_4_0 r (zkd_hi (by omega)) h).2
theorem kf_4_1 : ∀ r, r < 159 → zkd r = 4 → zkd (r + 2) = 20 ∧ (zkl.getD (r + 2 - 10) (99, 0)).2 = 5400 := by decide +kernel
theorem kd_4_1 {r : Nat} (h : zkd r = 4) : zkd (r + 2) = 20 := (kf_4_1 r (zkd_hi (by omega)) h).1
theorem ln_4_1 {P : zP} {r : Nat} (h : zkd r = 4) : zln P (r + 2) = 5400 := by
  have h1 := zkd_lt (r := r) (by omega)
  rw [zln_hi (by omega)]
  exact (kf_4_1 r (zkd_hi (by omega)) h).2
theorem kf_5_0 : ∀ r, r < 159 → zkd r = 5 → zkd (r + 1) = 20 ∧ (zkl.getD (r + 1 - 10) (99, 0)).2 = 8 := by decide +kernel
theorem kd_5_0 {r : Nat} (h : zkd r = 5) : zkd (r + 1) = 20 := (kf_5_0 r (zkd_hi (by omega)) h).1
theorem ln_5_0 {P : zP} {r : Nat} (h : zkd r = 5) : zln P (r + 1) = 8 := by
  have h1 := zkd_lt (r := r) (by omega)
  rw [zln_hi (by omega)]
  exact (kf_5_0 r (zkd_hi (by omega)) h).2
theorem kf_5_1 : ∀ r, r < 159 → zkd r = 5 → zkd (r + 2) = 20 ∧ (zkl.getD (r + 2 - 10) (99, 0)).2 = 9 := by decide +kernel
theorem kd_5_1 {r : Nat} (h : zkd r = 5) : zkd (r + 2) = 20 := (kf_5_1 r (zkd_hi (by omega)) h).1
theorem ln_5_1 {P : zP} {r : Nat} (h : zkd r = 5) : zln P (r + 2) = 9 := by
  have h1 := zkd_lt (r := r) (by omega)
  rw [zln_hi (by omega)]
  exact (kf_5_1 r (zkd_hi (by omega)) h).2
theorem kf_5_2 : ∀ r, r < 159 → zkd r = 5 → zkd (r + 3) = 20 ∧ (zkl.getD (r + 3 - 10) (99, 0)).2 = 9 := by decide +kernel
theorem kd_5_2 {r : Nat} (h : zkd r = 5) : zkd (r + 3) = 20 := (kf_5_2 r (zkd_hi (by omega)) h).1
theorem ln_5_2 {P : zP} {r : Nat} (h : zkd r = 5) : zln P (r + 3) = 9 := by
  have h1 := zkd_lt (r := r) (by omega)
  rw [zln_hi (by omega)]
  exact (kf_5_2 r (zkd_hi (by omega)) h).2
theorem kf_5_3 : ∀ r, r < 159 → zkd r = 5 → zkd (r + 4) = 20 ∧ (zkl.getD (r + 4 - 10) (99, 0)).2 = 8 := by decide +kernel
theorem kd_5_3 {r : Nat} (h : zkd r = 5) : zkd (r + 4) = 20 := (kf_5_3 r (zkd_hi (by omega)) h).1
theorem ln_5_3 {P : zP} {r : Nat} (h : zkd r = 5) : zln P (r + 4) = 8 := by
  have h1 := zkd_lt (r := r) (by omega)
  rw [zln_hi (by omega)]
  exact (kf_5_3 r (zkd_hi (by omega)) h).2
theorem kf_5_4 : ∀ r, r < 159 → zkd r = 5 → zkd (r + 5) = 20 ∧ (zkl.getD (r + 5 - 10) (99, 0)).2 = 8 := by decide +kernel
theorem kd_5_4 {r : Nat} (h : zkd r = 5) : zkd (r + 5) = 20 := (kf_5_4 r (zkd_hi (by omega)) h).1
theorem ln_5_4 {P : zP} {r : Nat} (h : zkd r = 5) : zln P (r + 5) = 8 := by
  have h1 := zkd_lt (r := r) (by omega)
  rw [zln_hi (by omega)]
  exact (kf_5_4 r (zkd_hi (by omega)) h).2
theorem kf_5_5 : ∀ r, r < 159 → zkd r = 5 → zkd (r + 6) = 20 ∧ (zkl.getD (r + 6 - 10) (99, 0)).2 = 24 := by decide +kernel
theorem kd_5_5 {r : Nat} (h : zkd r = 5) : zkd (r + 6) = 20 := (kf_5_5 r (zkd_hi (by omega)) h).1
theorem ln_5_5 {P : zP} {r : Nat} (h : zkd r = 5) : zln P (r + 6) = 24 := by
  have h1 := zkd_lt (r := r) (by omega)
  rw [zln_hi (by omega)]
  exact (kf_5_5 r (zkd_hi (by omega)) h).2
theorem kf_6_0 : ∀ r, r < 159 → zkd r = 6 → zkd (r + 1) = 3 ∧ (zkl.getD (r + 1 - 10) (99, 0)).2 = 4 := by decide +kernel
theorem kd_6_0 {r : Nat} (h : zkd r = 6) : zkd (r + 1) = 3 := (kf_6_0 r (zkd_hi (by omega)) h).1
theorem ln_6_0 {P : zP} {r : Nat} (h : zkd r = 6) : zln P (r + 1) = 4 := by
  have h1 := zkd_lt (r := r) (by omega)
  rw [zln_hi (by omega)]
  exact (kf_6_0 r (zkd_hi (by omega)) h).2
theorem kf_6_1 : ∀ r, r < 159 → zkd r = 6 → zkd (r + 5) = 20 ∧ (zkl.getD (r + 5 - 10) (99, 0)).2 = 1600 := by decide +kernel
theorem kd_6_1 {r : Nat} (h : zkd r = 6) : zkd (r + 5) = 20 := (kf_6_1 r (zkd_hi (by omega)) h).1
theorem ln_6_1 {P : zP} {r : Nat} (h : zkd r = 6) : zln P (r + 5) = 1600 := by
  have h1 := zkd_lt (r := r) (by omega)
  rw [zln_hi (by omega)]
  exact (kf_6_1 r (zkd_hi (by omega)) h).2
theorem kf_6_2 : ∀ r, r < 159 → zkd r = 6 → zkd (r + 6) = 20 ∧ (zkl.getD (r + 6 - 10) (99, 0)).2 = 8 := by decide +kernel
theorem kd_6_2 {r : Nat} (h : zkd r = 6) : zkd (r + 6) = 20 := (kf_6_2 r (zkd_hi (by omega)) h).1
theorem ln_6_2 {P : zP} {r : Nat} (h : zkd r = 6) : zln P (r + 6) = 8 := by
  have h1 := zkd_lt (r := r) (by omega)
  rw [zln_hi (by omega)]
  exact (kf_6_2 r (zkd_hi (by omega)) h).2
theorem kf_7_0 : ∀ r, r < 159 → zkd r = 7 → zkd (r + 1) = 20 ∧ (zkl.getD (r + 1 - 10) (99, 0)).2 = 12 := by decide +kernel
theorem kd_7_0 {r : Nat} (h : zkd r = 7) : zkd (r + 1) = 20 := (kf_7_0 r (zkd_hi (by omega)) h).1
theorem ln_7_0 {P : zP} {r : Nat} (h : zkd r = 7) : zln P (r + 1) = 12 := by
  have h1 := zkd_lt (r := r) (by omega)
  rw [zln_hi (by omega)]
  exact (kf_7_0 r (zkd_hi (by omega)) h).2
theorem kf_7_1 : ∀ r, r < 159 → zkd r = 7 → zkd (r + 2) = 21 ∧ (zkl.getD (r + 2 - 10) (99, 0)).2 = 96 := by decide +kernel
theorem kd_7_1 {r : Nat} (h : zkd r = 7) : zkd (r + 2) = 21 := (kf_7_1 r (zkd_hi (by omega)) h).1
theorem ln_7_1 {P : zP} {r : Nat} (h : zkd r = 7) : zln P (r + 2) = 96 := by
  have h1 := zkd_lt (r := r) (by omega)
  rw [zln_hi (by omega)]
  exact (kf_7_1 r (zkd_hi (by omega)) h).2
theorem kf_8_0 : ∀ r, r < 159 → zkd r = 8 → zkd (r + 1) = 21 ∧ (zkl.getD (r + 1 - 10) (99, 0)).2 = 2401 := by decide +kernel
theorem kd_8_0 {r : Nat} (h : zkd r = 8) : zkd (r + 1) = 21 := (kf_8_0 r (zkd_hi (by omega)) h).1
theorem ln_8_0 {P : zP} {r : Nat} (h : zkd r = 8) : zln P (r + 1) = 2401 := by
  have h1 := zkd_lt (r := r) (by omega)
  rw [zln_hi (by omega)]
  exact (kf_8_0 r (zkd_hi (by omega)) h).2
theorem kf_9_0 : ∀ r, r < 159 → zkd r = 9 → zkd (r + 1) = 0 ∧ (zkl.getD (r + 1 - 10) (99, 0)).2 = 7 := by decide +kernel
theorem kd_9_0 {r : Nat} (h : zkd r = 9) : zkd (r + 1) = 0 := (kf_9_0 r (zkd_hi (by omega)) h).1
theorem ln_9_0 {P : zP} {r : Nat} (h : zkd r = 9) : zln P (r + 1) = 7 := by
  have h1 := zkd_lt (r := r) (by omega)
  rw [zln_hi (by omega)]
  exact (kf_9_0 r (zkd_hi (by omega)) h).2
theorem kf_9_1 : ∀ r, r < 159 → zkd r = 9 → zkd (r + 16) = 7 ∧ (zkl.getD (r + 16 - 10) (99, 0)).2 = 3 := by decide +kernel
theorem kd_9_1 {r : Nat} (h : zkd r = 9) : zkd (r + 16) = 7 := (kf_9_1 r (zkd_hi (by omega)) h).1
theorem ln_9_1 {P : zP} {r : Nat} (h : zkd r = 9) : zln P (r + 16) = 3 := by
  have h1 := zkd_lt (r := r) (by omega)
  rw [zln_hi (by omega)]
  exact (kf_9_1 r (zkd_hi (by omega)) h).2
theorem kf_9_2 : ∀ r, r < 159 → zkd r = 9 → zkd (r + 19) = 7 ∧ (zkl.getD (r + 19 - 10) (99, 0)).2 = 3 := by decide +kernel
theorem kd_9_2 {r : Nat} (h : zkd r = 9) : zkd (r + 19) = 7 := (kf_9_2 r (zkd_hi (by omega)) h).1
theorem ln_9_2 {P : zP} {r : Nat} (h : zkd r = 9) : zln P (r + 19) = 3 := by
  have h1 := zkd_lt (r := r) (by omega)
  rw [zln_hi (by omega)]
  exact (kf_9_2 r (zkd_hi (by omega)) h).2
theorem kf_9_3 : ∀ r, r < 159 → zkd r = 9 → zkd (r + 22) = 23 ∧ (zkl.getD (r + 22 - 10) (99, 0)).2 = 2 := by decide +kernel
theorem kd_9_3 {r : Nat} (h : zkd r = 9) : zkd (r + 22) = 23 := (kf_9_3 r (zkd_hi (by omega)) h).1
theorem ln_9_3 {P : zP} {r : Nat} (h : zkd r = 9) : zln P (r + 22) = 2 := by
  have h1 := zkd_lt (r := r) (by omega)
  rw [zln_hi (by omega)]
  exact (kf_9_3 r (zkd_hi (by omega)) h).2
theorem kg_9_3 : ∀ r, r < 159 → zkd r = 9 → ∀ q, q < 2 → zkd (r + 22 + (1 + q)) = 20 ∧ (zkl.getD (r + 22 + (1 + q) - 10) (99, 0)).2 = 1600 := by decide +kernel
theorem kq_9_3 {r q : Nat} (h : zkd r = 9) (hq : q < 2) : zkd (r + 22 + (1 + q)) = 20 := (kg_9_3 r (zkd_hi (by omega)) h q hq).1
theorem lq_9_3 {P : zP} {r q : Nat} (h : zkd r = 9) (hq : q < 2) : zln P (r + 22 + (1 + q)) = 1600 := by
  have h1 := zkd_lt (r := r) (by omega)
  rw [zln_hi (by omega)]
  exact (kg_9_3 r (zkd_hi (by omega)) h q hq).2
theorem kf_9_4 : ∀ r, r < 159 → zkd r = 9 → zkd (r + 25) = 23 ∧ (zkl.getD (r + 25 - 10) (99, 0)).2 = 2 := by decide +kernel
theorem kd_9_4 {r : Nat} (h : zkd r = 9) : zkd (r + 25) = 23 := (kf_9_4 r (zkd_hi (by omega)) h).1
theorem ln_9_4 {P : zP} {r : Nat} (h : zkd r = 9) : zln P (r + 25) = 2 := by
  have h1 := zkd_lt (r := r) (by omega)
  rw [zln_hi (by omega)]
  exact (kf_9_4 r (zkd_hi (by omega)) h).2
theorem kg_9_4 : ∀ r, r < 159 → zkd r = 9 → ∀ q, q < 2 → zkd (r + 25 + (1 + q)) = 20 ∧ (zkl.getD (r + 25 + (1 + q) - 10) (99, 0)).2 = 8 := by decide +kernel
theorem kq_9_4 {r q : Nat} (h : zkd r = 9) (hq : q < 2) : zkd (r + 25 + (1 + q)) = 20 := (kg_9_4 r (zkd_hi (by omega)) h q hq).1
theorem lq_9_4 {P : zP} {r q : Nat} (h : zkd r = 9) (hq : q < 2) : zln P (r + 25 + (1 + q)) = 8 := by
  have h1 := zkd_lt (r := r) (by omega)
  rw [zln_hi (by omega)]
  exact (kg_9_4 r (zkd_hi (by omega)) h q hq).2
theorem kf_10_0 : ∀ r, r < 159 → zkd r = 10 → zkd (r + 1) = 20 ∧ (zkl.getD (r + 1 - 10) (99, 0)).2 = 240 := by decide +kernel
theorem kd_10_0 {r : Nat} (h : zkd r = 10) : zkd (r + 1) = 20 := (kf_10_0 r (zkd_hi (by omega)) h).1
theorem ln_10_0 {P : zP} {r : Nat} (h : zkd r = 10) : zln P (r + 1) = 240 := by
  have h1 := zkd_lt (r := r) (by omega)
  rw [zln_hi (by omega)]
  exact (kf_10_0 r (zkd_hi (by omega)) h).2
theorem kf_11_0 : ∀ r, r < 159 → zkd r = 11 → zkd (r + 1) = 10 ∧ (zkl.getD (r + 1 - 10) (99, 0)).2 = 5 := by decide +kernel
theorem kd_11_0 {r : Nat} (h : zkd r = 11) : zkd (r + 1) = 10 := (kf_11_0 r (zkd_hi (by omega)) h).1
theorem ln_11_0 {P : zP} {r : Nat} (h : zkd r = 11) : zln P (r + 1) = 5 := by
  have h1 := zkd_lt (r := r) (by omega)
  rw [zln_hi (by omega)]
  exact (kf_11_0 r (zkd_hi (by omega)) h).2
theorem kf_11_1 : ∀ r, r < 159 → zkd r = 11 → zkd (r + 3) = 9 ∧ (zkl.getD (r + 3 - 10) (99, 0)).2 = 8 := by decide +kernel
theorem kd_11_1 {r : Nat} (h : zkd r = 11) : zkd (r + 3) = 9 := (kf_11_1 r (zkd_hi (by omega)) h).1
theorem ln_11_1 {P : zP} {r : Nat} (h : zkd r = 11) : zln P (r + 3) = 8 := by
  have h1 := zkd_lt (r := r) (by omega)
  rw [zln_hi (by omega)]
  exact (kf_11_1 r (zkd_hi (by omega)) h).2
theorem kf_11_2 : ∀ r, r < 159 → zkd r = 11 → zkd (r + 31) = 9 ∧ (zkl.getD (r + 31 - 10) (99, 0)).2 = 8 := by decide +kernel
theorem kd_11_2 {r : Nat} (h : zkd r = 11) : zkd (r + 31) = 9 := (kf_11_2 r (zkd_hi (by omega)) h).1
theorem ln_11_2 {P : zP} {r : Nat} (h : zkd r = 11) : zln P (r + 31) = 8 := by
  have h1 := zkd_lt (r := r) (by omega)
  rw [zln_hi (by omega)]
  exact (kf_11_2 r (zkd_hi (by omega)) h).2
theorem kf_11_3 : ∀ r, r < 159 → zkd r = 11 → zkd (r + 59) = 9 ∧ (zkl.getD (r + 59 - 10) (99, 0)).2 = 8 := by decide +kernel
theorem kd_11_3 {r : Nat} (h : zkd r = 11) : zkd (r + 59) = 9 := (kf_11_3 r (zkd_hi (by omega)) h).1
theorem ln_11_3 {P : zP} {r : Nat} (h : zkd r = 11) : zln P (r + 59) = 8 := by
  have h1 := zkd_lt (r := r) (by omega)
  rw [zln_hi (by omega)]
  exact (kf_11_3 r (zkd_hi (by omega)) h).2
theorem kf_11_4 : ∀ r, r < 159 → zkd r = 11 → zkd (r + 87) = 7 ∧ (zkl.getD (r + 87 - 10) (99, 0)).2 = 3 := by decide +kernel
theorem kd_11_4 {r : Nat} (h : zkd r = 11) : zkd (r + 87) = 7 := (kf_11_4 r (zkd_hi (by omega)) h).1
theorem ln_11_4 {P : zP} {r : Nat} (h : zkd r = 11) : zln P (r + 87) = 3 := by
  have h1 := zkd_lt (r := r) (by omega)
  rw [zln_hi (by omega)]
  exact (kf_11_4 r (zkd_hi (by omega)) h).2
theorem kf_11_5 : ∀ r, r < 159 → zkd r = 11 → zkd (r + 90) = 7 ∧ (zkl.getD (r + 90 - 10) (99, 0)).2 = 3 := by decide +kernel
theorem kd_11_5 {r : Nat} (h : zkd r = 11) : zkd (r + 90) = 7 := (kf_11_5 r (zkd_hi (by omega)) h).1
theorem ln_11_5 {P : zP} {r : Nat} (h : zkd r = 11) : zln P (r + 90) = 3 := by
  have h1 := zkd_lt (r := r) (by omega)
  rw [zln_hi (by omega)]
  exact (kf_11_5 r (zkd_hi (by omega)) h).2
theorem kf_11_6 : ∀ r, r < 159 → zkd r = 11 → zkd (r + 93) = 2 ∧ (zkl.getD (r + 93 - 10) (99, 0)).2 = 7 := by decide +kernel
theorem kd_11_6 {r : Nat} (h : zkd r = 11) : zkd (r + 93) = 2 := (kf_11_6 r (zkd_hi (by omega)) h).1
theorem ln_11_6 {P : zP} {r : Nat} (h : zkd r = 11) : zln P (r + 93) = 7 := by
  have h1 := zkd_lt (r := r) (by omega)
  rw [zln_hi (by omega)]
  exact (kf_11_6 r (zkd_hi (by omega)) h).2
theorem kf_11_7 : ∀ r, r < 159 → zkd r = 11 → zkd (r + 98) = 6 ∧ (zkl.getD (r + 98 - 10) (99, 0)).2 = 3 := by decide +kernel
theorem kd_11_7 {r : Nat} (h : zkd r = 11) : zkd (r + 98) = 6 := (kf_11_7 r (zkd_hi (by omega)) h).1
theorem ln_11_7 {P : zP} {r : Nat} (h : zkd r = 11) : zln P (r + 98) = 3 := by
  have h1 := zkd_lt (r := r) (by omega)
  rw [zln_hi (by omega)]
  exact (kf_11_7 r (zkd_hi (by omega)) h).2
theorem kf_11_8 : ∀ r, r < 159 → zkd r = 11 → zkd (r + 105) = 1 ∧ (zkl.getD (r + 105 - 10) (99, 0)).2 = 6 := by decide +kernel
theorem kd_11_8 {r : Nat} (h : zkd r = 11) : zkd (r + 105) = 1 := (kf_11_8 r (zkd_hi (by omega)) h).1
theorem ln_11_8 {P : zP} {r : Nat} (h : zkd r = 11) : zln P (r + 105) = 6 := by
  have h1 := zkd_lt (r := r) (by omega)
  rw [zln_hi (by omega)]
  exact (kf_11_8 r (zkd_hi (by omega)) h).2
theorem kf_11_9 : ∀ r, r < 159 → zkd r = 11 → zkd (r + 110) = 8 ∧ (zkl.getD (r + 110 - 10) (99, 0)).2 = 4 := by decide +kernel
theorem kd_11_9 {r : Nat} (h : zkd r = 11) : zkd (r + 110) = 8 := (kf_11_9 r (zkd_hi (by omega)) h).1
theorem ln_11_9 {P : zP} {r : Nat} (h : zkd r = 11) : zln P (r + 110) = 4 := by
  have h1 := zkd_lt (r := r) (by omega)
  rw [zln_hi (by omega)]
  exact (kf_11_9 r (zkd_hi (by omega)) h).2
theorem kf_11_10 : ∀ r, r < 159 → zkd r = 11 → zkd (r + 112) = 4 ∧ (zkl.getD (r + 112 - 10) (99, 0)).2 = 3 := by decide +kernel
theorem kd_11_10 {r : Nat} (h : zkd r = 11) : zkd (r + 112) = 4 := (kf_11_10 r (zkd_hi (by omega)) h).1
theorem ln_11_10 {P : zP} {r : Nat} (h : zkd r = 11) : zln P (r + 112) = 3 := by
  have h1 := zkd_lt (r := r) (by omega)
  rw [zln_hi (by omega)]
  exact (kf_11_10 r (zkd_hi (by omega)) h).2
theorem kf_11_11 : ∀ r, r < 159 → zkd r = 11 → zkd (r + 115) = 5 ∧ (zkl.getD (r + 115 - 10) (99, 0)).2 = 9 := by decide +kernel
theorem kd_11_11 {r : Nat} (h : zkd r = 11) : zkd (r + 115) = 5 := (kf_11_11 r (zkd_hi (by omega)) h).1
theorem ln_11_11 {P : zP} {r : Nat} (h : zkd r = 11) : zln P (r + 115) = 9 := by
  have h1 := zkd_lt (r := r) (by omega)
  rw [zln_hi (by omega)]
  exact (kf_11_11 r (zkd_hi (by omega)) h).2
theorem kf_12_0 : ∀ r, r < 159 → zkd r = 12 → zkd (r + 1) = 20 ∧ (zkl.getD (r + 1 - 10) (99, 0)).2 = 18180 := by decide +kernel
theorem kd_12_0 {r : Nat} (h : zkd r = 12) : zkd (r + 1) = 20 := (kf_12_0 r (zkd_hi (by omega)) h).1
theorem ln_12_0 {P : zP} {r : Nat} (h : zkd r = 12) : zln P (r + 1) = 18180 := by
  have h1 := zkd_lt (r := r) (by omega)
  rw [zln_hi (by omega)]
  exact (kf_12_0 r (zkd_hi (by omega)) h).2
theorem kf_12_2 : ∀ r, r < 159 → zkd r = 12 → zkd (r + 2) = 22 ∧ (zkl.getD (r + 2 - 10) (99, 0)).2 = 240 := by decide +kernel
theorem kd_12_2 {r : Nat} (h : zkd r = 12) : zkd (r + 2) = 22 := (kf_12_2 r (zkd_hi (by omega)) h).1
theorem ln_12_2 {P : zP} {r : Nat} (h : zkd r = 12) : zln P (r + 2) = 240 := by
  have h1 := zkd_lt (r := r) (by omega)
  rw [zln_hi (by omega)]
  exact (kf_12_2 r (zkd_hi (by omega)) h).2
theorem kf_12_9 : ∀ r, r < 159 → zkd r = 12 → zkd (r + 3) = 20 ∧ (zkl.getD (r + 3 - 10) (99, 0)).2 = 8 := by decide +kernel
theorem kd_12_9 {r : Nat} (h : zkd r = 12) : zkd (r + 3) = 20 := (kf_12_9 r (zkd_hi (by omega)) h).1
theorem ln_12_9 {P : zP} {r : Nat} (h : zkd r = 12) : zln P (r + 3) = 8 := by
  have h1 := zkd_lt (r := r) (by omega)
  rw [zln_hi (by omega)]
  exact (kf_12_9 r (zkd_hi (by omega)) h).2
theorem kf_12_11 : ∀ r, r < 159 → zkd r = 12 → zkd (r + 4) = 20 ∧ (zkl.getD (r + 4 - 10) (99, 0)).2 = 16 := by decide +kernel
theorem kd_12_11 {r : Nat} (h : zkd r = 12) : zkd (r + 4) = 20 := (kf_12_11 r (zkd_hi (by omega)) h).1
theorem ln_12_11 {P : zP} {r : Nat} (h : zkd r = 12) : zln P (r + 4) = 16 := by
  have h1 := zkd_lt (r := r) (by omega)
  rw [zln_hi (by omega)]
  exact (kf_12_11 r (zkd_hi (by omega)) h).2
theorem kf_12_12 : ∀ r, r < 159 → zkd r = 12 → zkd (r + 5) = 20 ∧ (zkl.getD (r + 5 - 10) (99, 0)).2 = 16 := by decide +kernel
theorem kd_12_12 {r : Nat} (h : zkd r = 12) : zkd (r + 5) = 20 := (kf_12_12 r (zkd_hi (by omega)) h).1
theorem ln_12_12 {P : zP} {r : Nat} (h : zkd r = 12) : zln P (r + 5) = 16 := by
  have h1 := zkd_lt (r := r) (by omega)
  rw [zln_hi (by omega)]
  exact (kf_12_12 r (zkd_hi (by omega)) h).2
theorem kf_12_13 : ∀ r, r < 159 → zkd r = 12 → zkd (r + 6) = 20 ∧ (zkl.getD (r + 6 - 10) (99, 0)).2 = 16 := by decide +kernel
theorem kd_12_13 {r : Nat} (h : zkd r = 12) : zkd (r + 6) = 20 := (kf_12_13 r (zkd_hi (by omega)) h).1
theorem ln_12_13 {P : zP} {r : Nat} (h : zkd r = 12) : zln P (r + 6) = 16 := by
  have h1 := zkd_lt (r := r) (by omega)
  rw [zln_hi (by omega)]
  exact (kf_12_13 r (zkd_hi (by omega)) h).2
theorem kf_12_14 : ∀ r, r < 159 → zkd r = 12 → zkd (r + 7) = 20 ∧ (zkl.getD (r + 7 - 10) (99, 0)).2 = 16 := by decide +kernel
theorem kd_12_14 {r : Nat} (h : zkd r = 12) : zkd (r + 7) = 20 := (kf_12_14 r (zkd_hi (by omega)) h).1
theorem ln_12_14 {P : zP} {r : Nat} (h : zkd r = 12) : zln P (r + 7) = 16 := by
  have h1 := zkd_lt (r := r) (by omega)
  rw [zln_hi (by omega)]
  exact (kf_12_14 r (zkd_hi (by omega)) h).2
theorem kf_12_15 : ∀ r, r < 159 → zkd r = 12 → zkd (r + 8) = 20 ∧ (zkl.getD (r + 8 - 10) (99, 0)).2 = 2 := by decide +kernel
theorem kd_12_15 {r : Nat} (h : zkd r = 12) : zkd (r + 8) = 20 := (kf_12_15 r (zkd_hi (by omega)) h).1
theorem ln_12_15 {P : zP} {r : Nat} (h : zkd r = 12) : zln P (r + 8) = 2 := by
  have h1 := zkd_lt (r := r) (by omega)
  rw [zln_hi (by omega)]
  exact (kf_12_15 r (zkd_hi (by omega)) h).2
theorem kf_12_16 : ∀ r, r < 159 → zkd r = 12 → zkd (r + 9) = 20 ∧ (zkl.getD (r + 9 - 10) (99, 0)).2 = 81 := by decide +kernel
theorem kd_12_16 {r : Nat} (h : zkd r = 12) : zkd (r + 9) = 20 := (kf_12_16 r (zkd_hi (by omega)) h).1
theorem ln_12_16 {P : zP} {r : Nat} (h : zkd r = 12) : zln P (r + 9) = 81 := by
  have h1 := zkd_lt (r := r) (by omega)
  rw [zln_hi (by omega)]
  exact (kf_12_16 r (zkd_hi (by omega)) h).2
theorem kf_12_17 : ∀ r, r < 159 → zkd r = 12 → zkd (r + 10) = 20 ∧ (zkl.getD (r + 10 - 10) (99, 0)).2 = 81 := by decide +kernel
theorem kd_12_17 {r : Nat} (h : zkd r = 12) : zkd (r + 10) = 20 := (kf_12_17 r (zkd_hi (by omega)) h).1
theorem ln_12_17 {P : zP} {r : Nat} (h : zkd r = 12) : zln P (r + 10) = 81 := by
  have h1 := zkd_lt (r := r) (by omega)
  rw [zln_hi (by omega)]
  exact (kf_12_17 r (zkd_hi (by omega)) h).2
theorem kf_12_18 : ∀ r, r < 159 → zkd r = 12 → zkd (r + 11) = 21 ∧ (zkl.getD (r + 11 - 10) (99, 0)).2 = 40 := by decide +kernel
theorem kd_12_18 {r : Nat} (h : zkd r = 12) : zkd (r + 11) = 21 := (kf_12_18 r (zkd_hi (by omega)) h).1
theorem ln_12_18 {P : zP} {r : Nat} (h : zkd r = 12) : zln P (r + 11) = 40 := by
  have h1 := zkd_lt (r := r) (by omega)
  rw [zln_hi (by omega)]
  exact (kf_12_18 r (zkd_hi (by omega)) h).2
theorem kf_12_19 : ∀ r, r < 159 → zkd r = 12 → zkd (r + 12) = 21 ∧ (zkl.getD (r + 12 - 10) (99, 0)).2 = 40 := by decide +kernel
theorem kd_12_19 {r : Nat} (h : zkd r = 12) : zkd (r + 12) = 21 := (kf_12_19 r (zkd_hi (by omega)) h).1
theorem ln_12_19 {P : zP} {r : Nat} (h : zkd r = 12) : zln P (r + 12) = 40 := by
  have h1 := zkd_lt (r := r) (by omega)
  rw [zln_hi (by omega)]
  exact (kf_12_19 r (zkd_hi (by omega)) h).2
theorem kf_12_20 : ∀ r, r < 159 → zkd r = 12 → zkd (r + 13) = 20 ∧ (zkl.getD (r + 13 - 10) (99, 0)).2 = 40 := by decide +kernel
theorem kd_12_20 {r : Nat} (h : zkd r = 12) : zkd (r + 13) = 20 := (kf_12_20 r (zkd_hi (by omega)) h).1
theorem ln_12_20 {P : zP} {r : Nat} (h : zkd r = 12) : zln P (r + 13) = 40 := by
  have h1 := zkd_lt (r := r) (by omega)
  rw [zln_hi (by omega)]
  exact (kf_12_20 r (zkd_hi (by omega)) h).2
theorem kf_12_21 : ∀ r, r < 159 → zkd r = 12 → zkd (r + 14) = 20 ∧ (zkl.getD (r + 14 - 10) (99, 0)).2 = 64 := by decide +kernel
theorem kd_12_21 {r : Nat} (h : zkd r = 12) : zkd (r + 14) = 20 := (kf_12_21 r (zkd_hi (by omega)) h).1
theorem ln_12_21 {P : zP} {r : Nat} (h : zkd r = 12) : zln P (r + 14) = 64 := by
  have h1 := zkd_lt (r := r) (by omega)
  rw [zln_hi (by omega)]
  exact (kf_12_21 r (zkd_hi (by omega)) h).2
theorem kf_12_22 : ∀ r, r < 159 → zkd r = 12 → zkd (r + 15) = 20 ∧ (zkl.getD (r + 15 - 10) (99, 0)).2 = 1600 := by decide +kernel
theorem kd_12_22 {r : Nat} (h : zkd r = 12) : zkd (r + 15) = 20 := (kf_12_22 r (zkd_hi (by omega)) h).1
theorem ln_12_22 {P : zP} {r : Nat} (h : zkd r = 12) : zln P (r + 15) = 1600 := by
  have h1 := zkd_lt (r := r) (by omega)
  rw [zln_hi (by omega)]
  exact (kf_12_22 r (zkd_hi (by omega)) h).2
theorem kf_12_23 : ∀ r, r < 159 → zkd r = 12 → zkd (r + 16) = 20 ∧ (zkl.getD (r + 16 - 10) (99, 0)).2 = 8 := by decide +kernel
theorem kd_12_23 {r : Nat} (h : zkd r = 12) : zkd (r + 16) = 20 := (kf_12_23 r (zkd_hi (by omega)) h).1
theorem ln_12_23 {P : zP} {r : Nat} (h : zkd r = 12) : zln P (r + 16) = 8 := by
  have h1 := zkd_lt (r := r) (by omega)
  rw [zln_hi (by omega)]
  exact (kf_12_23 r (zkd_hi (by omega)) h).2
theorem kf_12_24 : ∀ r, r < 159 → zkd r = 12 → zkd (r + 17) = 20 ∧ (zkl.getD (r + 17 - 10) (99, 0)).2 = 6 := by decide +kernel
theorem kd_12_24 {r : Nat} (h : zkd r = 12) : zkd (r + 17) = 20 := (kf_12_24 r (zkd_hi (by omega)) h).1
theorem ln_12_24 {P : zP} {r : Nat} (h : zkd r = 12) : zln P (r + 17) = 6 := by
  have h1 := zkd_lt (r := r) (by omega)
  rw [zln_hi (by omega)]
  exact (kf_12_24 r (zkd_hi (by omega)) h).2
theorem kf_12_25 : ∀ r, r < 159 → zkd r = 12 → zkd (r + 18) = 20 ∧ (zkl.getD (r + 18 - 10) (99, 0)).2 = 6 := by decide +kernel
theorem kd_12_25 {r : Nat} (h : zkd r = 12) : zkd (r + 18) = 20 := (kf_12_25 r (zkd_hi (by omega)) h).1
theorem ln_12_25 {P : zP} {r : Nat} (h : zkd r = 12) : zln P (r + 18) = 6 := by
  have h1 := zkd_lt (r := r) (by omega)
  rw [zln_hi (by omega)]
  exact (kf_12_25 r (zkd_hi (by omega)) h).2
theorem kf_12_26 : ∀ r, r < 159 → zkd r = 12 → zkd (r + 19) = 20 ∧ (zkl.getD (r + 19 - 10) (99, 0)).2 = 6 := by decide +kernel
theorem kd_12_26 {r : Nat} (h : zkd r = 12) : zkd (r + 19) = 20 := (kf_12_26 r (zkd_hi (by omega)) h).1
theorem ln_12_26 {P : zP} {r : Nat} (h : zkd r = 12) : zln P (r + 19) = 6 := by
  have h1 := zkd_lt (r := r) (by omega)
  rw [zln_hi (by omega)]
  exact (kf_12_26 r (zkd_hi (by omega)) h).2
theorem kf_12_27 : ∀ r, r < 159 → zkd r = 12 → zkd (r + 20) = 21 ∧ (zkl.getD (r + 20 - 10) (99, 0)).2 = 1296 := by decide +kernel
theorem kd_12_27 {r : Nat} (h : zkd r = 12) : zkd (r + 20) = 21 := (kf_12_27 r (zkd_hi (by omega)) h).1
theorem ln_12_27 {P : zP} {r : Nat} (h : zkd r = 12) : zln P (r + 20) = 1296 := by
  have h1 := zkd_lt (r := r) (by omega)
  rw [zln_hi (by omega)]
  exact (kf_12_27 r (zkd_hi (by omega)) h).2
theorem kf_12_28 : ∀ r, r < 159 → zkd r = 12 → zkd (r + 21) = 21 ∧ (zkl.getD (r + 21 - 10) (99, 0)).2 = 5400 := by decide +kernel
theorem kd_12_28 {r : Nat} (h : zkd r = 12) : zkd (r + 21) = 21 := (kf_12_28 r (zkd_hi (by omega)) h).1
theorem ln_12_28 {P : zP} {r : Nat} (h : zkd r = 12) : zln P (r + 21) = 5400 := by
  have h1 := zkd_lt (r := r) (by omega)
  rw [zln_hi (by omega)]
  exact (kf_12_28 r (zkd_hi (by omega)) h).2
theorem kf_12_29 : ∀ r, r < 159 → zkd r = 12 → zkd (r + 22) = 20 ∧ (zkl.getD (r + 22 - 10) (99, 0)).2 = 5400 := by decide +kernel
theorem kd_12_29 {r : Nat} (h : zkd r = 12) : zkd (r + 22) = 20 := (kf_12_29 r (zkd_hi (by omega)) h).1
theorem ln_12_29 {P : zP} {r : Nat} (h : zkd r = 12) : zln P (r + 22) = 5400 := by
  have h1 := zkd_lt (r := r) (by omega)
  rw [zln_hi (by omega)]
  exact (kf_12_29 r (zkd_hi (by omega)) h).2
theorem kf_12_31 : ∀ r, r < 159 → zkd r = 12 → zkd (r + 23) = 20 ∧ (zkl.getD (r + 23 - 10) (99, 0)).2 = 8 := by decide +kernel
theorem kd_12_31 {r : Nat} (h : zkd r = 12) : zkd (r + 23) = 20 := (kf_12_31 r (zkd_hi (by omega)) h).1
theorem ln_12_31 {P : zP} {r : Nat} (h : zkd r = 12) : zln P (r + 23) = 8 := by
  have h1 := zkd_lt (r := r) (by omega)
  rw [zln_hi (by omega)]
  exact (kf_12_31 r (zkd_hi (by omega)) h).2
theorem kf_12_32 : ∀ r, r < 159 → zkd r = 12 → zkd (r + 24) = 20 ∧ (zkl.getD (r + 24 - 10) (99, 0)).2 = 9 := by decide +kernel
theorem kd_12_32 {r : Nat} (h : zkd r = 12) : zkd (r + 24) = 20 := (kf_12_32 r (zkd_hi (by omega)) h).1
theorem ln_12_32 {P : zP} {r : Nat} (h : zkd r = 12) : zln P (r + 24) = 9 := by
  have h1 := zkd_lt (r := r) (by omega)
  rw [zln_hi (by omega)]
  exact (kf_12_32 r (zkd_hi (by omega)) h).2
theorem kf_12_33 : ∀ r, r < 159 → zkd r = 12 → zkd (r + 25) = 20 ∧ (zkl.getD (r + 25 - 10) (99, 0)).2 = 9 := by decide +kernel
theorem kd_12_33 {r : Nat} (h : zkd r = 12) : zkd (r + 25) = 20 := (kf_12_33 r (zkd_hi (by omega)) h).1
theorem ln_12_33 {P : zP} {r : Nat} (h : zkd r = 12) : zln P (r + 25) = 9 := by
  have h1 := zkd_lt (r := r) (by omega)
  rw [zln_hi (by omega)]
  exact (kf_12_33 r (zkd_hi (by omega)) h).2
theorem kf_12_34 : ∀ r, r < 159 → zkd r = 12 → zkd (r + 26) = 20 ∧ (zkl.getD (r + 26 - 10) (99, 0)).2 = 9 := by decide +kernel
theorem kd_12_34 {r : Nat} (h : zkd r = 12) : zkd (r + 26) = 20 := (kf_12_34 r (zkd_hi (by omega)) h).1
theorem ln_12_34 {P : zP} {r : Nat} (h : zkd r = 12) : zln P (r + 26) = 9 := by
  have h1 := zkd_lt (r := r) (by omega)
  rw [zln_hi (by omega)]
  exact (kf_12_34 r (zkd_hi (by omega)) h).2
theorem kd_s {r : Nat} (h : r = 1 ∨ r = 2 ∨ r = 3) : zkd r = 30 := by rcases h with rfl | rfl | rfl <;> rfl
theorem ln_s {P : zP} {r : Nat} (h : r = 1 ∨ r = 2 ∨ r = 3) : zln P r = 5 := by rcases h with rfl | rfl | rfl <;> rfl
theorem sm_0 : zsm 0 = true := rfl
theorem cT_0 : (zT 0).1 = zc_0 := rfl
theorem rv_0 : (zme 0).2.1 = 1 := rfl
theorem sm_1 : zsm 1 = true := rfl
theorem cT_1 : (zT 1).1 = zc_1 := rfl
theorem rv_1 : (zme 1).2.1 = 3 := rfl
theorem sm_2 : zsm 2 = true := rfl
theorem cT_2 : (zT 2).1 = zc_2 := rfl
theorem rv_2 : (zme 2).2.1 = 1 := rfl
theorem sm_3 : zsm 3 = true := rfl
theorem cT_3 : (zT 3).1 = zc_3 := rfl
theorem rv_3 : (zme 3).2.1 = 1 := rfl
theorem sm_4 : zsm 4 = true := rfl
theorem cT_4 : (zT 4).1 = zc_4 := rfl
theorem rv_4 : (zme 4).2.1 = 3 := rfl
theorem sm_5 : zsm 5 = true := rfl
theorem cT_5 : (zT 5).1 = zc_5 := rfl
theorem rv_5 : (zme 5).2.1 = 1 := rfl
theorem sm_6 : zsm 6 = true := rfl
theorem cT_6 : (zT 6).1 = zc_6 := rfl
theorem rv_6 : (zme 6).2.1 = 1 := rfl
theorem sm_7 : zsm 7 = true := rfl
theorem cT_7 : (zT 7).1 = zc_7 := rfl
theorem rv_7 : (zme 7).2.1 = 1 := rfl
theorem sm_8 : zsm 8 = true := rfl
theorem cT_8 : (zT 8).1 = zc_8 := rfl
theorem rv_8 : (zme 8).2.1 = 1 := rfl
theorem sm_9 : zsm 9 = true := rfl
theorem cT_9 : (zT 9).1 = zc_9 := rfl
theorem rv_9 : (zme 9).2.1 = 3 := rfl
theorem sm_10 : zsm 10 = true := rfl
theorem cT_10 : (zT 10).1 = zc_10 := rfl
theorem rv_10 : (zme 10).2.1 = 1 := rfl
theorem sm_11 : zsm 11 = true := rfl
theorem cT_11 : (zT 11).1 = zc_11 := rfl
theorem rv_11 : (zme 11).2.1 = 1 := rfl
theorem sm_12 : zsm 12 = true := rfl
theorem cT_12 : (zT 12).1 = zc_12 := rfl
theorem rv_12 : (zme 12).2.1 = 1 := rfl
theorem sm_13 : zsm 13 = true := rfl
theorem cT_13 : (zT 13).1 = zc_13 := rfl
theorem rv_13 : (zme 13).2.1 = 2 := rfl
theorem sm_14 : zsm 14 = true := rfl
theorem cT_14 : (zT 14).1 = zc_14 := rfl
theorem rv_14 : (zme 14).2.1 = 0 := rfl
theorem sm_15 : zsm 15 = true := rfl
theorem cT_15 : (zT 15).1 = zc_15 := rfl
theorem rv_15 : (zme 15).2.1 = 0 := rfl
theorem sm_16 : zsm 16 = true := rfl
theorem cT_16 : (zT 16).1 = zc_16 := rfl
theorem rv_16 : (zme 16).2.1 = 1 := rfl
theorem sm_17 : zsm 17 = true := rfl
theorem cT_17 : (zT 17).1 = zc_17 := rfl
theorem rv_17 : (zme 17).2.1 = 0 := rfl
theorem sm_18 : zsm 18 = true := rfl
theorem cT_18 : (zT 18).1 = zc_18 := rfl
theorem rv_18 : (zme 18).2.1 = 1 := rfl
theorem sm_19 : zsm 19 = true := rfl
theorem cT_19 : (zT 19).1 = zc_19 := rfl
theorem rv_19 : (zme 19).2.1 = 1 := rfl
theorem sm_20 : zsm 20 = true := rfl
theorem cT_20 : (zT 20).1 = zc_20 := rfl
theorem rv_20 : (zme 20).2.1 = 1 := rfl
theorem sm_21 : zsm 21 = true := rfl
theorem cT_21 : (zT 21).1 = zc_21 := rfl
theorem rv_21 : (zme 21).2.1 = 0 := rfl
theorem sm_22 : zsm 22 = true := rfl
theorem cT_22 : (zT 22).1 = zc_22 := rfl
theorem rv_22 : (zme 22).2.1 = 0 := rfl
theorem sm_23 : zsm 23 = true := rfl
theorem cT_23 : (zT 23).1 = zc_23 := rfl
theorem rv_23 : (zme 23).2.1 = 1 := rfl
theorem sm_24 : zsm 24 = true := rfl
theorem cT_24 : (zT 24).1 = zc_24 := rfl
theorem rv_24 : (zme 24).2.1 = 0 := rfl
theorem sm_25 : zsm 25 = true := rfl
theorem cT_25 : (zT 25).1 = zc_25 := rfl
theorem rv_25 : (zme 25).2.1 = 1 := rfl
theorem sm_26 : zsm 26 = true := rfl
theorem cT_26 : (zT 26).1 = zc_26 := rfl
theorem rv_26 : (zme 26).2.1 = 0 := rfl
theorem sm_27 : zsm 27 = true := rfl
theorem cT_27 : (zT 27).1 = zc_27 := rfl
theorem rv_27 : (zme 27).2.1 = 0 := rfl
theorem sm_28 : zsm 28 = true := rfl
theorem cT_28 : (zT 28).1 = zc_28 := rfl
theorem rv_28 : (zme 28).2.1 = 1 := rfl
theorem sm_29 : zsm 29 = true := rfl
theorem cT_29 : (zT 29).1 = zc_29 := rfl
theorem rv_29 : (zme 29).2.1 = 1 := rfl
theorem sm_30 : zsm 30 = true := rfl
theorem cT_30 : (zT 30).1 = zc_30 := rfl
theorem rv_30 : (zme 30).2.1 = 3 := rfl
theorem sm_31 : zsm 31 = true := rfl
theorem cT_31 : (zT 31).1 = zc_31 := rfl
theorem rv_31 : (zme 31).2.1 = 1 := rfl
theorem sm_32 : zsm 32 = true := rfl
theorem cT_32 : (zT 32).1 = zc_32 := rfl
theorem rv_32 : (zme 32).2.1 = 1 := rfl
theorem sm_33 : zsm 33 = true := rfl
theorem cT_33 : (zT 33).1 = zc_33 := rfl
theorem rv_33 : (zme 33).2.1 = 1 := rfl
theorem sm_34 : zsm 34 = true := rfl
theorem cT_34 : (zT 34).1 = zc_34 := rfl
theorem rv_34 : (zme 34).2.1 = 0 := rfl
theorem sm_35 : zsm 35 = true := rfl
theorem cT_35 : (zT 35).1 = zc_35 := rfl
theorem rv_35 : (zme 35).2.1 = 1 := rfl
theorem sm_36 : zsm 36 = true := rfl
theorem cT_36 : (zT 36).1 = zc_36 := rfl
theorem rv_36 : (zme 36).2.1 = 0 := rfl
theorem sm_37 : zsm 37 = true := rfl
theorem cT_37 : (zT 37).1 = zc_37 := rfl
theorem rv_37 : (zme 37).2.1 = 3 := rfl
theorem sm_38 : zsm 38 = true := rfl
theorem cT_38 : (zT 38).1 = zc_38 := rfl
theorem rv_38 : (zme 38).2.1 = 1 := rfl
theorem sm_39 : zsm 39 = true := rfl
theorem cT_39 : (zT 39).1 = zc_39 := rfl
theorem rv_39 : (zme 39).2.1 = 3 := rfl
theorem sm_40 : zsm 40 = true := rfl
theorem cT_40 : (zT 40).1 = zc_40 := rfl
theorem rv_40 : (zme 40).2.1 = 1 := rfl
theorem sm_41 : zsm 41 = true := rfl
theorem cT_41 : (zT 41).1 = zc_41 := rfl
theorem rv_41 : (zme 41).2.1 = 3 := rfl
theorem sm_42 : zsm 42 = true := rfl
theorem cT_42 : (zT 42).1 = zc_42 := rfl
theorem rv_42 : (zme 42).2.1 = 0 := rfl
theorem sm_43 : zsm 43 = true := rfl
theorem cT_43 : (zT 43).1 = zc_43 := rfl
theorem rv_43 : (zme 43).2.1 = 3 := rfl
theorem sm_44 : zsm 44 = true := rfl
theorem cT_44 : (zT 44).1 = zc_44 := rfl
theorem rv_44 : (zme 44).2.1 = 3 := rfl
theorem sm_45 : zsm 45 = true := rfl
theorem cT_45 : (zT 45).1 = zc_45 := rfl
theorem rv_45 : (zme 45).2.1 = 3 := rfl
theorem sm_46 : zsm 46 = true := rfl
theorem cT_46 : (zT 46).1 = zc_46 := rfl
theorem rv_46 : (zme 46).2.1 = 1 := rfl
theorem sm_47 : zsm 47 = true := rfl
theorem cT_47 : (zT 47).1 = zc_47 := rfl
theorem rv_47 : (zme 47).2.1 = 1 := rfl
theorem sm_48 : zsm 48 = true := rfl
theorem cT_48 : (zT 48).1 = zc_48 := rfl
theorem rv_48 : (zme 48).2.1 = 3 := rfl
theorem sm_49 : zsm 49 = true := rfl
theorem cT_49 : (zT 49).1 = zc_49 := rfl
theorem rv_49 : (zme 49).2.1 = 2 := rfl
theorem sm_50 : zsm 50 = true := rfl
theorem cT_50 : (zT 50).1 = zc_50 := rfl
theorem rv_50 : (zme 50).2.1 = 0 := rfl
theorem sm_51 : zsm 51 = true := rfl
theorem cT_51 : (zT 51).1 = zc_51 := rfl
theorem rv_51 : (zme 51).2.1 = 1 := rfl
theorem sm_52 : zsm 52 = true := rfl
theorem cT_52 : (zT 52).1 = zc_52 := rfl
theorem rv_52 : (zme 52).2.1 = 0 := rfl
theorem sm_53 : zsm 53 = true := rfl
theorem cT_53 : (zT 53).1 = zc_53 := rfl
theorem rv_53 : (zme 53).2.1 = 3 := rfl
theorem sm_54 : zsm 54 = true := rfl
theorem cT_54 : (zT 54).1 = zc_54 := rfl
theorem rv_54 : (zme 54).2.1 = 1 := rfl
theorem sm_55 : zsm 55 = true := rfl
theorem cT_55 : (zT 55).1 = zc_55 := rfl
theorem rv_55 : (zme 55).2.1 = 3 := rfl
theorem sm_56 : zsm 56 = true := rfl
theorem cT_56 : (zT 56).1 = zc_56 := rfl
theorem rv_56 : (zme 56).2.1 = 0 := rfl
theorem sm_57 : zsm 57 = true := rfl
theorem cT_57 : (zT 57).1 = zc_57 := rfl
theorem rv_57 : (zme 57).2.1 = 1 := rfl
theorem sm_58 : zsm 58 = true := rfl
theorem cT_58 : (zT 58).1 = zc_58 := rfl
theorem rv_58 : (zme 58).2.1 = 1 := rfl
theorem sm_59 : zsm 59 = true := rfl
theorem cT_59 : (zT 59).1 = zc_59 := rfl
theorem rv_59 : (zme 59).2.1 = 1 := rfl
theorem sm_60 : zsm 60 = true := rfl
theorem cT_60 : (zT 60).1 = zc_60 := rfl
theorem rv_60 : (zme 60).2.1 = 1 := rfl
theorem sm_61 : zsm 61 = true := rfl
theorem cT_61 : (zT 61).1 = zc_61 := rfl
theorem rv_61 : (zme 61).2.1 = 1 := rfl
theorem sm_62 : zsm 62 = true := rfl
theorem cT_62 : (zT 62).1 = zc_62 := rfl
theorem rv_62 : (zme 62).2.1 = 1 := rfl
theorem sm_63 : zsm 63 = true := rfl
theorem cT_63 : (zT 63).1 = zc_63 := rfl
theorem rv_63 : (zme 63).2.1 = 1 := rfl
theorem sm_64 : zsm 64 = true := rfl
theorem cT_64 : (zT 64).1 = zc_64 := rfl
theorem rv_64 : (zme 64).2.1 = 0 := rfl
theorem sm_65 : zsm 65 = true := rfl
theorem cT_65 : (zT 65).1 = zc_65 := rfl
theorem rv_65 : (zme 65).2.1 = 1 := rfl
theorem sm_66 : zsm 66 = true := rfl
theorem cT_66 : (zT 66).1 = zc_66 := rfl
theorem rv_66 : (zme 66).2.1 = 1 := rfl
theorem sm_67 : zsm 67 = true := rfl
theorem cT_67 : (zT 67).1 = zc_67 := rfl
theorem rv_67 : (zme 67).2.1 = 0 := rfl
theorem sm_68 : zsm 68 = true := rfl
theorem cT_68 : (zT 68).1 = zc_68 := rfl
theorem rv_68 : (zme 68).2.1 = 3 := rfl
theorem sm_69 : zsm 69 = true := rfl
theorem cT_69 : (zT 69).1 = zc_69 := rfl
theorem rv_69 : (zme 69).2.1 = 1 := rfl
theorem sm_70 : zsm 70 = true := rfl
theorem cT_70 : (zT 70).1 = zc_70 := rfl
theorem rv_70 : (zme 70).2.1 = 0 := rfl
theorem sm_71 : zsm 71 = true := rfl
theorem cT_71 : (zT 71).1 = zc_71 := rfl
theorem rv_71 : (zme 71).2.1 = 1 := rfl
theorem sm_72 : zsm 72 = true := rfl
theorem cT_72 : (zT 72).1 = zc_72 := rfl
theorem rv_72 : (zme 72).2.1 = 1 := rfl
theorem sm_73 : zsm 73 = true := rfl
theorem cT_73 : (zT 73).1 = zc_73 := rfl
theorem rv_73 : (zme 73).2.1 = 1 := rfl
theorem sm_74 : zsm 74 = true := rfl
theorem cT_74 : (zT 74).1 = zc_74 := rfl
theorem rv_74 : (zme 74).2.1 = 0 := rfl
theorem sm_75 : zsm 75 = true := rfl
theorem cT_75 : (zT 75).1 = zc_75 := rfl
theorem rv_75 : (zme 75).2.1 = 1 := rfl
theorem sm_76 : zsm 76 = true := rfl
theorem cT_76 : (zT 76).1 = zc_76 := rfl
theorem rv_76 : (zme 76).2.1 = 1 := rfl
theorem sm_77 : zsm 77 = true := rfl
theorem cT_77 : (zT 77).1 = zc_77 := rfl
theorem rv_77 : (zme 77).2.1 = 1 := rfl
theorem sm_78 : zsm 78 = true := rfl
theorem cT_78 : (zT 78).1 = zc_78 := rfl
theorem rv_78 : (zme 78).2.1 = 0 := rfl
theorem sm_79 : zsm 79 = true := rfl
theorem cT_79 : (zT 79).1 = zc_79 := rfl
theorem rv_79 : (zme 79).2.1 = 1 := rfl
theorem sm_80 : zsm 80 = true := rfl
theorem cT_80 : (zT 80).1 = zc_80 := rfl
theorem rv_80 : (zme 80).2.1 = 1 := rfl
theorem sm_81 : zsm 81 = true := rfl
theorem cT_81 : (zT 81).1 = zc_81 := rfl
theorem rv_81 : (zme 81).2.1 = 1 := rfl
theorem sm_82 : zsm 82 = true := rfl
theorem cT_82 : (zT 82).1 = zc_82 := rfl
theorem rv_82 : (zme 82).2.1 = 1 := rfl
theorem sm_83 : zsm 83 = true := rfl
theorem cT_83 : (zT 83).1 = zc_83 := rfl
theorem rv_83 : (zme 83).2.1 = 3 := rfl
theorem sm_84 : zsm 84 = true := rfl
theorem cT_84 : (zT 84).1 = zc_84 := rfl
theorem rv_84 : (zme 84).2.1 = 1 := rfl
theorem sm_85 : zsm 85 = true := rfl
theorem cT_85 : (zT 85).1 = zc_85 := rfl
theorem rv_85 : (zme 85).2.1 = 1 := rfl
theorem sm_86 : zsm 86 = true := rfl
theorem cT_86 : (zT 86).1 = zc_86 := rfl
theorem rv_86 : (zme 86).2.1 = 0 := rfl
theorem sm_87 : zsm 87 = true := rfl
theorem cT_87 : (zT 87).1 = zc_87 := rfl
theorem rv_87 : (zme 87).2.1 = 0 := rfl
theorem sm_89 : zsm 89 = true := rfl
theorem cT_89 : (zT 89).1 = zc_89 := rfl
theorem rv_89 : (zme 89).2.1 = 0 := rfl
theorem sm_90 : zsm 90 = true := rfl
theorem cT_90 : (zT 90).1 = zc_90 := rfl
theorem rv_90 : (zme 90).2.1 = 1 := rfl
theorem sm_91 : zsm 91 = true := rfl
theorem cT_91 : (zT 91).1 = zc_91 := rfl
theorem rv_91 : (zme 91).2.1 = 0 := rfl
theorem sm_92 : zsm 92 = true := rfl
theorem cT_92 : (zT 92).1 = zc_92 := rfl
theorem rv_92 : (zme 92).2.1 = 1 := rfl
theorem sm_93 : zsm 93 = true := rfl
theorem cT_93 : (zT 93).1 = zc_93 := rfl
theorem rv_93 : (zme 93).2.1 = 1 := rfl
theorem sm_95 : zsm 95 = true := rfl
theorem cT_95 : (zT 95).1 = zc_95 := rfl
theorem rv_95 : (zme 95).2.1 = 1 := rfl
theorem sm_96 : zsm 96 = true := rfl
theorem cT_96 : (zT 96).1 = zc_96 := rfl
theorem rv_96 : (zme 96).2.1 = 3 := rfl
theorem sm_97 : zsm 97 = true := rfl
theorem cT_97 : (zT 97).1 = zc_97 := rfl
theorem rv_97 : (zme 97).2.1 = 3 := rfl
theorem sm_98 : zsm 98 = true := rfl
theorem cT_98 : (zT 98).1 = zc_98 := rfl
theorem rv_98 : (zme 98).2.1 = 1 := rfl
theorem sm_99 : zsm 99 = true := rfl
theorem cT_99 : (zT 99).1 = zc_99 := rfl
theorem rv_99 : (zme 99).2.1 = 1 := rfl
theorem sm_101 : zsm 101 = true := rfl
theorem cT_101 : (zT 101).1 = zc_101 := rfl
theorem rv_101 : (zme 101).2.1 = 1 := rfl
theorem sm_103 : zsm 103 = true := rfl
theorem cT_103 : (zT 103).1 = zc_103 := rfl
theorem rv_103 : (zme 103).2.1 = 0 := rfl
theorem sm_105 : zsm 105 = true := rfl
theorem cT_105 : (zT 105).1 = zc_105 := rfl
theorem rv_105 : (zme 105).2.1 = 1 := rfl
theorem sm_106 : zsm 106 = true := rfl
theorem cT_106 : (zT 106).1 = zc_106 := rfl
theorem rv_106 : (zme 106).2.1 = 0 := rfl
theorem sm_107 : zsm 107 = true := rfl
theorem cT_107 : (zT 107).1 = zc_107 := rfl
theorem rv_107 : (zme 107).2.1 = 2 := rfl
theorem sm_108 : zsm 108 = true := rfl
theorem cT_108 : (zT 108).1 = zc_108 := rfl
theorem rv_108 : (zme 108).2.1 = 1 := rfl
theorem sm_110 : zsm 110 = true := rfl
theorem cT_110 : (zT 110).1 = zc_110 := rfl
theorem rv_110 : (zme 110).2.1 = 0 := rfl
theorem sm_112 : zsm 112 = true := rfl
theorem cT_112 : (zT 112).1 = zc_112 := rfl
theorem rv_112 : (zme 112).2.1 = 2 := rfl
theorem sm_113 : zsm 113 = true := rfl
theorem cT_113 : (zT 113).1 = zc_113 := rfl
theorem rv_113 : (zme 113).2.1 = 0 := rfl
theorem sm_115 : zsm 115 = true := rfl
theorem cT_115 : (zT 115).1 = zc_115 := rfl
theorem rv_115 : (zme 115).2.1 = 1 := rfl
theorem sm_116 : zsm 116 = true := rfl
theorem cT_116 : (zT 116).1 = zc_116 := rfl
theorem rv_116 : (zme 116).2.1 = 1 := rfl
theorem sm_117 : zsm 117 = true := rfl
theorem cT_117 : (zT 117).1 = zc_117 := rfl
theorem rv_117 : (zme 117).2.1 = 1 := rfl
theorem sm_118 : zsm 118 = true := rfl
theorem cT_118 : (zT 118).1 = zc_118 := rfl
theorem rv_118 : (zme 118).2.1 = 1 := rfl
theorem sm_119 : zsm 119 = true := rfl
theorem cT_119 : (zT 119).1 = zc_119 := rfl
theorem rv_119 : (zme 119).2.1 = 0 := rfl
theorem sm_121 : zsm 121 = true := rfl
theorem cT_121 : (zT 121).1 = zc_121 := rfl
theorem rv_121 : (zme 121).2.1 = 3 := rfl
theorem sm_122 : zsm 122 = true := rfl
theorem cT_122 : (zT 122).1 = zc_122 := rfl
theorem rv_122 : (zme 122).2.1 = 3 := rfl
theorem sm_123 : zsm 123 = true := rfl
theorem cT_123 : (zT 123).1 = zc_123 := rfl
theorem rv_123 : (zme 123).2.1 = 1 := rfl
theorem sm_124 : zsm 124 = true := rfl
theorem cT_124 : (zT 124).1 = zc_124 := rfl
theorem rv_124 : (zme 124).2.1 = 1 := rfl
theorem sm_125 : zsm 125 = true := rfl
theorem cT_125 : (zT 125).1 = zc_125 := rfl
theorem rv_125 : (zme 125).2.1 = 3 := rfl
theorem sm_126 : zsm 126 = true := rfl
theorem cT_126 : (zT 126).1 = zc_126 := rfl
theorem rv_126 : (zme 126).2.1 = 3 := rfl
theorem sm_127 : zsm 127 = true := rfl
theorem cT_127 : (zT 127).1 = zc_127 := rfl
theorem rv_127 : (zme 127).2.1 = 1 := rfl
theorem sm_128 : zsm 128 = true := rfl
theorem cT_128 : (zT 128).1 = zc_128 := rfl
theorem rv_128 : (zme 128).2.1 = 1 := rfl
theorem sm_129 : zsm 129 = true := rfl
theorem cT_129 : (zT 129).1 = zc_129 := rfl
theorem rv_129 : (zme 129).2.1 = 1 := rfl
theorem sm_130 : zsm 130 = true := rfl
theorem cT_130 : (zT 130).1 = zc_130 := rfl
theorem rv_130 : (zme 130).2.1 = 1 := rfl
theorem sm_131 : zsm 131 = true := rfl
theorem cT_131 : (zT 131).1 = zc_131 := rfl
theorem rv_131 : (zme 131).2.1 = 0 := rfl
theorem sm_132 : zsm 132 = true := rfl
theorem cT_132 : (zT 132).1 = zc_132 := rfl
theorem rv_132 : (zme 132).2.1 = 1 := rfl
theorem sm_133 : zsm 133 = true := rfl
theorem cT_133 : (zT 133).1 = zc_133 := rfl
theorem rv_133 : (zme 133).2.1 = 1 := rfl
theorem sm_134 : zsm 134 = true := rfl
theorem cT_134 : (zT 134).1 = zc_134 := rfl
theorem rv_134 : (zme 134).2.1 = 1 := rfl
theorem sm_135 : zsm 135 = true := rfl
theorem cT_135 : (zT 135).1 = zc_135 := rfl
theorem rv_135 : (zme 135).2.1 = 1 := rfl
theorem sm_136 : zsm 136 = true := rfl
theorem cT_136 : (zT 136).1 = zc_136 := rfl
theorem rv_136 : (zme 136).2.1 = 1 := rfl
theorem sm_137 : zsm 137 = true := rfl
theorem cT_137 : (zT 137).1 = zc_137 := rfl
theorem rv_137 : (zme 137).2.1 = 2 := rfl
theorem sm_138 : zsm 138 = true := rfl
theorem cT_138 : (zT 138).1 = zc_138 := rfl
theorem rv_138 : (zme 138).2.1 = 1 := rfl
theorem sm_139 : zsm 139 = true := rfl
theorem cT_139 : (zT 139).1 = zc_139 := rfl
theorem rv_139 : (zme 139).2.1 = 3 := rfl
theorem sm_140 : zsm 140 = true := rfl
theorem cT_140 : (zT 140).1 = zc_140 := rfl
theorem rv_140 : (zme 140).2.1 = 3 := rfl
theorem sm_141 : zsm 141 = true := rfl
theorem cT_141 : (zT 141).1 = zc_141 := rfl
theorem rv_141 : (zme 141).2.1 = 3 := rfl
theorem sm_142 : zsm 142 = true := rfl
theorem cT_142 : (zT 142).1 = zc_142 := rfl
theorem rv_142 : (zme 142).2.1 = 3 := rfl
theorem sm_143 : zsm 143 = true := rfl
theorem cT_143 : (zT 143).1 = zc_143 := rfl
theorem rv_143 : (zme 143).2.1 = 3 := rfl
theorem sm_144 : zsm 144 = true := rfl
theorem cT_144 : (zT 144).1 = zc_144 := rfl
theorem rv_144 : (zme 144).2.1 = 3 := rfl
theorem sm_145 : zsm 145 = true := rfl
theorem cT_145 : (zT 145).1 = zc_145 := rfl
theorem rv_145 : (zme 145).2.1 = 3 := rfl
theorem sm_146 : zsm 146 = true := rfl
theorem cT_146 : (zT 146).1 = zc_146 := rfl
theorem rv_146 : (zme 146).2.1 = 3 := rfl
theorem sm_147 : zsm 147 = true := rfl
theorem cT_147 : (zT 147).1 = zc_147 := rfl
theorem rv_147 : (zme 147).2.1 = 3 := rfl
theorem sm_148 : zsm 148 = true := rfl
theorem cT_148 : (zT 148).1 = zc_148 := rfl
theorem rv_148 : (zme 148).2.1 = 3 := rfl
theorem sm_149 : zsm 149 = true := rfl
theorem cT_149 : (zT 149).1 = zc_149 := rfl
theorem rv_149 : (zme 149).2.1 = 3 := rfl
theorem sm_150 : zsm 150 = true := rfl
theorem cT_150 : (zT 150).1 = zc_150 := rfl
theorem rv_150 : (zme 150).2.1 = 1 := rfl
theorem sm_151 : zsm 151 = true := rfl
theorem cT_151 : (zT 151).1 = zc_151 := rfl
theorem rv_151 : (zme 151).2.1 = 1 := rfl
theorem sm_152 : zsm 152 = true := rfl
theorem cT_152 : (zT 152).1 = zc_152 := rfl
theorem rv_152 : (zme 152).2.1 = 1 := rfl
theorem sm_153 : zsm 153 = true := rfl
theorem cT_153 : (zT 153).1 = zc_153 := rfl
theorem rv_153 : (zme 153).2.1 = 1 := rfl
theorem sm_154 : zsm 154 = true := rfl
theorem cT_154 : (zT 154).1 = zc_154 := rfl
theorem rv_154 : (zme 154).2.1 = 1 := rfl
theorem sm_155 : zsm 155 = true := rfl
theorem cT_155 : (zT 155).1 = zc_155 := rfl
theorem rv_155 : (zme 155).2.1 = 1 := rfl
theorem sm_156 : zsm 156 = true := rfl
theorem cT_156 : (zT 156).1 = zc_156 := rfl
theorem rv_156 : (zme 156).2.1 = 1 := rfl
theorem sm_157 : zsm 157 = true := rfl
theorem cT_157 : (zT 157).1 = zc_157 := rfl
theorem rv_157 : (zme 157).2.1 = 1 := rfl
theorem sm_158 : zsm 158 = true := rfl
theorem cT_158 : (zT 158).1 = zc_158 := rfl
theorem rv_158 : (zme 158).2.1 = 3 := rfl
theorem sm_159 : zsm 159 = true := rfl
theorem cT_159 : (zT 159).1 = zc_159 := rfl
theorem rv_159 : (zme 159).2.1 = 1 := rfl
theorem sm_160 : zsm 160 = true := rfl
theorem cT_160 : (zT 160).1 = zc_160 := rfl
theorem rv_160 : (zme 160).2.1 = 1 := rfl
theorem sm_161 : zsm 161 = true := rfl
theorem cT_161 : (zT 161).1 = zc_161 := rfl
theorem rv_161 : (zme 161).2.1 = 3 := rfl
theorem sm_162 : zsm 162 = true := rfl
theorem cT_162 : (zT 162).1 = zc_162 := rfl
theorem rv_162 : (zme 162).2.1 = 1 := rfl
theorem sm_163 : zsm 163 = true := rfl
theorem cT_163 : (zT 163).1 = zc_163 := rfl
theorem rv_163 : (zme 163).2.1 = 3 := rfl
theorem sm_164 : zsm 164 = true := rfl
theorem cT_164 : (zT 164).1 = zc_164 := rfl
theorem rv_164 : (zme 164).2.1 = 1 := rfl
theorem sm_165 : zsm 165 = true := rfl
theorem cT_165 : (zT 165).1 = zc_165 := rfl
theorem rv_165 : (zme 165).2.1 = 3 := rfl
theorem sm_166 : zsm 166 = true := rfl
theorem cT_166 : (zT 166).1 = zc_166 := rfl
theorem rv_166 : (zme 166).2.1 = 0 := rfl
theorem sm_167 : zsm 167 = true := rfl
theorem cT_167 : (zT 167).1 = zc_167 := rfl
theorem rv_167 : (zme 167).2.1 = 1 := rfl
theorem sm_168 : zsm 168 = true := rfl
theorem cT_168 : (zT 168).1 = zc_168 := rfl
theorem rv_168 : (zme 168).2.1 = 1 := rfl
theorem sm_169 : zsm 169 = true := rfl
theorem cT_169 : (zT 169).1 = zc_169 := rfl
theorem rv_169 : (zme 169).2.1 = 0 := rfl
theorem sm_170 : zsm 170 = true := rfl
theorem cT_170 : (zT 170).1 = zc_170 := rfl
theorem rv_170 : (zme 170).2.1 = 3 := rfl
theorem sm_171 : zsm 171 = true := rfl
theorem cT_171 : (zT 171).1 = zc_171 := rfl
theorem rv_171 : (zme 171).2.1 = 3 := rfl
theorem sm_172 : zsm 172 = true := rfl
theorem cT_172 : (zT 172).1 = zc_172 := rfl
theorem rv_172 : (zme 172).2.1 = 1 := rfl
theorem sm_173 : zsm 173 = true := rfl
theorem cT_173 : (zT 173).1 = zc_173 := rfl
theorem rv_173 : (zme 173).2.1 = 1 := rfl
theorem sm_174 : zsm 174 = true := rfl
theorem cT_174 : (zT 174).1 = zc_174 := rfl
theorem rv_174 : (zme 174).2.1 = 3 := rfl
theorem sm_175 : zsm 175 = true := rfl
theorem cT_175 : (zT 175).1 = zc_175 := rfl
theorem rv_175 : (zme 175).2.1 = 3 := rfl
theorem sm_176 : zsm 176 = true := rfl
theorem cT_176 : (zT 176).1 = zc_176 := rfl
theorem rv_176 : (zme 176).2.1 = 3 := rfl
theorem sm_177 : zsm 177 = true := rfl
theorem cT_177 : (zT 177).1 = zc_177 := rfl
theorem rv_177 : (zme 177).2.1 = 0 := rfl
theorem sm_179 : zsm 179 = true := rfl
theorem cT_179 : (zT 179).1 = zc_179 := rfl
theorem rv_179 : (zme 179).2.1 = 0 := rfl
theorem sm_180 : zsm 180 = true := rfl
theorem cT_180 : (zT 180).1 = zc_180 := rfl
theorem rv_180 : (zme 180).2.1 = 0 := rfl
theorem sm_181 : zsm 181 = true := rfl
theorem cT_181 : (zT 181).1 = zc_181 := rfl
theorem rv_181 : (zme 181).2.1 = 0 := rfl
theorem sm_182 : zsm 182 = true := rfl
theorem cT_182 : (zT 182).1 = zc_182 := rfl
theorem rv_182 : (zme 182).2.1 = 1 := rfl
theorem sm_183 : zsm 183 = true := rfl
theorem cT_183 : (zT 183).1 = zc_183 := rfl
theorem rv_183 : (zme 183).2.1 = 3 := rfl
theorem sm_184 : zsm 184 = true := rfl
theorem cT_184 : (zT 184).1 = zc_184 := rfl
theorem rv_184 : (zme 184).2.1 = 2 := rfl
theorem sm_186 : zsm 186 = true := rfl
theorem cT_186 : (zT 186).1 = zc_186 := rfl
theorem rv_186 : (zme 186).2.1 = 2 := rfl
theorem sm_187 : zsm 187 = true := rfl
theorem cT_187 : (zT 187).1 = zc_187 := rfl
theorem rv_187 : (zme 187).2.1 = 1 := rfl
theorem sm_188 : zsm 188 = true := rfl
theorem cT_188 : (zT 188).1 = zc_188 := rfl
theorem rv_188 : (zme 188).2.1 = 0 := rfl
theorem sm_189 : zsm 189 = true := rfl
theorem cT_189 : (zT 189).1 = zc_189 := rfl
theorem rv_189 : (zme 189).2.1 = 2 := rfl
theorem sm_190 : zsm 190 = true := rfl
theorem cT_190 : (zT 190).1 = zc_190 := rfl
theorem rv_190 : (zme 190).2.1 = 2 := rfl
theorem sm_191 : zsm 191 = true := rfl
theorem cT_191 : (zT 191).1 = zc_191 := rfl
theorem rv_191 : (zme 191).2.1 = 1 := rfl
theorem sm_192 : zsm 192 = true := rfl
theorem cT_192 : (zT 192).1 = zc_192 := rfl
theorem rv_192 : (zme 192).2.1 = 1 := rfl
theorem sm_193 : zsm 193 = true := rfl
theorem cT_193 : (zT 193).1 = zc_193 := rfl
theorem rv_193 : (zme 193).2.1 = 1 := rfl
theorem sm_194 : zsm 194 = true := rfl
theorem cT_194 : (zT 194).1 = zc_194 := rfl
theorem rv_194 : (zme 194).2.1 = 3 := rfl
theorem sm_195 : zsm 195 = true := rfl
theorem cT_195 : (zT 195).1 = zc_195 := rfl
theorem rv_195 : (zme 195).2.1 = 1 := rfl
theorem sm_196 : zsm 196 = true := rfl
theorem cT_196 : (zT 196).1 = zc_196 := rfl
theorem rv_196 : (zme 196).2.1 = 1 := rfl
theorem sm_197 : zsm 197 = true := rfl
theorem cT_197 : (zT 197).1 = zc_197 := rfl
theorem rv_197 : (zme 197).2.1 = 1 := rfl
theorem sm_198 : zsm 198 = true := rfl
theorem cT_198 : (zT 198).1 = zc_198 := rfl
theorem rv_198 : (zme 198).2.1 = 2 := rfl
theorem sm_199 : zsm 199 = true := rfl
theorem cT_199 : (zT 199).1 = zc_199 := rfl
theorem rv_199 : (zme 199).2.1 = 2 := rfl
theorem sm_200 : zsm 200 = true := rfl
theorem cT_200 : (zT 200).1 = zc_200 := rfl
theorem rv_200 : (zme 200).2.1 = 3 := rfl
theorem sm_201 : zsm 201 = true := rfl
theorem cT_201 : (zT 201).1 = zc_201 := rfl
theorem rv_201 : (zme 201).2.1 = 1 := rfl
theorem sm_202 : zsm 202 = true := rfl
theorem cT_202 : (zT 202).1 = zc_202 := rfl
theorem rv_202 : (zme 202).2.1 = 1 := rfl
theorem sm_203 : zsm 203 = true := rfl
theorem cT_203 : (zT 203).1 = zc_203 := rfl
theorem rv_203 : (zme 203).2.1 = 1 := rfl
theorem sm_204 : zsm 204 = true := rfl
theorem cT_204 : (zT 204).1 = zc_204 := rfl
theorem rv_204 : (zme 204).2.1 = 2 := rfl
theorem sm_205 : zsm 205 = true := rfl
theorem cT_205 : (zT 205).1 = zc_205 := rfl
theorem rv_205 : (zme 205).2.1 = 1 := rfl
theorem sm_206 : zsm 206 = true := rfl
theorem cT_206 : (zT 206).1 = zc_206 := rfl
theorem rv_206 : (zme 206).2.1 = 1 := rfl
theorem sm_207 : zsm 207 = true := rfl
theorem cT_207 : (zT 207).1 = zc_207 := rfl
theorem rv_207 : (zme 207).2.1 = 1 := rfl
theorem sm_208 : zsm 208 = true := rfl
theorem cT_208 : (zT 208).1 = zc_208 := rfl
theorem rv_208 : (zme 208).2.1 = 0 := rfl
theorem sm_209 : zsm 209 = true := rfl
theorem cT_209 : (zT 209).1 = zc_209 := rfl
theorem rv_209 : (zme 209).2.1 = 1 := rfl
theorem sm_210 : zsm 210 = true := rfl
theorem cT_210 : (zT 210).1 = zc_210 := rfl
theorem rv_210 : (zme 210).2.1 = 1 := rfl
theorem sm_211 : zsm 211 = true := rfl
theorem cT_211 : (zT 211).1 = zc_211 := rfl
theorem rv_211 : (zme 211).2.1 = 1 := rfl
theorem sm_212 : zsm 212 = true := rfl
theorem cT_212 : (zT 212).1 = zc_212 := rfl
theorem rv_212 : (zme 212).2.1 = 2 := rfl
theorem sm_213 : zsm 213 = true := rfl
theorem cT_213 : (zT 213).1 = zc_213 := rfl
theorem rv_213 : (zme 213).2.1 = 1 := rfl
theorem sm_214 : zsm 214 = true := rfl
theorem cT_214 : (zT 214).1 = zc_214 := rfl
theorem rv_214 : (zme 214).2.1 = 1 := rfl
theorem sm_215 : zsm 215 = true := rfl
theorem cT_215 : (zT 215).1 = zc_215 := rfl
theorem rv_215 : (zme 215).2.1 = 1 := rfl
theorem sm_216 : zsm 216 = true := rfl
theorem cT_216 : (zT 216).1 = zc_216 := rfl
theorem rv_216 : (zme 216).2.1 = 0 := rfl
theorem sm_217 : zsm 217 = true := rfl
theorem cT_217 : (zT 217).1 = zc_217 := rfl
theorem rv_217 : (zme 217).2.1 = 0 := rfl
theorem sm_218 : zsm 218 = true := rfl
theorem cT_218 : (zT 218).1 = zc_218 := rfl
theorem rv_218 : (zme 218).2.1 = 3 := rfl
theorem sm_219 : zsm 219 = true := rfl
theorem cT_219 : (zT 219).1 = zc_219 := rfl
theorem rv_219 : (zme 219).2.1 = 0 := rfl
theorem sm_220 : zsm 220 = true := rfl
theorem cT_220 : (zT 220).1 = zc_220 := rfl
theorem rv_220 : (zme 220).2.1 = 0 := rfl
theorem sm_221 : zsm 221 = true := rfl
theorem cT_221 : (zT 221).1 = zc_221 := rfl
theorem rv_221 : (zme 221).2.1 = 0 := rfl
theorem sm_222 : zsm 222 = true := rfl
theorem cT_222 : (zT 222).1 = zc_222 := rfl
theorem rv_222 : (zme 222).2.1 = 0 := rfl
theorem sm_223 : zsm 223 = true := rfl
theorem cT_223 : (zT 223).1 = zc_223 := rfl
theorem rv_223 : (zme 223).2.1 = 0 := rfl
theorem sm_224 : zsm 224 = true := rfl
theorem cT_224 : (zT 224).1 = zc_224 := rfl
theorem rv_224 : (zme 224).2.1 = 0 := rfl
theorem sm_225 : zsm 225 = true := rfl
theorem cT_225 : (zT 225).1 = zc_225 := rfl
theorem rv_225 : (zme 225).2.1 = 0 := rfl
theorem sm_226 : zsm 226 = true := rfl
theorem cT_226 : (zT 226).1 = zc_226 := rfl
theorem rv_226 : (zme 226).2.1 = 1 := rfl
theorem sm_227 : zsm 227 = true := rfl
theorem cT_227 : (zT 227).1 = zc_227 := rfl
theorem rv_227 : (zme 227).2.1 = 2 := rfl
theorem sm_228 : zsm 228 = true := rfl
theorem cT_228 : (zT 228).1 = zc_228 := rfl
theorem rv_228 : (zme 228).2.1 = 3 := rfl
theorem sm_230 : zsm 230 = true := rfl
theorem cT_230 : (zT 230).1 = zc_230 := rfl
theorem rv_230 : (zme 230).2.1 = 1 := rfl
theorem sm_231 : zsm 231 = true := rfl
theorem cT_231 : (zT 231).1 = zc_231 := rfl
theorem rv_231 : (zme 231).2.1 = 1 := rfl
theorem sm_232 : zsm 232 = true := rfl
theorem cT_232 : (zT 232).1 = zc_232 := rfl
theorem rv_232 : (zme 232).2.1 = 2 := rfl
theorem sm_233 : zsm 233 = true := rfl
theorem cT_233 : (zT 233).1 = zc_233 := rfl
theorem rv_233 : (zme 233).2.1 = 1 := rfl
theorem sm_234 : zsm 234 = true := rfl
theorem cT_234 : (zT 234).1 = zc_234 := rfl
theorem rv_234 : (zme 234).2.1 = 1 := rfl
theorem sm_235 : zsm 235 = true := rfl
theorem cT_235 : (zT 235).1 = zc_235 := rfl
theorem rv_235 : (zme 235).2.1 = 1 := rfl
theorem sm_236 : zsm 236 = true := rfl
theorem cT_236 : (zT 236).1 = zc_236 := rfl
theorem rv_236 : (zme 236).2.1 = 1 := rfl
theorem sm_237 : zsm 237 = true := rfl
theorem cT_237 : (zT 237).1 = zc_237 := rfl
theorem rv_237 : (zme 237).2.1 = 3 := rfl
theorem sm_238 : zsm 238 = true := rfl
theorem cT_238 : (zT 238).1 = zc_238 := rfl
theorem rv_238 : (zme 238).2.1 = 3 := rfl
theorem sm_239 : zsm 239 = true := rfl
theorem cT_239 : (zT 239).1 = zc_239 := rfl
theorem rv_239 : (zme 239).2.1 = 0 := rfl
theorem sm_240 : zsm 240 = true := rfl
theorem cT_240 : (zT 240).1 = zc_240 := rfl
theorem rv_240 : (zme 240).2.1 = 0 := rfl
theorem sm_241 : zsm 241 = true := rfl
theorem cT_241 : (zT 241).1 = zc_241 := rfl
theorem rv_241 : (zme 241).2.1 = 1 := rfl
theorem sm_242 : zsm 242 = true := rfl
theorem cT_242 : (zT 242).1 = zc_242 := rfl
theorem rv_242 : (zme 242).2.1 = 3 := rfl
theorem sm_243 : zsm 243 = true := rfl
theorem cT_243 : (zT 243).1 = zc_243 := rfl
theorem rv_243 : (zme 243).2.1 = 1 := rfl
theorem sm_244 : zsm 244 = true := rfl
theorem cT_244 : (zT 244).1 = zc_244 := rfl
theorem rv_244 : (zme 244).2.1 = 1 := rfl
theorem sm_245 : zsm 245 = true := rfl
theorem cT_245 : (zT 245).1 = zc_245 := rfl
theorem rv_245 : (zme 245).2.1 = 1 := rfl
theorem sm_246 : zsm 246 = true := rfl
theorem cT_246 : (zT 246).1 = zc_246 := rfl
theorem rv_246 : (zme 246).2.1 = 0 := rfl
theorem sm_247 : zsm 247 = true := rfl
theorem cT_247 : (zT 247).1 = zc_247 := rfl
theorem rv_247 : (zme 247).2.1 = 0 := rfl
theorem sm_248 : zsm 248 = true := rfl
theorem cT_248 : (zT 248).1 = zc_248 := rfl
theorem rv_248 : (zme 248).2.1 = 0 := rfl
theorem sm_249 : zsm 249 = true := rfl
theorem cT_249 : (zT 249).1 = zc_249 := rfl
theorem rv_249 : (zme 249).2.1 = 0 := rfl
theorem sm_250 : zsm 250 = true := rfl
theorem cT_250 : (zT 250).1 = zc_250 := rfl
theorem rv_250 : (zme 250).2.1 = 0 := rfl
theorem sm_251 : zsm 251 = true := rfl
theorem cT_251 : (zT 251).1 = zc_251 := rfl
theorem rv_251 : (zme 251).2.1 = 2 := rfl
theorem sm_252 : zsm 252 = true := rfl
theorem cT_252 : (zT 252).1 = zc_252 := rfl
theorem rv_252 : (zme 252).2.1 = 3 := rfl
theorem sm_253 : zsm 253 = true := rfl
theorem cT_253 : (zT 253).1 = zc_253 := rfl
theorem rv_253 : (zme 253).2.1 = 3 := rfl
theorem sm_254 : zsm 254 = true := rfl
theorem cT_254 : (zT 254).1 = zc_254 := rfl
theorem rv_254 : (zme 254).2.1 = 3 := rfl
theorem sm_255 : zsm 255 = true := rfl
theorem cT_255 : (zT 255).1 = zc_255 := rfl
theorem rv_255 : (zme 255).2.1 = 1 := rfl
theorem sm_256 : zsm 256 = true := rfl
theorem cT_256 : (zT 256).1 = zc_256 := rfl
theorem rv_256 : (zme 256).2.1 = 1 := rfl
theorem sm_257 : zsm 257 = true := rfl
theorem cT_257 : (zT 257).1 = zc_257 := rfl
theorem rv_257 : (zme 257).2.1 = 3 := rfl
theorem sm_258 : zsm 258 = true := rfl
theorem cT_258 : (zT 258).1 = zc_258 := rfl
theorem rv_258 : (zme 258).2.1 = 1 := rfl
theorem sm_259 : zsm 259 = true := rfl
theorem cT_259 : (zT 259).1 = zc_259 := rfl
theorem rv_259 : (zme 259).2.1 = 1 := rfl
theorem sm_260 : zsm 260 = true := rfl
theorem cT_260 : (zT 260).1 = zc_260 := rfl
theorem rv_260 : (zme 260).2.1 = 3 := rfl
theorem sm_261 : zsm 261 = true := rfl
theorem cT_261 : (zT 261).1 = zc_261 := rfl
theorem rv_261 : (zme 261).2.1 = 0 := rfl
theorem sm_262 : zsm 262 = true := rfl
theorem cT_262 : (zT 262).1 = zc_262 := rfl
theorem rv_262 : (zme 262).2.1 = 0 := rfl
theorem sm_263 : zsm 263 = true := rfl
theorem cT_263 : (zT 263).1 = zc_263 := rfl
theorem rv_263 : (zme 263).2.1 = 0 := rfl
theorem sm_264 : zsm 264 = true := rfl
theorem cT_264 : (zT 264).1 = zc_264 := rfl
theorem rv_264 : (zme 264).2.1 = 0 := rfl
theorem sm_265 : zsm 265 = true := rfl
theorem cT_265 : (zT 265).1 = zc_265 := rfl
theorem rv_265 : (zme 265).2.1 = 0 := rfl
theorem sm_266 : zsm 266 = true := rfl
theorem cT_266 : (zT 266).1 = zc_266 := rfl
theorem rv_266 : (zme 266).2.1 = 1 := rfl
theorem sm_267 : zsm 267 = true := rfl
theorem cT_267 : (zT 267).1 = zc_267 := rfl
theorem rv_267 : (zme 267).2.1 = 3 := rfl
theorem sm_268 : zsm 268 = true := rfl
theorem cT_268 : (zT 268).1 = zc_268 := rfl
theorem rv_268 : (zme 268).2.1 = 1 := rfl
theorem sm_269 : zsm 269 = true := rfl
theorem cT_269 : (zT 269).1 = zc_269 := rfl
theorem rv_269 : (zme 269).2.1 = 0 := rfl
theorem sm_270 : zsm 270 = true := rfl
theorem cT_270 : (zT 270).1 = zc_270 := rfl
theorem rv_270 : (zme 270).2.1 = 0 := rfl
theorem sm_271 : zsm 271 = true := rfl
theorem cT_271 : (zT 271).1 = zc_271 := rfl
theorem rv_271 : (zme 271).2.1 = 3 := rfl
theorem sm_272 : zsm 272 = true := rfl
theorem cT_272 : (zT 272).1 = zc_272 := rfl
theorem rv_272 : (zme 272).2.1 = 1 := rfl
theorem sm_273 : zsm 273 = true := rfl
theorem cT_273 : (zT 273).1 = zc_273 := rfl
theorem rv_273 : (zme 273).2.1 = 1 := rfl
theorem sm_274 : zsm 274 = true := rfl
theorem cT_274 : (zT 274).1 = zc_274 := rfl
theorem rv_274 : (zme 274).2.1 = 3 := rfl
theorem sm_275 : zsm 275 = true := rfl
theorem cT_275 : (zT 275).1 = zc_275 := rfl
theorem rv_275 : (zme 275).2.1 = 1 := rfl
theorem sm_276 : zsm 276 = true := rfl
theorem cT_276 : (zT 276).1 = zc_276 := rfl
theorem rv_276 : (zme 276).2.1 = 1 := rfl
theorem sm_277 : zsm 277 = true := rfl
theorem cT_277 : (zT 277).1 = zc_277 := rfl
theorem rv_277 : (zme 277).2.1 = 1 := rfl
theorem sm_278 : zsm 278 = true := rfl
theorem cT_278 : (zT 278).1 = zc_278 := rfl
theorem rv_278 : (zme 278).2.1 = 1 := rfl
theorem sm_279 : zsm 279 = true := rfl
theorem cT_279 : (zT 279).1 = zc_279 := rfl
theorem rv_279 : (zme 279).2.1 = 1 := rfl
theorem sm_280 : zsm 280 = true := rfl
theorem cT_280 : (zT 280).1 = zc_280 := rfl
theorem rv_280 : (zme 280).2.1 = 1 := rfl
theorem sm_281 : zsm 281 = true := rfl
theorem cT_281 : (zT 281).1 = zc_281 := rfl
theorem rv_281 : (zme 281).2.1 = 1 := rfl
theorem sm_282 : zsm 282 = true := rfl
theorem cT_282 : (zT 282).1 = zc_282 := rfl
theorem rv_282 : (zme 282).2.1 = 1 := rfl
theorem sm_283 : zsm 283 = true := rfl
theorem cT_283 : (zT 283).1 = zc_283 := rfl
theorem rv_283 : (zme 283).2.1 = 2 := rfl
theorem sm_284 : zsm 284 = true := rfl
theorem cT_284 : (zT 284).1 = zc_284 := rfl
theorem rv_284 : (zme 284).2.1 = 1 := rfl
theorem sm_285 : zsm 285 = true := rfl
theorem cT_285 : (zT 285).1 = zc_285 := rfl
theorem rv_285 : (zme 285).2.1 = 1 := rfl
theorem sm_287 : zsm 287 = true := rfl
theorem cT_287 : (zT 287).1 = zc_287 := rfl
theorem rv_287 : (zme 287).2.1 = 3 := rfl
theorem sm_288 : zsm 288 = true := rfl
theorem cT_288 : (zT 288).1 = zc_288 := rfl
theorem rv_288 : (zme 288).2.1 = 1 := rfl
theorem sm_289 : zsm 289 = true := rfl
theorem cT_289 : (zT 289).1 = zc_289 := rfl
theorem rv_289 : (zme 289).2.1 = 1 := rfl
theorem sm_290 : zsm 290 = true := rfl
theorem cT_290 : (zT 290).1 = zc_290 := rfl
theorem rv_290 : (zme 290).2.1 = 1 := rfl
theorem sm_291 : zsm 291 = true := rfl
theorem cT_291 : (zT 291).1 = zc_291 := rfl
theorem rv_291 : (zme 291).2.1 = 0 := rfl
theorem sm_292 : zsm 292 = true := rfl
theorem cT_292 : (zT 292).1 = zc_292 := rfl
theorem rv_292 : (zme 292).2.1 = 0 := rfl
theorem sm_293 : zsm 293 = true := rfl
theorem cT_293 : (zT 293).1 = zc_293 := rfl
theorem rv_293 : (zme 293).2.1 = 0 := rfl
theorem sm_294 : zsm 294 = true := rfl
theorem cT_294 : (zT 294).1 = zc_294 := rfl
theorem rv_294 : (zme 294).2.1 = 3 := rfl
theorem sm_295 : zsm 295 = true := rfl
theorem cT_295 : (zT 295).1 = zc_295 := rfl
theorem rv_295 : (zme 295).2.1 = 3 := rfl
theorem sm_296 : zsm 296 = true := rfl
theorem cT_296 : (zT 296).1 = zc_296 := rfl
theorem rv_296 : (zme 296).2.1 = 1 := rfl
theorem sm_297 : zsm 297 = true := rfl
theorem cT_297 : (zT 297).1 = zc_297 := rfl
theorem rv_297 : (zme 297).2.1 = 1 := rfl
theorem sm_298 : zsm 298 = true := rfl
theorem cT_298 : (zT 298).1 = zc_298 := rfl
theorem rv_298 : (zme 298).2.1 = 1 := rfl
theorem sm_299 : zsm 299 = true := rfl
theorem cT_299 : (zT 299).1 = zc_299 := rfl
theorem rv_299 : (zme 299).2.1 = 1 := rfl
theorem sm_300 : zsm 300 = true := rfl
theorem cT_300 : (zT 300).1 = zc_300 := rfl
theorem rv_300 : (zme 300).2.1 = 1 := rfl
theorem sm_301 : zsm 301 = true := rfl
theorem cT_301 : (zT 301).1 = zc_301 := rfl
theorem rv_301 : (zme 301).2.1 = 1 := rfl
theorem sm_302 : zsm 302 = true := rfl
theorem cT_302 : (zT 302).1 = zc_302 := rfl
theorem rv_302 : (zme 302).2.1 = 1 := rfl
theorem sm_303 : zsm 303 = true := rfl
theorem cT_303 : (zT 303).1 = zc_303 := rfl
theorem rv_303 : (zme 303).2.1 = 1 := rfl
theorem sm_304 : zsm 304 = true := rfl
theorem cT_304 : (zT 304).1 = zc_304 := rfl
theorem rv_304 : (zme 304).2.1 = 1 := rfl
theorem sm_305 : zsm 305 = true := rfl
theorem cT_305 : (zT 305).1 = zc_305 := rfl
theorem rv_305 : (zme 305).2.1 = 1 := rfl
theorem sm_306 : zsm 306 = true := rfl
theorem cT_306 : (zT 306).1 = zc_306 := rfl
theorem rv_306 : (zme 306).2.1 = 1 := rfl
theorem sm_307 : zsm 307 = true := rfl
theorem cT_307 : (zT 307).1 = zc_307 := rfl
theorem rv_307 : (zme 307).2.1 = 1 := rfl
theorem sm_308 : zsm 308 = true := rfl
theorem cT_308 : (zT 308).1 = zc_308 := rfl
theorem rv_308 : (zme 308).2.1 = 1 := rfl
theorem sm_309 : zsm 309 = true := rfl
theorem cT_309 : (zT 309).1 = zc_309 := rfl
theorem rv_309 : (zme 309).2.1 = 1 := rfl
theorem sm_310 : zsm 310 = true := rfl
theorem cT_310 : (zT 310).1 = zc_310 := rfl
theorem rv_310 : (zme 310).2.1 = 1 := rfl
theorem sm_311 : zsm 311 = true := rfl
theorem cT_311 : (zT 311).1 = zc_311 := rfl
theorem rv_311 : (zme 311).2.1 = 1 := rfl
theorem sm_312 : zsm 312 = true := rfl
theorem cT_312 : (zT 312).1 = zc_312 := rfl
theorem rv_312 : (zme 312).2.1 = 0 := rfl
theorem sm_313 : zsm 313 = true := rfl
theorem cT_313 : (zT 313).1 = zc_313 := rfl
theorem rv_313 : (zme 313).2.1 = 1 := rfl
theorem sm_314 : zsm 314 = true := rfl
theorem cT_314 : (zT 314).1 = zc_314 := rfl
theorem rv_314 : (zme 314).2.1 = 1 := rfl
theorem sm_315 : zsm 315 = true := rfl
theorem cT_315 : (zT 315).1 = zc_315 := rfl
theorem rv_315 : (zme 315).2.1 = 1 := rfl
theorem sm_316 : zsm 316 = true := rfl
theorem cT_316 : (zT 316).1 = zc_316 := rfl
theorem rv_316 : (zme 316).2.1 = 2 := rfl
theorem sm_317 : zsm 317 = true := rfl
theorem cT_317 : (zT 317).1 = zc_317 := rfl
theorem rv_317 : (zme 317).2.1 = 3 := rfl
theorem sm_318 : zsm 318 = true := rfl
theorem cT_318 : (zT 318).1 = zc_318 := rfl
theorem rv_318 : (zme 318).2.1 = 3 := rfl
theorem sm_319 : zsm 319 = true := rfl
theorem cT_319 : (zT 319).1 = zc_319 := rfl
theorem rv_319 : (zme 319).2.1 = 1 := rfl
theorem sm_320 : zsm 320 = true := rfl
theorem cT_320 : (zT 320).1 = zc_320 := rfl
theorem rv_320 : (zme 320).2.1 = 1 := rfl
theorem sm_321 : zsm 321 = true := rfl
theorem cT_321 : (zT 321).1 = zc_321 := rfl
theorem rv_321 : (zme 321).2.1 = 1 := rfl
theorem sm_322 : zsm 322 = true := rfl
theorem cT_322 : (zT 322).1 = zc_322 := rfl
theorem rv_322 : (zme 322).2.1 = 1 := rfl
theorem sm_323 : zsm 323 = true := rfl
theorem cT_323 : (zT 323).1 = zc_323 := rfl
theorem rv_323 : (zme 323).2.1 = 1 := rfl
theorem sm_324 : zsm 324 = true := rfl
theorem cT_324 : (zT 324).1 = zc_324 := rfl
theorem rv_324 : (zme 324).2.1 = 1 := rfl
theorem sm_325 : zsm 325 = true := rfl
theorem cT_325 : (zT 325).1 = zc_325 := rfl
theorem rv_325 : (zme 325).2.1 = 1 := rfl
theorem sm_326 : zsm 326 = true := rfl
theorem cT_326 : (zT 326).1 = zc_326 := rfl
theorem rv_326 : (zme 326).2.1 = 1 := rfl
theorem sm_327 : zsm 327 = true := rfl
theorem cT_327 : (zT 327).1 = zc_327 := rfl
theorem rv_327 : (zme 327).2.1 = 3 := rfl
theorem sm_328 : zsm 328 = true := rfl
theorem cT_328 : (zT 328).1 = zc_328 := rfl
theorem rv_328 : (zme 328).2.1 = 1 := rfl
theorem sm_329 : zsm 329 = true := rfl
theorem cT_329 : (zT 329).1 = zc_329 := rfl
theorem rv_329 : (zme 329).2.1 = 0 := rfl
theorem sm_330 : zsm 330 = true := rfl
theorem cT_330 : (zT 330).1 = zc_330 := rfl
theorem rv_330 : (zme 330).2.1 = 1 := rfl
theorem sm_331 : zsm 331 = true := rfl
theorem cT_331 : (zT 331).1 = zc_331 := rfl
theorem rv_331 : (zme 331).2.1 = 0 := rfl
theorem sm_332 : zsm 332 = true := rfl
theorem cT_332 : (zT 332).1 = zc_332 := rfl
theorem rv_332 : (zme 332).2.1 = 1 := rfl
theorem sm_333 : zsm 333 = true := rfl
theorem cT_333 : (zT 333).1 = zc_333 := rfl
theorem rv_333 : (zme 333).2.1 = 1 := rfl
