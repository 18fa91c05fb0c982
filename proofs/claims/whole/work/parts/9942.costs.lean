/-! COSTS OF MATCHING, told once for both sides. -/
/-- letters of the first sentences of a sheet -/
def pfF (H : Int → Int) (w k : Int) : Int := sm k (fun r => shLe H w r)
theorem pfF_s {H : Int → Int} {w k : Int} (h : 0 ≤ k) : pfF H w (k + 1) = pfF H w k + shLe H w k := sm_s _ h
/-- letters that a part has more on the first side -/
def dfF (H : Int → Int) (k i j : Int) : Int := pfF H 0 (i + tkF k 0) - pfF H 0 i - pfF H 1 (j + tkF k 1) + pfF H 1 j
def pcS (H : Int → Int) (k i j : Int) : Int := kcF k + (if k = 1 ∨ k = 2 then 0 else 10 * (if dfF H k i j < 0 then -(dfF H k i j) else dfF H k i j))
abbrev canS (H : Int → Int) (k i j : Int) : Prop := i + tkF k 0 ≤ shn H 0 ∧ j + tkF k 1 ≤ shn H 1
/-- the cheapest kind among the first n, and its cost -/
def bkS (H : Int → Int) (C : Int → Int → Int) (i j n : Int) : Int × Int := fo n (-1, 0) (fun k y => if canS H k i j then (if y.1 = -1 ∨ pcS H k i j + C (i + tkF k 0) (j + tkF k 1) < y.2 then (k, pcS H k i j + C (i + tkF k 0) (j + tkF k 1)) else y) else y)
theorem bkS_s {H : Int → Int} {C : Int → Int → Int} {i j n : Int} (h : 0 ≤ n) : bkS H C i j (n + 1) = if canS H n i j then (if (bkS H C i j n).1 = -1 ∨ pcS H n i j + C (i + tkF n 0) (j + tkF n 1) < (bkS H C i j n).2 then (n, pcS H n i j + C (i + tkF n 0) (j + tkF n 1)) else bkS H C i j n) else bkS H C i j n := fo_s _ _ h
theorem tkF_r {k : Int} (k0 : 0 ≤ k) (k1 : k < 5) : (0 ≤ tkF k 0 ∧ tkF k 0 ≤ 2) ∧ (0 ≤ tkF k 1 ∧ tkF k 1 ≤ 2) ∧ 1 ≤ tkF k 0 + tkF k 1 ∧ tkF k 0 + tkF k 1 ≤ 3 := by
  rcases (by omega : k = 0 ∨ k = 1 ∨ k = 2 ∨ k = 3 ∨ k = 4) with rfl | rfl | rfl | rfl | rfl <;> decide
def cN (H : Int → Int) : Nat → Int → Int → Int
  | 0, _, _ => 0
  | f + 1, i, j => (bkS H (cN H f) i j 5).2
theorem bkS_co {H : Int → Int} {C D : Int → Int → Int} {i j : Int} (h : ∀ k, 0 ≤ k → k < 5 → canS H k i j → C (i + tkF k 0) (j + tkF k 1) = D (i + tkF k 0) (j + tkF k 1)) : bkS H C i j 5 = bkS H D i j 5 := fo_congr (by omega) (fun k y k0 k1 => by
  (try dsimp only)
  by_cases c : canS H k i j
  · rw [if_pos c, if_pos c, h k k0 k1 c]
  · rw [if_neg c, if_neg c])
theorem cN_fuel {H : Int → Int} : ∀ (f g : Nat) (i j : Int), shn H 0 + shn H 1 - i - j < f → shn H 0 + shn H 1 - i - j < g → i ≤ shn H 0 → j ≤ shn H 1 → cN H f i j = cN H g i j
  | 0, _, i, j, h1, _, h3, h4 => by omega
  | _ + 1, 0, i, j, _, h2, h3, h4 => by omega
  | f + 1, g + 1, i, j, h1, h2, h3, h4 => by
    show (bkS H (cN H f) i j 5).2 = (bkS H (cN H g) i j 5).2
    rw [bkS_co (fun k k0 k1 c => cN_fuel f g _ _ (by have := tkF_r k0 k1; have c' : i + tkF k 0 ≤ shn H 0 ∧ j + tkF k 1 ≤ shn H 1 := c; omega) (by have := tkF_r k0 k1; have c' : i + tkF k 0 ≤ shn H 0 ∧ j + tkF k 1 ≤ shn H 1 := c; omega) c.1 c.2)]
/-- the cost of what is left -/
def coS (H : Int → Int) (i j : Int) : Int := cN H 17 i j
theorem coS_e {H : Int → Int} {i j : Int} (hM : shn H 0 ≤ 8) (hN : shn H 1 ≤ 8) (i0 : 0 ≤ i) (j0 : 0 ≤ j) : coS H i j = (bkS H (coS H) i j 5).2 := by
  show (bkS H (cN H 16) i j 5).2 = _
  rw [bkS_co (D := coS H) (fun k k0 k1 c => cN_fuel 16 17 _ _ (by have := tkF_r k0 k1; omega) (by have := tkF_r k0 k1; omega) c.1 c.2)]
theorem shLe_r {H : Int → Int} {n : Int} (sg : sgn H n) (h : (shs H n).1 = 0) {s r : Int} (s0 : 0 ≤ s) (s1 : s < 2) (r0 : 0 ≤ r) (r1 : r < shn H s) : 0 ≤ shLe H s r ∧ shLe H s r ≤ 42 := by
  obtain ⟨b1, b2⟩ := sh_ok sg h s0 s1
  obtain ⟨c1, c2⟩ := b2 r r0 r1
  have ns := nsF_sen sg c1.1 c1.2 c2 rfl
  have := lqF_le (H := H) (q := shst H (shq H s) r) (L := (sen H 6 0 (shst H (shq H s) r)).2.2) (by omega) ns.2.2.2.2
  unfold shLe hln
  omega
theorem pfF_d {H : Int → Int} {n : Int} (sg : sgn H n) (h : (shs H n).1 = 0) {s k m : Int} (s0 : 0 ≤ s) (s1 : s < 2) (k0 : 0 ≤ k) (m0 : 0 ≤ m) (m2 : m ≤ 2) (hk : k + m ≤ shn H s) : 0 ≤ pfF H s (k + m) - pfF H s k ∧ pfF H s (k + m) - pfF H s k ≤ 84 := by
  rcases (by omega : m = 0 ∨ m = 1 ∨ m = 2) with rfl | rfl | rfl
  · rw [Int.add_zero]; omega
  · have := shLe_r sg h s0 s1 k0 (by omega)
    rw [pfF_s k0]
    omega
  · have a := shLe_r sg h s0 s1 k0 (by omega)
    have b := shLe_r sg h s0 s1 (r := k + 1) (by omega) (by omega)
    rw [show k + 2 = k + 1 + 1 by omega, pfF_s (by omega), pfF_s k0]
    omega
theorem pcS_r {H : Int → Int} {n : Int} (sg : sgn H n) (h : (shs H n).1 = 0) {k i j : Int} (k0 : 0 ≤ k) (k1 : k < 5) (i0 : 0 ≤ i) (j0 : 0 ≤ j) (c : canS H k i j) : (-84 ≤ dfF H k i j ∧ dfF H k i j ≤ 84) ∧ 0 ≤ pcS H k i j ∧ pcS H k i j ≤ 900 := by
  have t := tkF_r k0 k1
  have a := pfF_d sg h (s := 0) (k := i) (m := tkF k 0) (by omega) (by omega) i0 t.1.1 t.1.2 c.1
  have b := pfF_d sg h (s := 1) (k := j) (m := tkF k 1) (by omega) (by omega) j0 t.2.1.1 t.2.1.2 c.2
  have d : -84 ≤ dfF H k i j ∧ dfF H k i j ≤ 84 := by
    unfold dfF
    omega
  refine ⟨d, ?_⟩
  have kc : 0 ≤ kcF k ∧ kcF k ≤ 45 := by
    unfold kcF
    split
    · omega
    · split
      · omega
      · split <;> omega
  unfold pcS
  split
  · omega
  · split <;> omega
theorem bkS_r {H : Int → Int} {n B : Int} (sg : sgn H n) (h : (shs H n).1 = 0) {C : Int → Int → Int} {i j : Int} (i0 : 0 ≤ i) (j0 : 0 ≤ j) (hB : 0 ≤ B) (hC : ∀ x y, 0 ≤ x → 0 ≤ y → x ≤ shn H 0 → y ≤ shn H 1 → 0 ≤ C x y ∧ C x y ≤ B) {m : Int} (m0 : 0 ≤ m) (m5 : m ≤ 5) : ((bkS H C i j m).1 = -1 ∧ (bkS H C i j m).2 = 0 ∧ (∀ k, 0 ≤ k → k < m → ¬ canS H k i j)) ∨ ((0 ≤ (bkS H C i j m).1 ∧ (bkS H C i j m).1 < m) ∧ canS H (bkS H C i j m).1 i j ∧ 0 ≤ (bkS H C i j m).2 ∧ (bkS H C i j m).2 ≤ 900 + B ∧ (bkS H C i j m).2 = pcS H (bkS H C i j m).1 i j + C (i + tkF (bkS H C i j m).1 0) (j + tkF (bkS H C i j m).1 1)) := by
  obtain ⟨q, rfl⟩ := Int.eq_ofNat_of_zero_le m0
  clear m0
  induction q with
  | zero => exact Or.inl ⟨rfl, rfl, fun k a b => by omega⟩
  | succ q ih =>
    have ih := ih (by omega)
    rw [show ((q + 1 : Nat) : Int) = (q : Int) + 1 by omega, bkS_s (by omega)]
    by_cases c : canS H q i j
    · have t := tkF_r (k := (q : Int)) (by omega) (by omega)
      have p := pcS_r sg h (k := (q : Int)) (by omega) (by omega) i0 j0 c
      have cc := hC (i + tkF q 0) (j + tkF q 1) (by omega) (by omega) c.1 c.2
      rw [if_pos c]
      by_cases e : (bkS H C i j q).1 = -1 ∨ pcS H q i j + C (i + tkF q 0) (j + tkF q 1) < (bkS H C i j q).2
      · rw [if_pos e]
        exact Or.inr ⟨by (try dsimp only); omega, c, by (try dsimp only); omega, by (try dsimp only); omega, rfl⟩
      · rw [if_neg e]
        rcases ih with r | r
        · exact absurd (Or.inl r.1) e
        · exact Or.inr ⟨by omega, r.2⟩
    · rw [if_neg c]
      rcases ih with r | r
      · refine Or.inl ⟨r.1, r.2.1, fun k k0 k1 => ?_⟩
        by_cases e : k = q
        · rw [e]; exact c
        · exact r.2.2 k k0 (by omega)
      · exact Or.inr ⟨by omega, r.2⟩
theorem cN_r {H : Int → Int} {n : Int} (sg : sgn H n) (h : (shs H n).1 = 0) : ∀ (f : Nat) (i j : Int), 0 ≤ i → 0 ≤ j → 0 ≤ cN H f i j ∧ cN H f i j ≤ 900 * f
  | 0, i, j, i0, j0 => by
    show 0 ≤ (0 : Int) ∧ (0 : Int) ≤ _
    omega
  | f + 1, i, j, i0, j0 => by
    have r := bkS_r sg h (C := cN H f) (B := 900 * f) i0 j0 (by omega) (fun x y x0 y0 _ _ => cN_r sg h f x y x0 y0) (m := 5) (by omega) (by omega)
    show 0 ≤ (bkS H (cN H f) i j 5).2 ∧ (bkS H (cN H f) i j 5).2 ≤ _
    rcases r with r | r
    · omega
    · omega
theorem coS_r {H : Int → Int} {n : Int} (sg : sgn H n) (h : (shs H n).1 = 0) {i j : Int} (i0 : 0 ≤ i) (j0 : 0 ≤ j) : 0 ≤ coS H i j ∧ coS H i j ≤ 15300 := cN_r sg h 17 i j i0 j0
/-- the kind chosen at a place -/
def kiS (H : Int → Int) (i j : Int) : Int := (bkS H (coS H) i j 5).1
