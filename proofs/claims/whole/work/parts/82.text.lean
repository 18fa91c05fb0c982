/-! TEXTS: what is read, from signs alone. -/
def isL (x : Int) : Bool := decide (97 ≤ x ∧ x ≤ 122)
theorem isL_t {x : Int} (h : isL x = true) : 97 ≤ x ∧ x ≤ 122 := of_decide_eq_true h
theorem isL_f {x : Int} (h : isL x = false) : ¬ (97 ≤ x ∧ x ≤ 122) := of_decide_eq_false h
/-- how many letters stand from a place on; -1: more than seven -/
def wln (H : Int → Int) (q : Int) : Int := first 8 (fun k => !isL (H (q + k)))
theorem fi_before {p : Int → Bool} : ∀ (m : Nat) (k : Int), ∀ j, k ≤ j → j < k + m → (fi p k m = -1 ∧ k ≠ 0 → True) → (j < fi p k m ∨ (fi p k m = -1 ∧ 0 ≤ k)) → p j = false
  | 0, k, j, h1, h2, _, _ => by omega
  | m + 1, k, j, h1, h2, _, h => by
    unfold fi at h
    by_cases c : p k = true
    · rw [if_pos c] at h
      omega
    · rw [if_neg c] at h
      by_cases e : j = k
      · rw [e]; exact Bool.eq_false_iff.mpr c
      · exact fi_before m (k + 1) j (by omega) (by omega) (fun _ => trivial) (by omega)
theorem first_before {p : Int → Bool} {n j : Int} (j0 : 0 ≤ j) (j1 : j < n) (h : j < first n p ∨ first n p = -1) : p j = false := fi_before n.toNat 0 j j0 (by omega) (fun _ => trivial) (by
  unfold first at h
  omega)
theorem wln_le {H : Int → Int} {q : Int} : -1 ≤ wln H q ∧ wln H q ≤ 7 := by
  have h := first_range (p := fun k => !isL (H (q + k))) (n := 8) (by omega)
  unfold wln
  omega
theorem wln_L {H : Int → Int} {q k : Int} (k0 : 0 ≤ k) (k1 : k < 8) (h : k < wln H q ∨ wln H q = -1) : 97 ≤ H (q + k) ∧ H (q + k) ≤ 122 := by
  have b := first_before (p := fun k => !isL (H (q + k))) k0 k1 h
  (try dsimp only at b)
  cases hb : isL (H (q + k))
  · rw [hb] at b
    exact absurd b (by decide)
  · exact isL_t hb
theorem wln_E {H : Int → Int} {q : Int} (h : wln H q ≠ -1) : ¬ (97 ≤ H (q + wln H q) ∧ H (q + wln H q) ≤ 122) := by
  rcases first_range (p := fun k => !isL (H (q + k))) (n := 8) (by omega) with e | e
  · exact absurd e h
  · have b := e.2.2
    (try dsimp only at b)
    cases hb : isL (H (q + first 8 (fun k => !isL (H (q + k)))))
    · exact isL_f hb
    · rw [hb] at b
      exact absurd b (by decide)
def kyW (H : Int → Int) (q : Int) : Int := kof (wln H q) (fun k => H (q + k))
theorem kyW_ok {H : Int → Int} {q : Int} (h : wln H q ≠ -1) : gOK (wln H q) (fun k => H (q + k)) := by
  have l := wln_le (H := H) (q := q)
  exact ⟨by omega, fun k k0 k1 => wln_L k0 (by omega) (Or.inl k1)⟩
theorem lor_hi {j m x : Nat} (hj : j < 31) (hx : x < 32) (hm : m * 2 ^ (j + 5) + x * 2 ^ j < 34359738368) : zlbin 4 ((m * 2 ^ (j + 5) : Nat) : Int) (zlsh 0 (x : Int) (j : Int)) = ((m * 2 ^ (j + 5) + x * 2 ^ j : Nat) : Int) := by
  have s : x <<< j = x * 2 ^ j := Nat.shiftLeft_eq x j
  have lt : x * 2 ^ j < 2 ^ (j + 5) := by
    rw [Nat.pow_add]
    have := Nat.mul_lt_mul_of_lt_of_le hx (Nat.le_refl (2 ^ j)) (Nat.two_pow_pos j)
    omega
  have e := Nat.shiftLeft_add_eq_or_of_lt lt m
  rw [Nat.shiftLeft_eq] at e
  rw [l0 (by omega) (by rw [s]; omega), l4 (by omega) (by rw [s]; omega), s, ← e]
theorem kof_s {k : Int} {g : Int → Int} (h : 0 ≤ k) : kof (k + 1) g = kof k g + (g k - 96) * p32 k := sm_s _ h
theorem lor_key {k x : Int} {g : Int → Int} (h : gOK k g) (k7 : k < 7) (hx : 97 ≤ x ∧ x ≤ 122) : zlbin 4 (kof k g) (zlsh 0 (wr (x - 96)) (5 * (6 - k))) = kof k g + (x - 96) * p32 k := by
  obtain ⟨y, hy⟩ := Int.eq_ofNat_of_zero_le (show 0 ≤ x - 96 by omega)
  have a : ∀ i, 0 ≤ i → 0 ≤ cg k g i ∧ cg k g i ≤ 26 := fun i i0 => cg_le h i0
  have a0 := a 0 (by omega)
  have a1 := a 1 (by omega)
  have a2 := a 2 (by omega)
  have a3 := a 3 (by omega)
  have a4 := a 4 (by omega)
  have a5 := a 5 (by omega)
  have e := kof_h h
  have z : ∀ i, k ≤ i → cg k g i = 0 := fun i hi => if_neg (by omega)
  have h0 := h.1.1
  rw [wr_id (by omega), hy]
  have fin : ∀ (j : Nat) (m : Int), 0 ≤ m → j < 31 → 5 * (6 - k) = (j : Int) → ((2 ^ j : Nat) : Int) = p32 k → kof k g = m * ((2 ^ (j + 5) : Nat) : Int) → kof k g + (y : Int) * p32 k < 34359738368 → zlbin 4 (kof k g) (zlsh 0 (y : Int) (5 * (6 - k))) = kof k g + (y : Int) * p32 k := fun j m m0 hj e1 e2 e3 e4 => by
    obtain ⟨M, rfl⟩ := Int.eq_ofNat_of_zero_le m0
    rw [e1, e3, ← e2]
    rw [e3, ← e2] at e4
    have := lor_hi (j := j) (m := M) (x := y) hj (by omega) (by rw [← Int.natCast_mul, ← Int.natCast_mul, ← Int.natCast_add] at e4; omega)
    rw [Int.natCast_mul, Int.natCast_add, Int.natCast_mul, Int.natCast_mul] at this
    exact this
  rcases (by omega : k = 0 ∨ k = 1 ∨ k = 2 ∨ k = 3 ∨ k = 4 ∨ k = 5 ∨ k = 6) with rfl | rfl | rfl | rfl | rfl | rfl | rfl
  · rw [z 0 (by omega), z 1 (by omega), z 2 (by omega), z 3 (by omega), z 4 (by omega), z 5 (by omega), z 6 (by omega)] at e
    have q : p32 0 = 1073741824 := rfl
    exact fin 30 0 (by omega) (by omega) (by omega) rfl (by omega) (by rw [q]; omega)
  · rw [z 1 (by omega), z 2 (by omega), z 3 (by omega), z 4 (by omega), z 5 (by omega), z 6 (by omega)] at e
    have q : p32 1 = 33554432 := rfl
    have w : ((2 ^ (25 + 5) : Nat) : Int) = 1073741824 := rfl
    exact fin 25 (cg 1 g 0) (by omega) (by omega) (by omega) rfl (by rw [w]; omega) (by rw [q]; omega)
  · rw [z 2 (by omega), z 3 (by omega), z 4 (by omega), z 5 (by omega), z 6 (by omega)] at e
    have q : p32 2 = 1048576 := rfl
    have w : ((2 ^ (20 + 5) : Nat) : Int) = 33554432 := rfl
    exact fin 20 (cg 2 g 0 * 32 + cg 2 g 1) (by omega) (by omega) (by omega) rfl (by rw [w]; omega) (by rw [q]; omega)
  · rw [z 3 (by omega), z 4 (by omega), z 5 (by omega), z 6 (by omega)] at e
    have q : p32 3 = 32768 := rfl
    have w : ((2 ^ (15 + 5) : Nat) : Int) = 1048576 := rfl
    exact fin 15 (cg 3 g 0 * 1024 + cg 3 g 1 * 32 + cg 3 g 2) (by omega) (by omega) (by omega) rfl (by rw [w]; omega) (by rw [q]; omega)
  · rw [z 4 (by omega), z 5 (by omega), z 6 (by omega)] at e
    have q : p32 4 = 1024 := rfl
    have w : ((2 ^ (10 + 5) : Nat) : Int) = 32768 := rfl
    exact fin 10 (cg 4 g 0 * 32768 + cg 4 g 1 * 1024 + cg 4 g 2 * 32 + cg 4 g 3) (by omega) (by omega) (by omega) rfl (by rw [w]; omega) (by rw [q]; omega)
  · rw [z 5 (by omega), z 6 (by omega)] at e
    have q : p32 5 = 32 := rfl
    have w : ((2 ^ (5 + 5) : Nat) : Int) = 1024 := rfl
    exact fin 5 (cg 5 g 0 * 1048576 + cg 5 g 1 * 32768 + cg 5 g 2 * 1024 + cg 5 g 3 * 32 + cg 5 g 4) (by omega) (by omega) (by omega) rfl (by rw [w]; omega) (by rw [q]; omega)
  · rw [z 6 (by omega)] at e
    have q : p32 6 = 1 := rfl
    have w : ((2 ^ (0 + 5) : Nat) : Int) = 32 := rfl
    exact fin 0 (cg 6 g 0 * 33554432 + cg 6 g 1 * 1048576 + cg 6 g 2 * 32768 + cg 6 g 3 * 1024 + cg 6 g 4 * 32 + cg 6 g 5) (by omega) (by omega) (by omega) rfl (by rw [w]; omega) (by rw [q]; omega)
/-- words of a sentence: so many at the most, so many read by now, from a place on: fault, place, words -/
def sen (H : Int → Int) : Nat → Int → Int → Int × Int × Int
  | 0, k, q => (if isL (H q) then 5 else 1, q, k)
  | m + 1, k, q => if wln H q = 0 then (1, q, k) else if wln H q = -1 then (2, q + 7, k) else if H (q + wln H q) = 32 then sen H m (k + 1) (q + wln H q + 1) else (0, q + wln H q, k + 1)
/-- where a sentence's word begins -/
def wst (H : Int → Int) (q i : Int) : Int := fo i q (fun _ x => x + wln H x + 1)
theorem wst_0 {H : Int → Int} {q : Int} : wst H q 0 = q := fo_0 _ _
theorem wst_s {H : Int → Int} {q i : Int} (h : 0 ≤ i) : wst H q (i + 1) = wst H q i + wln H (wst H q i) + 1 := fo_s _ _ h
/-- signs of a text of so many -/
def sgn (H : Int → Int) (n : Int) : Prop := (∀ k, 0 ≤ k → k < n → 0 ≤ H k ∧ H k ≤ 255) ∧ (∀ k, n ≤ k → H k = -1) ∧ 0 ≤ n ∧ n ≤ 240
theorem sgn.lt {H : Int → Int} {n k : Int} (h : sgn H n) (hk : 0 ≤ H k) : k < n := by
  by_cases c : n ≤ k
  · have := h.2.1 k c; omega
  · omega
theorem sgn.wl {H : Int → Int} {n q : Int} (h : sgn H n) (q0 : 0 ≤ q) (qn : q ≤ n) : (wln H q ≠ -1 → q + wln H q ≤ n) ∧ (wln H q = -1 → q + 7 < n) := by
  constructor
  · intro c
    have l := wln_le (H := H) (q := q)
    by_cases z : wln H q = 0
    · omega
    · have a := wln_L (H := H) (q := q) (k := wln H q - 1) (by omega) (by omega) (Or.inl (by omega))
      have := h.lt (k := q + (wln H q - 1)) (by omega)
      omega
  · intro c
    have a := wln_L (H := H) (q := q) (k := 7) (by omega) (by omega) (Or.inr c)
    exact h.lt (by omega)
theorem sen_ok {H : Int → Int} {n q : Int} (h : sgn H n) : ∀ (m : Nat) (k : Int), 0 ≤ k → 0 ≤ wst H q k → wst H q k ≤ n → (0 ≤ (sen H m k (wst H q k)).2.1 ∧ (sen H m k (wst H q k)).2.1 ≤ n) ∧ ((sen H m k (wst H q k)).1 = 0 → (k < (sen H m k (wst H q k)).2.2 ∧ (sen H m k (wst H q k)).2.2 ≤ k + m) ∧ (∀ i, k ≤ i → i < (sen H m k (wst H q k)).2.2 → (0 ≤ wst H q i ∧ wst H q i ≤ n) ∧ 1 ≤ wln H (wst H q i) ∧ wln H (wst H q i) ≤ 7) ∧ (sen H m k (wst H q k)).2.1 = wst H q ((sen H m k (wst H q k)).2.2 - 1) + wln H (wst H q ((sen H m k (wst H q k)).2.2 - 1)) ∧ H (sen H m k (wst H q k)).2.1 ≠ 32 ∧ wst H q k < (sen H m k (wst H q k)).2.1 ∧ (∀ i, k ≤ i → i < (sen H m k (wst H q k)).2.2 - 1 → H (wst H q i + wln H (wst H q i)) = 32))
  | 0, k, k0, q0, qn => by
    unfold sen
    refine ⟨⟨q0, qn⟩, fun hh => ?_⟩
    (try dsimp only at hh)
    split at hh <;> omega
  | m + 1, k, k0, q0, qn => by
    have w := h.wl q0 qn
    have l := wln_le (H := H) (q := wst H q k)
    unfold sen
    by_cases c1 : wln H (wst H q k) = 0
    · rw [if_pos c1]
      exact ⟨⟨q0, qn⟩, fun hh => absurd hh (by simp)⟩
    · rw [if_neg c1]
      by_cases c2 : wln H (wst H q k) = -1
      · rw [if_pos c2]
        exact ⟨⟨by (try dsimp only); omega, by have := w.2 c2; (try dsimp only); omega⟩, fun hh => absurd hh (by simp)⟩
      · rw [if_neg c2]
        have w1 := w.1 c2
        by_cases c3 : H (wst H q k + wln H (wst H q k)) = 32
        · rw [if_pos c3]
          have lt := h.lt (k := wst H q k + wln H (wst H q k)) (by omega)
          have es := wst_s (H := H) (q := q) k0
          have r := sen_ok (q := q) h m (k + 1) (by omega) (by omega) (by omega)
          rw [es] at r
          refine ⟨r.1, fun hh => ?_⟩
          have r2 := r.2 hh
          refine ⟨by omega, fun i i0 i1 => ?_, r2.2.2.1, r2.2.2.2.1, by omega, fun i i0 i1 => ?_⟩
          · by_cases e : i = k
            · rw [e]; omega
            · exact r2.2.1 i (by omega) i1
          · by_cases e : i = k
            · rw [e]; exact c3
            · exact r2.2.2.2.2.2 i (by omega) i1
        · rw [if_neg c3]
          refine ⟨⟨by (try dsimp only); omega, by (try dsimp only); omega⟩, fun hh => ?_⟩
          (try dsimp only)
          rw [show k + 1 - 1 = k by omega]
          refine ⟨by omega, fun i i0 i1 => ?_, rfl, c3, by omega, fun i i0 i1 => by omega⟩
          have e : i = k := by omega
          rw [e]
          omega
