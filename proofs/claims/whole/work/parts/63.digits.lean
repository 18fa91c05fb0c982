/-! PHRASES: the words read out of a key. -/
theorem b3m {a : Int} (h : 0 ≤ a) : zbin 3 a 63 = a % 64 := by
  obtain ⟨n, rfl⟩ := Int.eq_ofNat_of_zero_le h
  have e : Int32.ofInt (n : Int) &&& Int32.ofInt ((63 : Nat) : Int) = Int32.ofInt ((n % 64 : Nat) : Int) := by
    apply Int32.toBitVec_inj.mp
    rw [Int32.toBitVec_and, o32, o32, o32]
    apply BitVec.eq_of_toNat_eq
    rw [BitVec.toNat_and, BitVec.toNat_ofNat, BitVec.toNat_ofNat, BitVec.toNat_ofNat, show (63 % 2 ^ 32 : Nat) = 2 ^ 6 - 1 by decide, Nat.and_two_pow_sub_one_eq_mod]
    omega
  show (Int32.ofInt (n : Int) &&& Int32.ofInt ((63 : Nat) : Int)).toInt = _
  rw [e, i32n (by omega)]
  omega
theorem sh1 {v q : Int} {k : Nat} (h0 : 0 ≤ v) (h1 : v < 9223372036854775808) (hk : k < 64) (hq : q = 2 ^ k) : zlsh 1 v (k : Int) = v / q := by
  obtain ⟨n, rfl⟩ := Int.eq_ofNat_of_zero_le h0
  rw [l1 (by omega) hk, Nat.shiftRight_eq_div_pow, hq]
  simp
theorem dig41 {x A : Int} (h0 : 0 ≤ x) (h1 : x < A * 41) : ∃ q r, 0 ≤ r ∧ r < 41 ∧ 0 ≤ q ∧ q < A ∧ x = 41 * q + r := ⟨x / 41, x % 41, by omega, by omega, by omega, by omega, by omega⟩
theorem dig6 {x : Int} (h0 : 0 ≤ x) (h1 : x < 4750104241) : ∃ a b c e f g : Int, (0 ≤ a ∧ a < 41 ∧ 0 ≤ b ∧ b < 41 ∧ 0 ≤ c ∧ c < 41 ∧ 0 ≤ e ∧ e < 41 ∧ 0 ≤ f ∧ f < 41 ∧ 0 ≤ g ∧ g < 41) ∧ x = 68921 * (41 * (41 * a + b) + c) + (41 * (41 * e + f) + g) ∧ ph6 x = 262144 * (64 * (64 * a + b) + c) + (64 * (64 * e + f) + g) := by
  obtain ⟨q1, g, g0, g1, q10, q11, rfl⟩ := dig41 (A := 115856201) h0 (by omega)
  obtain ⟨q2, f, f0, f1, q20, q21, rfl⟩ := dig41 (A := 2825761) q10 (by omega)
  obtain ⟨q3, e, e0, e1, q30, q31, rfl⟩ := dig41 (A := 68921) q20 (by omega)
  obtain ⟨q4, c, c0, c1, q40, q41, rfl⟩ := dig41 (A := 1681) q30 (by omega)
  obtain ⟨a, b, b0, b1, a0, a1, rfl⟩ := dig41 (A := 41) q40 (by omega)
  refine ⟨a, b, c, e, f, g, ⟨a0, a1, b0, b1, c0, c1, e0, e1, f0, f1, g0, g1⟩, by omega, ?_⟩
  unfold ph6
  rw [pha_at g0 g1, pha_at f0 f1, pha_at e0 e1, pha_at c0 c1, pha_at b0 b1]
  omega
/-- the row of a key, on the told side (0) or on the other (1) -/
def rwK (x s : Int) : Int := if s = 0 then x / 68921 else x % 68921
/-- the word at a place of a row -/
def wdK (r i : Int) : Int := if i = 0 then r / 1681 - 1 else if i = 1 then r / 41 % 41 - 1 else r % 41 - 1
theorem sh_3 {a b c q : Int} (hq : 1 ≤ q) (hc0 : 0 ≤ c) (hc : c < q) (h : a = q * b + c) : a / q = b := by
  rw [h, Int.add_comm, Int.add_mul_ediv_left _ _ (by omega), Int.ediv_eq_zero_of_lt hc0 hc]
  omega
theorem ph6_digit {x : Int} (h0 : 0 ≤ x) (h1 : x < 4750104241) {s i : Int} (hs0 : 0 ≤ s) (hs1 : s < 2) (hi0 : 0 ≤ i) (hi1 : i < 3) : zbin 3 (zlsh 1 (if s = 0 then zlsh 1 (ph6 x) 18 else ph6 x) (6 * (2 - i))) 63 - 1 = wdK (rwK x s) i := by
  obtain ⟨a, b, c, e, f, g, hb, hx, hp⟩ := dig6 h0 h1
  have e18 : zlsh 1 (ph6 x) 18 = 64 * (64 * a + b) + c := by
    rw [show (18 : Int) = ((18 : Nat) : Int) from rfl, sh1 (q := 262144) (by omega) (by omega) (by omega) rfl, hp]
    omega
  have rows : rwK x 0 = 41 * (41 * a + b) + c ∧ rwK x 1 = 41 * (41 * e + f) + g := by
    unfold rwK
    rw [if_pos rfl, if_neg (by decide), hx]
    constructor <;> omega
  have key : ∀ (v a b c : Int), 0 ≤ v → v < 68719476736 → 0 ≤ a → a < 41 → 0 ≤ b → b < 41 → 0 ≤ c → c < 41 → (∃ h, 0 ≤ h ∧ v = 262144 * h + (64 * (64 * a + b) + c)) → zbin 3 (zlsh 1 v (6 * (2 - i))) 63 - 1 = wdK (41 * (41 * a + b) + c) i := by
    intro v a b c v0 v1 a0 a1 b0 b1 c0 c1 hv
    obtain ⟨h, hh, hv⟩ := hv
    rcases (by omega : i = 0 ∨ i = 1 ∨ i = 2) with rfl | rfl | rfl
    · rw [show (6 * (2 - 0) : Int) = ((12 : Nat) : Int) from rfl, sh1 (q := 4096) v0 (by omega) (by omega) rfl, b3m (by omega)]
      have : v / 4096 = 64 * h + a := by omega
      have t : (41 * (41 * a + b) + c) / 1681 = a := by clear hp hx hb rows e18 this hv; omega
      have u : (64 * h + a) % 64 = a := by clear hp hx hb rows e18 this hv; omega
      rw [this]
      unfold wdK
      rw [if_pos rfl, t, u]
    · rw [show (6 * (2 - 1) : Int) = ((6 : Nat) : Int) from rfl, sh1 (q := 64) v0 (by omega) (by omega) rfl, b3m (by omega)]
      have : v / 64 = 64 * (64 * h + a) + b := by omega
      have t : (41 * (41 * a + b) + c) / 41 = 41 * a + b := by omega
      rw [this]
      unfold wdK
      rw [if_neg (by decide), if_pos rfl, t]
      omega
    · rw [show (6 * (2 - 2) : Int) = ((0 : Nat) : Int) from rfl, sh1 (q := 1) v0 (by omega) (by omega) rfl, b3m (by omega)]
      unfold wdK
      rw [if_neg (by decide), if_neg (by decide)]
      omega
  rcases (by omega : s = 0 ∨ s = 1) with rfl | rfl
  · rw [if_pos rfl, e18, rows.1]
    exact key _ a b c (by omega) (by omega) (by omega) (by omega) (by omega) (by omega) (by omega) (by omega) ⟨0, by omega, by omega⟩
  · rw [if_neg (by decide), rows.2]
    exact key _ e f g (by omega) (by omega) (by omega) (by omega) (by omega) (by omega) (by omega) (by omega) ⟨64 * (64 * a + b) + c, by omega, by omega⟩
theorem ph6_row {x y : Int} (h0 : 0 ≤ x) (h1 : x < 4750104241) (k0 : 0 ≤ y) (k1 : y < 4750104241) : wrl (zlsh 1 (ph6 x) 18) = zlsh 1 (ph6 x) 18 ∧ (zlsh 1 (ph6 x) 18 = zlsh 1 (ph6 y) 18 ↔ rwK x 0 = rwK y 0) := by
  obtain ⟨a, b, c, e, f, g, hb, hx, hp⟩ := dig6 h0 h1
  obtain ⟨a', b', c', e', f', g', hb', hx', hp'⟩ := dig6 k0 k1
  have e1 : zlsh 1 (ph6 x) 18 = 64 * (64 * a + b) + c := by
    rw [show (18 : Int) = ((18 : Nat) : Int) from rfl, sh1 (q := 262144) (by omega) (by omega) (by omega) rfl, hp]
    omega
  have e2 : zlsh 1 (ph6 y) 18 = 64 * (64 * a' + b') + c' := by
    rw [show (18 : Int) = ((18 : Nat) : Int) from rfl, sh1 (q := 262144) (by omega) (by omega) (by omega) rfl, hp']
    omega
  have r1 : rwK x 0 = 41 * (41 * a + b) + c := by
    unfold rwK
    rw [if_pos rfl, hx]
    omega
  have r2 : rwK y 0 = 41 * (41 * a' + b') + c' := by
    unfold rwK
    rw [if_pos rfl, hx']
    omega
  rw [e1, e2, r1, r2]
  refine ⟨wrl_id (by omega), ?_, ?_⟩ <;> intro h <;> omega
