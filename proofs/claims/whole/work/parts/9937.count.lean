/-! THE BITS OF A LONG COUNTED. -/
theorem and_127 (x : Nat) : x &&& 127 = x % 128 := by
  have := Nat.and_two_pow_sub_one_eq_mod x 7
  exact this
theorem b127 {x : Nat} : zbin 3 (x : Int) 127 = ((x % 128 : Nat) : Int) := by
  have e : Int32.ofInt (x : Int) &&& Int32.ofInt ((127 : Nat) : Int) = Int32.ofInt ((x % 128 : Nat) : Int) := by
    apply Int32.toBitVec_inj.mp
    rw [Int32.toBitVec_and, o32, o32, o32]
    apply BitVec.eq_of_toNat_eq
    rw [BitVec.toNat_and, BitVec.toNat_ofNat, BitVec.toNat_ofNat, BitVec.toNat_ofNat, Nat.mod_eq_of_lt (show 127 < 2 ^ 32 by decide), and_127]
    have : 2 ^ 32 = 4294967296 := by decide
    omega
  show (Int32.ofInt (x : Int) &&& Int32.ofInt ((127 : Nat) : Int)).toInt = _
  rw [e]
  exact i32n (by omega)
def q5 (x : Nat) : Nat := x - ((x / 2) &&& 6148914691236517205)
def p5 (M x : Nat) : Nat := x - ((x / 2) &&& M)
def p3 (M y : Nat) : Nat := (y &&& M) + ((y / 4) &&& M)
def p0 (M z : Nat) : Nat := (z + z / 16) &&& M
theorem and_by (a b : Nat) : (a &&& b) % 256 = (a % 256) &&& (b % 256) ∧ (a &&& b) / 256 = (a / 256) &&& (b / 256) := ⟨by
  have := Nat.and_mod_two_pow (a := a) (b := b) (n := 8)
  exact this, by
  have := Nat.and_div_two_pow (a := a) (b := b) (n := 8)
  exact this⟩
theorem z55 : ∀ b : Nat, b < 256 → (b / 2 + 128) &&& 85 = (b / 2) &&& 85 ∧ (b / 2) &&& 85 ≤ b := by decide +kernel
theorem p5_by {M N x : Nat} (hM : M % 256 = 85) (hN : M / 256 = N) : p5 M x % 256 = x % 256 - ((x % 256 / 2) &&& 85) ∧ p5 M x / 256 = p5 N (x / 256) := by
  have a := and_by (x / 2) M
  rw [hM, hN] at a
  have z := z55 (x % 256) (by omega)
  have e : ((x / 2) % 256) &&& 85 = (x % 256 / 2) &&& 85 := by
    rcases (by omega : (x / 2) % 256 = x % 256 / 2 ∨ (x / 2) % 256 = x % 256 / 2 + 128) with h | h
    · rw [h]
    · rw [h]; exact z.1
  rw [e, show x / 2 / 256 = x / 256 / 2 by omega] at a
  have l : (x / 256 / 2) &&& N ≤ x / 256 / 2 := Nat.and_le_left
  unfold p5
  omega
theorem z33 : ∀ b : Nat, b < 64 → ∀ c : Nat, c < 4 → (b + 64 * c) &&& 51 = b &&& 51 := by decide +kernel
theorem z33b : ∀ b : Nat, b < 256 → (b &&& 51) + ((b / 4) &&& 51) ≤ 102 ∧ ((b &&& 51) + ((b / 4) &&& 51)) % 16 ≤ 6 := by decide +kernel
theorem p3_by {M N y : Nat} (hM : M % 256 = 51) (hN : M / 256 = N) : p3 M y % 256 = p3 51 (y % 256) ∧ p3 M y / 256 = p3 N (y / 256) ∧ p3 51 (y % 256) ≤ 102 ∧ p3 51 (y % 256) % 16 ≤ 6 := by
  have a := and_by y M
  have b := and_by (y / 4) M
  rw [hM, hN] at a b
  have z := z33b (y % 256) (by omega)
  have e : ((y / 4) % 256) &&& 51 = (y % 256 / 4) &&& 51 := by
    have h : (y / 4) % 256 = y % 256 / 4 + 64 * ((y / 4) % 256 / 64) := by omega
    rw [h]
    exact z33 _ (by omega) _ (by omega)
  rw [e, show y / 4 / 256 = y / 256 / 4 by omega] at b
  unfold p3
  omega
theorem and_15 (x : Nat) : x &&& 15 = x % 16 := by
  have := Nat.and_two_pow_sub_one_eq_mod x 4
  exact this
theorem p0_by {M N z : Nat} (hM : M % 256 = 15) (hN : M / 256 = N) (h1 : z % 256 ≤ 102) (h2 : z / 256 % 16 ≤ 6) : p0 M z % 256 = (z % 256 + z % 256 / 16) % 16 ∧ p0 M z / 256 = p0 N (z / 256) := by
  have a := and_by (z + z / 16) M
  rw [hM, hN, and_15] at a
  have e : (z + z / 16) / 256 = z / 256 + z / 256 / 16 := by omega
  rw [e] at a
  unfold p0
  omega
/-- the bits of a byte -/
def pb8 (b : Nat) : Nat := (b % 2) + (b / 2 % 2) + (b / 4 % 2) + (b / 8 % 2) + (b / 16 % 2) + (b / 32 % 2) + (b / 64 % 2) + (b / 128 % 2)
theorem z_pb8 : ∀ b : Nat, b < 256 → (p3 51 (b - ((b / 2) &&& 85)) + p3 51 (b - ((b / 2) &&& 85)) / 16) % 16 = pb8 b := by decide +kernel
def pA (M5 M3 M0 x : Nat) : Nat := p0 M0 (p3 M3 (p5 M5 x))
theorem pA_by {M5 M3 M0 N5 N3 N0 x : Nat} (h5 : M5 % 256 = 85) (g5 : M5 / 256 = N5) (h3 : M3 % 256 = 51) (g3 : M3 / 256 = N3) (h0 : M0 % 256 = 15) (g0 : M0 / 256 = N0) (hN : N3 % 256 = 51 ∨ N3 = 0) : pA M5 M3 M0 x = pb8 (x % 256) + 256 * pA N5 N3 N0 (x / 256) := by
  obtain ⟨a1, a2⟩ := p5_by (x := x) h5 g5
  obtain ⟨b1, b2, b3, b4⟩ := p3_by (y := p5 M5 x) h3 g3
  have n : p3 M3 (p5 M5 x) / 256 % 16 ≤ 6 := by
    rw [b2]
    rcases hN with h | h
    · obtain ⟨c1, -, -, c4⟩ := p3_by (y := p5 M5 x / 256) h rfl
      omega
    · rw [h]
      unfold p3
      rw [Nat.and_zero, Nat.and_zero]
      omega
  obtain ⟨c1, c2⟩ := p0_by (z := p3 M3 (p5 M5 x)) h0 g0 (by omega) n
  have z := z_pb8 (x % 256) (by omega)
  rw [b1, a1, z] at c1
  rw [b2, a2] at c2
  unfold pA
  omega
theorem pA_0 (M5 M3 : Nat) (x : Nat) : pA M5 M3 0 x = 0 := by
  unfold pA p0
  exact Nat.and_zero _
theorem pb8_le (b : Nat) : pb8 b ≤ 8 := by
  unfold pb8
  omega
/-- the bits of five bytes -/
def pb40 (x : Nat) : Nat := pb8 (x % 256) + pb8 (x / 256 % 256) + pb8 (x / 65536 % 256) + pb8 (x / 16777216 % 256) + pb8 (x / 4294967296 % 256)
theorem pA_5 {x : Nat} (hx : x < 1099511627776) : pA 6148914691236517205 3689348814741910323 1085102592571150095 x = pb8 (x % 256) + 256 * (pb8 (x / 256 % 256) + 256 * (pb8 (x / 65536 % 256) + 256 * (pb8 (x / 16777216 % 256) + 256 * pb8 (x / 4294967296 % 256)))) := by
  have z : ∀ M5 M3 M0 : Nat, pA M5 M3 M0 0 = 0 := fun M5 M3 M0 => by
    unfold pA p0 p3 p5
    simp
  rw [pA_by (N5 := 24019198012642645) (N3 := 14411518807585587) (N0 := 4238682002231055) (by decide) (by decide) (by decide) (by decide) (by decide) (by decide) (by decide), pA_by (N5 := 93824992236885) (N3 := 56294995342131) (N0 := 16557351571215) (by decide) (by decide) (by decide) (by decide) (by decide) (by decide) (by decide), pA_by (N5 := 366503875925) (N3 := 219902325555) (N0 := 64677154575) (by decide) (by decide) (by decide) (by decide) (by decide) (by decide) (by decide), pA_by (N5 := 1431655765) (N3 := 858993459) (N0 := 252645135) (by decide) (by decide) (by decide) (by decide) (by decide) (by decide) (by decide), pA_by (N5 := 5592405) (N3 := 3355443) (N0 := 986895) (by decide) (by decide) (by decide) (by decide) (by decide) (by decide) (by decide), show x / 256 / 256 / 256 / 256 / 256 = 0 by omega, z, show x / 256 / 256 / 256 / 256 % 256 = x / 4294967296 % 256 by omega, show x / 256 / 256 / 256 % 256 = x / 16777216 % 256 by omega, show x / 256 / 256 % 256 = x / 65536 % 256 by omega, Nat.mul_zero, Nat.add_zero]
theorem pb8_bits (x k : Nat) : ((pb8 (x / 2 ^ k % 256) : Nat) : Int) = bi (x.testBit k) + bi (x.testBit (k + 1)) + bi (x.testBit (k + 2)) + bi (x.testBit (k + 3)) + bi (x.testBit (k + 4)) + bi (x.testBit (k + 5)) + bi (x.testBit (k + 6)) + bi (x.testBit (k + 7)) := by
  have t : ∀ i : Nat, bi (x.testBit (k + i)) = ((x / 2 ^ k / 2 ^ i % 2 : Nat) : Int) := fun i => by
    rw [show k + i = i + k by omega, ← Nat.testBit_div_two_pow x i, Nat.testBit_eq_decide_div_mod_eq]
    rcases (by omega : x / 2 ^ k / 2 ^ i % 2 = 0 ∨ x / 2 ^ k / 2 ^ i % 2 = 1) with h | h
    · rw [h]; rfl
    · rw [h]; rfl
  have t0 := t 0
  have t1 := t 1
  have t2 := t 2
  have t3 := t 3
  have t4 := t 4
  have t5 := t 5
  have t6 := t 6
  have t7 := t 7
  rw [Nat.add_zero] at t0
  rw [t0, t1, t2, t3, t4, t5, t6, t7]
  generalize x / 2 ^ k = y
  unfold pb8
  omega
theorem sm8 (g : Int → Int) {k : Int} (h : 0 ≤ k) : sm (k + 8) g = sm k g + (g k + g (k + 1) + g (k + 2) + g (k + 3) + g (k + 4) + g (k + 5) + g (k + 6) + g (k + 7)) := by
  rw [show k + 8 = k + 7 + 1 by omega, sm_s _ (by omega), show k + 7 = k + 6 + 1 by omega, sm_s _ (by omega), show k + 6 = k + 5 + 1 by omega, sm_s _ (by omega), show k + 5 = k + 4 + 1 by omega, sm_s _ (by omega), show k + 4 = k + 3 + 1 by omega, sm_s _ (by omega), show k + 3 = k + 2 + 1 by omega, sm_s _ (by omega), show k + 2 = k + 1 + 1 by omega, sm_s _ (by omega), sm_s _ h]
  omega
theorem pb40_bits (x : Nat) : ((pb40 x : Nat) : Int) = sm 40 (fun k => bi (x.testBit k.toNat)) := by
  have b0 := pb8_bits x 0
  have b1 := pb8_bits x 8
  have b2 := pb8_bits x 16
  have b3 := pb8_bits x 24
  have b4 := pb8_bits x 32
  rw [show (40 : Int) = 32 + 8 from rfl, sm8 _ (by omega), show (32 : Int) = 24 + 8 from rfl, sm8 _ (by omega), show (24 : Int) = 16 + 8 from rfl, sm8 _ (by omega), show (16 : Int) = 8 + 8 from rfl, sm8 _ (by omega), show (8 : Int) = 0 + 8 from rfl, sm8 _ (by omega), sm_z]
  rw [show x / 2 ^ 0 % 256 = x % 256 by omega] at b0
  rw [show (2 : Nat) ^ 8 = 256 by decide] at b1
  rw [show (2 : Nat) ^ 16 = 65536 by decide] at b2
  rw [show (2 : Nat) ^ 24 = 16777216 by decide] at b3
  rw [show (2 : Nat) ^ 32 = 4294967296 by decide] at b4
  have e : ((pb40 x : Nat) : Int) = ((pb8 (x % 256) : Nat) : Int) + ((pb8 (x / 256 % 256) : Nat) : Int) + ((pb8 (x / 65536 % 256) : Nat) : Int) + ((pb8 (x / 16777216 % 256) : Nat) : Int) + ((pb8 (x / 4294967296 % 256) : Nat) : Int) := by
    unfold pb40
    omega
  rw [e, b0, b1, b2, b3, b4]
  clear b0 b1 b2 b3 b4 e
  rw [Int.zero_add]
  rfl
theorem zcs3 (x y : Nat) (hx : x < 9223372036854775808) (hy : y < 9223372036854775808) : zlbin 3 (x : Int) (y : Int) = ((x &&& y : Nat) : Int) := l3 hx hy
theorem zsh1 (x k : Nat) (hx : x < 9223372036854775808) (hk : k < 64) : zlsh 1 (x : Int) (k : Int) = ((x / 2 ^ k : Nat) : Int) := by
  rw [l1 hx hk, Nat.shiftRight_eq_div_pow]
section
variable {P : zP} {d : zD P}
theorem k_bits (x : Nat) (hx : x < 1099511627776) : bcL_bitCount d (x : Int) = some (sm 40 (fun k => bi (x.testBit k.toNat)), d) := by
  have a1 : zlsh 1 (x : Int) 1 = ((x / 2 : Nat) : Int) := zsh1 x 1 (by omega) (by omega)
  have a2 : zlbin 3 ((x / 2 : Nat) : Int) 6148914691236517205 = (((x / 2) &&& 6148914691236517205 : Nat) : Int) := zcs3 _ 6148914691236517205 (by omega) (by omega)
  have a3 : (x : Int) - (((x / 2) &&& 6148914691236517205 : Nat) : Int) = ((p5 6148914691236517205 x : Nat) : Int) := by
    have : (x / 2) &&& 6148914691236517205 ≤ x / 2 := Nat.and_le_left
    unfold p5
    omega
  have e5 : p5 6148914691236517205 x ≤ x := Nat.sub_le _ _
  obtain ⟨y, hy⟩ : ∃ y, y = p5 6148914691236517205 x := ⟨_, rfl⟩
  rw [← hy] at a3 e5
  have a4 : zlsh 1 (y : Int) 2 = ((y / 4 : Nat) : Int) := zsh1 y 2 (by omega) (by omega)
  have a5 : zlbin 3 (y : Int) 3689348814741910323 = ((y &&& 3689348814741910323 : Nat) : Int) := zcs3 _ 3689348814741910323 (by omega) (by omega)
  have a6 : zlbin 3 ((y / 4 : Nat) : Int) 3689348814741910323 = (((y / 4) &&& 3689348814741910323 : Nat) : Int) := zcs3 _ 3689348814741910323 (by omega) (by omega)
  have a7 : ((y &&& 3689348814741910323 : Nat) : Int) + (((y / 4) &&& 3689348814741910323 : Nat) : Int) = ((p3 3689348814741910323 y : Nat) : Int) := by
    unfold p3
    omega
  have e3 : p3 3689348814741910323 y ≤ y + y / 4 := by
    have u : y &&& 3689348814741910323 ≤ y := Nat.and_le_left
    have v : (y / 4) &&& 3689348814741910323 ≤ y / 4 := Nat.and_le_left
    unfold p3
    omega
  obtain ⟨z, hz⟩ : ∃ z, z = p3 3689348814741910323 y := ⟨_, rfl⟩
  rw [← hz] at a7 e3
  have a8 : zlsh 1 (z : Int) 4 = ((z / 16 : Nat) : Int) := zsh1 z 4 (by omega) (by omega)
  have a9 : zlbin 3 ((z : Int) + ((z / 16 : Nat) : Int)) 1085102592571150095 = ((p0 1085102592571150095 z : Nat) : Int) := by
    have := zcs3 (z + z / 16) 1085102592571150095 (by omega) (by omega)
    rw [show (z : Int) + ((z / 16 : Nat) : Int) = ((z + z / 16 : Nat) : Int) by omega]
    exact this
  obtain ⟨w, hw⟩ : ∃ w, w = p0 1085102592571150095 z := ⟨_, rfl⟩
  rw [← hw] at a9
  have ew : w = pA 6148914691236517205 3689348814741910323 1085102592571150095 x := by
    unfold pA
    rw [hw, hz, hy]
  rw [pA_5 hx] at ew
  have c0 := pb8_le (x % 256)
  have c1 := pb8_le (x / 256 % 256)
  have c2 := pb8_le (x / 65536 % 256)
  have c3 := pb8_le (x / 16777216 % 256)
  have c4 := pb8_le (x / 4294967296 % 256)
  have b1 : zlsh 1 (w : Int) 8 = ((w / 256 : Nat) : Int) := zsh1 w 8 (by omega) (by omega)
  obtain ⟨t, ht⟩ : ∃ t, t = w + w / 256 := ⟨_, rfl⟩
  have b2 : (w : Int) + ((w / 256 : Nat) : Int) = (t : Int) := by omega
  have b3 : zlsh 1 (t : Int) 16 = ((t / 65536 : Nat) : Int) := zsh1 t 16 (by omega) (by omega)
  obtain ⟨u, hu⟩ : ∃ u, u = t + t / 65536 := ⟨_, rfl⟩
  have b4 : (t : Int) + ((t / 65536 : Nat) : Int) = (u : Int) := by omega
  have b5 : zlsh 1 (u : Int) 32 = ((u / 4294967296 : Nat) : Int) := zsh1 u 32 (by omega) (by omega)
  obtain ⟨v, hv⟩ : ∃ v, v = u + u / 4294967296 := ⟨_, rfl⟩
  have b6 : (u : Int) + ((u / 4294967296 : Nat) : Int) = (v : Int) := by omega
  have ev : v % 128 = pb40 x := by
    unfold pb40
    clear a1 a2 a3 a4 a5 a6 a7 a8 a9 b1 b2 b3 b4 b5 b6 hy hz hw e5 e3 hx
    generalize pb8 (x % 256) = n0 at *
    generalize pb8 (x / 256 % 256) = n1 at *
    generalize pb8 (x / 65536 % 256) = n2 at *
    generalize pb8 (x / 16777216 % 256) = n3 at *
    generalize pb8 (x / 4294967296 % 256) = n4 at *
    have g1 : w / 256 = n1 + 256 * (n2 + 256 * (n3 + 256 * n4)) := by omega
    have g2 : t = (n0 + n1) + 256 * (n1 + n2) + 65536 * ((n2 + n3) + 256 * (n3 + n4) + 65536 * n4) := by omega
    have g3 : t / 65536 = (n2 + n3) + 256 * (n3 + n4) + 65536 * n4 := by omega
    have g4 : u = (n0 + n1 + n2 + n3) + 256 * (n1 + n2 + n3 + n4) + 65536 * (n2 + n3 + n4) + 16777216 * (n3 + n4) + 4294967296 * n4 := by omega
    have g5 : u / 4294967296 = n4 := by omega
    have g6 : v = (n0 + n1 + n2 + n3 + n4) + 128 * (2 * (n1 + n2 + n3 + n4) + 512 * (n2 + n3 + n4) + 131072 * (n3 + n4) + 33554432 * n4) := by omega
    rw [g6, Nat.add_mul_mod_self_left]
    exact Nat.mod_eq_of_lt (by omega)
  rw [bcL_bitCount_e]
  simp only [a1, a2, a3, a4, a5, a6, a7, a8, a9, b1, b2, b3, b4, b5, b6]
  rw [b127, ev, pb40_bits]
end
