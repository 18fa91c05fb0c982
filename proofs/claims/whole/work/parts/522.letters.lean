/-! LETTERS of the class's words. -/
def cg (n : Int) (g : Int → Int) (k : Int) : Int := if k < n then g k - 96 else 0
def gOK (n : Int) (g : Int → Int) : Prop := (0 ≤ n ∧ n ≤ 7) ∧ ∀ k, 0 ≤ k → k < n → 97 ≤ g k ∧ g k ≤ 122
theorem cg_le {n : Int} {g : Int → Int} (h : gOK n g) {k : Int} (hk : 0 ≤ k) : 0 ≤ cg n g k ∧ cg n g k ≤ 26 := by
  unfold cg
  split
  · have := h.2 k hk (by assumption); omega
  · omega
theorem kof_h {n : Int} {g : Int → Int} (h : gOK n g) : kof n g = cg n g 0 * 1073741824 + cg n g 1 * 33554432 + cg n g 2 * 1048576 + cg n g 3 * 32768 + cg n g 4 * 1024 + cg n g 5 * 32 + cg n g 6 := by
  have p0 : p32 0 = 1073741824 := rfl
  have p1 : p32 1 = 33554432 := rfl
  have p2 : p32 2 = 1048576 := rfl
  have p3 : p32 3 = 32768 := rfl
  have p4 : p32 4 = 1024 := rfl
  have p5 : p32 5 = 32 := rfl
  have p6 : p32 6 = 1 := rfl
  have s1 : sm 1 (fun k => (g k - 96) * p32 k) = (g 0 - 96) * 1073741824 := by
    have := sm_s (k := 0) (fun k => (g k - 96) * p32 k) (by omega)
    rw [sm_z, p0] at this
    rw [show (1 : Int) = 0 + 1 by omega, this]
    omega
  have s2 : sm 2 (fun k => (g k - 96) * p32 k) = (g 0 - 96) * 1073741824 + (g 1 - 96) * 33554432 := by
    have := sm_s (k := 1) (fun k => (g k - 96) * p32 k) (by omega)
    rw [p1, s1] at this
    exact this
  have s3 : sm 3 (fun k => (g k - 96) * p32 k) = (g 0 - 96) * 1073741824 + (g 1 - 96) * 33554432 + (g 2 - 96) * 1048576 := by
    have := sm_s (k := 2) (fun k => (g k - 96) * p32 k) (by omega)
    rw [p2, s2] at this
    exact this
  have s4 : sm 4 (fun k => (g k - 96) * p32 k) = (g 0 - 96) * 1073741824 + (g 1 - 96) * 33554432 + (g 2 - 96) * 1048576 + (g 3 - 96) * 32768 := by
    have := sm_s (k := 3) (fun k => (g k - 96) * p32 k) (by omega)
    rw [p3, s3] at this
    exact this
  have s5 : sm 5 (fun k => (g k - 96) * p32 k) = (g 0 - 96) * 1073741824 + (g 1 - 96) * 33554432 + (g 2 - 96) * 1048576 + (g 3 - 96) * 32768 + (g 4 - 96) * 1024 := by
    have := sm_s (k := 4) (fun k => (g k - 96) * p32 k) (by omega)
    rw [p4, s4] at this
    exact this
  have s6 : sm 6 (fun k => (g k - 96) * p32 k) = (g 0 - 96) * 1073741824 + (g 1 - 96) * 33554432 + (g 2 - 96) * 1048576 + (g 3 - 96) * 32768 + (g 4 - 96) * 1024 + (g 5 - 96) * 32 := by
    have := sm_s (k := 5) (fun k => (g k - 96) * p32 k) (by omega)
    rw [p5, s5] at this
    exact this
  have s7 : sm 7 (fun k => (g k - 96) * p32 k) = (g 0 - 96) * 1073741824 + (g 1 - 96) * 33554432 + (g 2 - 96) * 1048576 + (g 3 - 96) * 32768 + (g 4 - 96) * 1024 + (g 5 - 96) * 32 + (g 6 - 96) := by
    have := sm_s (k := 6) (fun k => (g k - 96) * p32 k) (by omega)
    rw [p6, s6, Int.mul_one] at this
    exact this
  obtain ⟨⟨h0, h1⟩, -⟩ := h
  unfold kof cg
  rcases (by omega : n = 0 ∨ n = 1 ∨ n = 2 ∨ n = 3 ∨ n = 4 ∨ n = 5 ∨ n = 6 ∨ n = 7) with rfl | rfl | rfl | rfl | rfl | rfl | rfl | rfl
  · rw [sm_z]; rfl
  · rw [s1]; simp
  · rw [s2]; simp
  · rw [s3]; simp
  · rw [s4]; simp
  · rw [s5]; simp
  · rw [s6]; simp
  · rw [s7]; simp
theorem kof_le {n : Int} {g : Int → Int} (h : gOK n g) : 0 ≤ kof n g ∧ kof n g < 34359738368 := by
  have a0 := cg_le h (k := 0) (by omega)
  have a1 := cg_le h (k := 1) (by omega)
  have a2 := cg_le h (k := 2) (by omega)
  have a3 := cg_le h (k := 3) (by omega)
  have a4 := cg_le h (k := 4) (by omega)
  have a5 := cg_le h (k := 5) (by omega)
  have a6 := cg_le h (k := 6) (by omega)
  rw [kof_h h]
  omega
theorem letter_at {n : Int} {g : Int → Int} (h : gOK n g) {k : Int} (hk : 0 ≤ k) (hk2 : k < 7) : zbin 3 (zlsh 1 (kof n g) (5 * (6 - k))) 31 = cg n g k := by
  have a0 := cg_le h (k := 0) (by omega)
  have a1 := cg_le h (k := 1) (by omega)
  have a2 := cg_le h (k := 2) (by omega)
  have a3 := cg_le h (k := 3) (by omega)
  have a4 := cg_le h (k := 4) (by omega)
  have a5 := cg_le h (k := 5) (by omega)
  have a6 := cg_le h (k := 6) (by omega)
  have e := kof_h h
  have b := kof_le h
  obtain ⟨A, hA⟩ := Int.eq_ofNat_of_zero_le b.1
  have sh : ∀ q : Nat, q < 64 → zbin 3 (zlsh 1 (kof n g) (q : Int)) 31 = (((A / 2 ^ q) % 32 : Nat) : Int) := fun q hq => by
    rw [hA, l1 (by omega) hq, b31, Nat.shiftRight_eq_div_pow]
  rcases (by omega : k = 0 ∨ k = 1 ∨ k = 2 ∨ k = 3 ∨ k = 4 ∨ k = 5 ∨ k = 6) with rfl | rfl | rfl | rfl | rfl | rfl | rfl
  · have := sh 30 (by omega); rw [show (5 : Int) * (6 - 0) = ((30 : Nat) : Int) by omega, this]; omega
  · have := sh 25 (by omega); rw [show (5 : Int) * (6 - 1) = ((25 : Nat) : Int) by omega, this]; omega
  · have := sh 20 (by omega); rw [show (5 : Int) * (6 - 2) = ((20 : Nat) : Int) by omega, this]; omega
  · have := sh 15 (by omega); rw [show (5 : Int) * (6 - 3) = ((15 : Nat) : Int) by omega, this]; omega
  · have := sh 10 (by omega); rw [show (5 : Int) * (6 - 4) = ((10 : Nat) : Int) by omega, this]; omega
  · have := sh 5 (by omega); rw [show (5 : Int) * (6 - 5) = ((5 : Nat) : Int) by omega, this]; omega
  · have := sh 0 (by omega); rw [show (5 : Int) * (6 - 6) = ((0 : Nat) : Int) by omega, this]; omega
section
variable {P : zP} {d : zD P}
theorem k_letterOf {n : Int} {g : Int → Int} (h : gOK n g) {k : Int} (hk : 0 ≤ k) (hk2 : k < 7) : wl_letterOf d (kof n g) k = some (cg n g k, d) := by
  rw [wl_letterOf_e, letter_at h hk hk2]
theorem k_lettersOf {n : Int} {g : Int → Int} (h : gOK n g) : wl_lettersOf d (kof n g) = some (n, d) := by
  rw [wl_lettersOf_e]
  refine Ok_eq (lpQ (fun k (z : zV) => wl_lettersOf_2 d (kof n g) z k) (fun _ _ => True) 0 n h.1.1 (3, 0) trivial (fun z _ => ?_) (fun k z hk hk2 _ hnext => ?_))
  · have hn := h.1
    (try dsimp only)
    rw [wl_lettersOf_2_e]
    by_cases c : n = 7
    · subst c
      simp (disch := omega) only [↓reduceIte, zinT, wr_id, wrl_id, ltT, ltF, leT, leF, eqT, eqF, ne_eq, not_true_eq_false, not_false_eq_true, Option.bind_some, Ok_some, bi_0, bi_n0, bi_01]
      exact ⟨trivial, trivial⟩
    · have e : cg n g n = 0 := if_neg (by omega)
      simp (disch := omega) only [↓reduceIte, zinT, wr_id, wrl_id, ltT, ltF, leT, leF, eqT, eqF, ne_eq, not_true_eq_false, not_false_eq_true, Option.bind_some, Ok_some, bi_0, bi_n0, bi_01, k_letterOf h, e, if_true]
      exact ⟨trivial, trivial⟩
  · have hn := h.1
    have hg := h.2 k hk hk2
    have e : cg n g k = g k - 96 := if_pos hk2
    (try dsimp only)
    rw [wl_lettersOf_2_e]
    simp (disch := omega) only [↓reduceIte, zinT, wr_id, wrl_id, ltT, ltF, leT, leF, eqT, eqF, ne_eq, not_true_eq_false, not_false_eq_true, Option.bind_some, Ok_some, bi_0, bi_n0, bi_01, k_letterOf h, e]
    exact hnext _ trivial
theorem k_placesOfLetter {n x : Int} {g : Int → Int} (h : gOK n g) (hx : I32 x) : ∃ M : Nat, M < 128 ∧ wl_placesOfLetter d (kof n g) x = some ((M : Int), d) ∧ ∀ i : Int, 0 ≤ i → i < 7 → M.testBit i.toNat = decide (cg n g i = x) := by
  unfold I32 at hx
  have key : ∃ v d', wl_placesOfLetter d (kof n g) x = some (v, d') ∧ (d' = d ∧ ∃ M : Nat, M < 128 ∧ v = (M : Int) ∧ ∀ i : Int, 0 ≤ i → i < 7 → M.testBit i.toNat = decide (cg n g i = x)) := by
    rw [wl_placesOfLetter_e]
    refine lpQ (fun k (t : Int) => wl_placesOfLetter_4 d (kof n g) (3, 0) x t k) (fun k t => ∃ M : Nat, M < 128 ∧ t = (M : Int) ∧ ∀ i : Int, 0 ≤ i → M.testBit i.toNat = (decide (i < k) && decide (cg n g i = x))) 0 7 (by omega) 0 ⟨0, by omega, rfl, fun i _ => ?_⟩ (fun t ht => ?_) (fun k t hk hk2 ht hnext => ?_)
    · rw [Nat.zero_testBit, decide_eq_false (by omega)]; rfl
    · obtain ⟨M, h1, rfl, h3⟩ := ht
      (try dsimp only)
      rw [wl_placesOfLetter_4_e]
      simp (disch := omega) only [↓reduceIte, zinT, wr_id, wrl_id, ltT, ltF, leT, leF, eqT, eqF, ne_eq, not_true_eq_false, not_false_eq_true, Option.bind_some, Ok_some, bi_0, bi_n0, bi_01]
      refine ⟨trivial, M, h1, rfl, fun i a b => ?_⟩
      rw [h3 i a, decide_eq_true b]
      rfl
    · obtain ⟨M, h1, rfl, h3⟩ := ht
      have b := cg_le h hk
      (try dsimp only)
      rw [wl_placesOfLetter_4_e]
      simp (disch := omega) only [↓reduceIte, zinT, wr_id, wrl_id, ltT, ltF, leT, leF, eqT, eqF, ne_eq, not_true_eq_false, not_false_eq_true, Option.bind_some, Ok_some, bi_0, bi_n0, bi_01, k_letterOf h]
      by_cases c : cg n g k = x
      · obtain ⟨q, rfl⟩ := Int.eq_ofNat_of_zero_le hk
        have one : zbin 6 1 (q : Int) = ((1 <<< q : Nat) : Int) := b6 (a := 1) (by omega) (by
          have : (1 <<< q : Nat) ≤ 2 ^ 6 := by rw [Nat.shiftLeft_eq, Nat.one_mul]; exact Nat.pow_le_pow_right (by omega) (by omega)
          omega)
        have lt : (1 <<< q : Nat) < 128 := by
          have : (1 <<< q : Nat) ≤ 2 ^ 6 := by rw [Nat.shiftLeft_eq, Nat.one_mul]; exact Nat.pow_le_pow_right (by omega) (by omega)
          omega
        rw [if_neg (fun z => z c), one, b4 (by omega) (by omega)]
        refine hnext _ ⟨_, Nat.or_lt_two_pow (n := 7) h1 lt, rfl, fun i a => ?_⟩
        rw [Nat.testBit_or, h3 i a, Nat.shiftLeft_eq, Nat.one_mul, Nat.testBit_two_pow]
        by_cases e : i = (q : Int)
        · subst e
          rw [decide_eq_true (show q = ((q : Int)).toNat by omega), decide_eq_true (show (q : Int) < (q : Int) + 1 by omega), decide_eq_true c]
          simp
        · rw [decide_eq_false (show ¬ q = i.toNat by omega), dec_iff (p := i < (q : Int)) (q := i < (q : Int) + 1) (by omega), Bool.or_false]
      · rw [if_pos c]
        refine hnext _ ⟨M, h1, rfl, fun i a => ?_⟩
        rw [h3 i a]
        by_cases e : i = k
        · subst e
          rw [decide_eq_false c, Bool.and_false, Bool.and_false]
        · rw [dec_iff (p := i < k) (q := i < k + 1) (by omega)]
  obtain ⟨v, d', e, rfl, M, h1, rfl, h3⟩ := key
  exact ⟨M, h1, e, h3⟩
theorem z_cl0 : ∀ n : Nat, n < 8 → ∀ i : Nat, i < n + 1 → clN ((2 ^ n - 1) % 128) i = 0 := by decide +kernel
theorem z_all7 : ∀ n : Nat, n < 8 → zbin 6 1 (n : Int) - 1 = ((2 ^ n - 1 : Nat) : Int) := by decide +kernel
theorem stN_at {x M : Nat} (hM : M < 128) : ((x + (x &&& M)) ||| (x - (x &&& M))) % 128 = stN (x % 128) M := by
  have hm : x &&& M = (x % 128) &&& M := by
    have h1 : (x &&& M) % 2 ^ 7 = x % 2 ^ 7 &&& M % 2 ^ 7 := Nat.and_mod_two_pow
    have h2 : x &&& M ≤ M := Nat.and_le_right
    rw [Nat.mod_eq_of_lt (by omega : x &&& M < 2 ^ 7), Nat.mod_eq_of_lt (by omega : M < 2 ^ 7)] at h1
    exact h1
  have hle : (x % 128) &&& M ≤ x % 128 := Nat.and_le_left
  unfold stN
  rw [hm]
  generalize (x % 128) &&& M = m at *
  have o1 : ((x + m) ||| (x - m)) % 2 ^ 7 = (x + m) % 2 ^ 7 ||| (x - m) % 2 ^ 7 := Nat.or_mod_two_pow
  have o2 : ((x % 128 + m) ||| (x % 128 - m)) % 2 ^ 7 = (x % 128 + m) % 2 ^ 7 ||| (x % 128 - m) % 2 ^ 7 := Nat.or_mod_two_pow
  have e1 : (x + m) % 2 ^ 7 = (x % 128 + m) % 2 ^ 7 := by omega
  have e2 : (x - m) % 2 ^ 7 = (x % 128 - m) % 2 ^ 7 := by omega
  rw [show (128 : Nat) = 2 ^ 7 from rfl] at *
  rw [o1, o2, e1, e2]
theorem k_commonLetters {n1 n2 : Int} {g1 g2 : Int → Int} (h1 : gOK n1 g1) (h2 : gOK n2 g2) : wl_commonLetters d (kof n1 g1) (kof n2 g2) = some (Lcol (fun i j => decide (cg n1 g1 i = cg n2 g2 j)) n2 n1, d) := by
  have hn1 := h1.1
  have hn2 := h2.1
  obtain ⟨N, hN⟩ := Int.eq_ofNat_of_zero_le hn1.1
  have ea : zbin 6 1 n1 - 1 = ((2 ^ N - 1 : Nat) : Int) := by rw [hN]; exact z_all7 N (by omega)
  have hpow : 2 ^ N ≤ 128 := by
    have : 2 ^ N ≤ 2 ^ 7 := Nat.pow_le_pow_right (by omega) (by omega)
    omega
  rw [wl_commonLetters_e]
  simp (disch := omega) only [↓reduceIte, zinT, wr_id, wrl_id, ltT, ltF, leT, leF, eqT, eqF, ne_eq, not_true_eq_false, not_false_eq_true, Option.bind_some, Ok_some, bi_0, bi_n0, bi_01, k_lettersOf h1]
  rw [ea]
  refine Ok_eq (lpQ (fun j (y : Int × zV) => wl_commonLetters_11 d (kof n1 g1) (3, 0) (kof n2 g2) (3, 0) ((2 ^ N - 1 : Nat) : Int) y.1 j y.2) (fun j y => ∃ x : Nat, y.1 = (x : Int) ∧ x < 2 ^ (7 + j.toNat) ∧ ∀ i : Nat, (i : Int) ≤ n1 → Lcol (fun i j => decide (cg n1 g1 i = cg n2 g2 j)) j i = clN (x % 128) i) 0 n2 hn2.1 (_, (3, 0)) ⟨2 ^ N - 1, rfl, by
      have : 2 ^ (7 + (0 : Int).toNat) = 128 := rfl
      omega, fun i hi => by rw [z_cl0 N (by omega) i (by omega)]; rfl⟩ (fun y hy => ?_) (fun j y hj hj2 hy hnext => ?_))
  · obtain ⟨v, z⟩ := y
    obtain ⟨x, hx1, hx2, hx3⟩ := hy
    (try dsimp only at hx1 ⊢)
    subst hx1
    have xb : (x : Int) < 2147483648 := by
      have : 2 ^ (7 + n2.toNat) ≤ 2 ^ 14 := Nat.pow_le_pow_right (by omega) (by omega)
      omega
    have nb := b_notand (x := x) (a := 2 ^ N - 1) (by omega) (by omega)
    have e1 : (2 ^ N - 1) &&& x = (x % 128) % 2 ^ N := by
      rw [Nat.and_comm, Nat.and_two_pow_sub_one_eq_mod]
      have : (128 : Nat) = 2 ^ N * 2 ^ (7 - N) := by rw [← Nat.pow_add, show N + (7 - N) = 7 by omega]
      rw [this, Nat.mod_mul_right_mod]
    have bl := bc_low N (by omega) (x % 128) (by omega)
    have lt7 : ((x % 128) % 2 ^ N) ^^^ (2 ^ N - 1) < 128 := by
      have a := Nat.mod_lt (x % 128) (Nat.two_pow_pos N)
      have := Nat.xor_lt_two_pow (n := 7) (x := (x % 128) % 2 ^ N) (y := 2 ^ N - 1) (by omega) (by omega)
      omega
    rw [wl_commonLetters_11_e]
    simp (disch := omega) only [↓reduceIte, zinT, wr_id, wrl_id, ltT, ltF, leT, leF, eqT, eqF, ne_eq, not_true_eq_false, not_false_eq_true, Option.bind_some, Ok_some, bi_0, bi_n0, bi_01, k_lettersOf h2]
    rw [nb, e1, bc7 P d _ lt7, bl]
    simp (disch := omega) only [↓reduceIte, zinT, wr_id, wrl_id, ltT, ltF, leT, leF, eqT, eqF, ne_eq, not_true_eq_false, not_false_eq_true, Option.bind_some, Ok_some, bi_0, bi_n0, bi_01]
    refine ⟨?_, trivial⟩
    have := hx3 N (by omega)
    rw [show ((N : Nat) : Int) = n1 by omega] at this
    exact this.symm
  · obtain ⟨v, z⟩ := y
    obtain ⟨x, hx1, hx2, hx3⟩ := hy
    (try dsimp only at hx1 ⊢)
    subst hx1
    have p2 : 2 ^ (7 + j.toNat) ≤ 2 ^ 13 := Nat.pow_le_pow_right (by omega) (by omega)
    have p3 : 2 ^ 7 ≤ 2 ^ (7 + j.toNat) := Nat.pow_le_pow_right (by omega) (by omega)
    have xb : x ≤ 8192 := by omega
    have cl := cg_le h2 hj
    obtain ⟨M, m1, m2, m3⟩ := k_placesOfLetter (d := d) (x := cg n2 g2 j) h1 (by unfold I32; omega)
    have hxm : x &&& M ≤ x := Nat.and_le_left
    rw [wl_commonLetters_11_e]
    simp (disch := omega) only [↓reduceIte, zinT, wr_id, wrl_id, ltT, ltF, leT, leF, eqT, eqF, ne_eq, not_true_eq_false, not_false_eq_true, Option.bind_some, Ok_some, bi_0, bi_n0, bi_01, k_lettersOf h2, k_letterOf h2, m2]
    rw [b3 (by omega) (by omega), show (x : Int) + ((x &&& M : Nat) : Int) = ((x + (x &&& M) : Nat) : Int) by omega, show (x : Int) - ((x &&& M : Nat) : Int) = ((x - (x &&& M) : Nat) : Int) by omega, b4 (by omega) (by omega)]
    refine hnext (_, _) ⟨_, rfl, ?_, fun i hi => ?_⟩
    · have o2 : 2 ^ (7 + (j + 1).toNat) = 2 * 2 ^ (7 + j.toNat) := by
        rw [show 7 + (j + 1).toNat = (7 + j.toNat) + 1 by omega, Nat.pow_succ, Nat.mul_comm]
      have hmM : x &&& M ≤ M := Nat.and_le_right
      exact Nat.or_lt_two_pow (by omega) (by omega)
    · rw [Lcol_s hj, stN_at m1]
      refine ncolN (by omega) m1 (by omega) (fun k k0 k1 => ?_) (fun k k0 k1 => ?_)
      · (try dsimp only)
        rw [m3 k k0 (by omega)]
      · have := hx3 k.toNat (by omega)
        rw [show ((k.toNat : Nat) : Int) = k by omega] at this
        exact this
end
