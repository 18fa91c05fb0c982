/-! BITS AS A COLUMN; the class's likeness. -/
def ckT (o M : Nat) (n : Nat) : Nat × Nat × Nat × Bool := Nat.rec (motive := fun _ => Nat × Nat × Nat × Bool) (0, 0, 0, true) (fun i t =>
  let c1 := if o.testBit i then t.2.1 else t.2.1 + 1
  let v := if M.testBit i then t.2.1 + 1 else if t.1 < c1 then c1 else t.1
  let s := if (stN o M).testBit i then t.2.2.1 else t.2.2.1 + 1
  (v, c1, s, t.2.2.2 && decide (v = s))) n
theorem ckT_s (o M n : Nat) : ckT o M (n + 1) = (let t := ckT o M n
  let c1 := if o.testBit n then t.2.1 else t.2.1 + 1
  let v := if M.testBit n then t.2.1 + 1 else if t.1 < c1 then c1 else t.1
  let s := if (stN o M).testBit n then t.2.2.1 else t.2.2.1 + 1
  (v, c1, s, t.2.2.2 && decide (v = s))) := rfl
theorem clN_s (o n : Nat) : clN o (n + 1) = if o.testBit n then clN o n else clN o n + 1 := rfl
theorem ckT_cl (o M : Nat) : ∀ n, (ckT o M n).2.1 = clN o n ∧ (ckT o M n).2.2.1 = clN (stN o M) n
  | 0 => ⟨rfl, rfl⟩
  | n + 1 => by
    have h := ckT_cl o M n
    rw [ckT_s, clN_s, clN_s]
    (try dsimp only)
    rw [h.1, h.2]
    exact ⟨rfl, rfl⟩
theorem ckT_v (o M : Nat) : ∀ n : Nat, ((ckT o M n).1 : Int) = ncol (fun i => M.testBit i.toNat) (fun i => (clN o i.toNat : Int)) n
  | 0 => rfl
  | n + 1 => by
    have h := ckT_v o M n
    have c := (ckT_cl o M n).1
    rw [show ((n + 1 : Nat) : Int) = (n : Int) + 1 by omega, ncol_s (by omega), ← h, ckT_s]
    (try dsimp only)
    rw [show ((n : Int)).toNat = n from rfl, show ((n : Int) + 1).toNat = n + 1 by omega, clN_s, c]
    cases M.testBit n
    · simp only [Bool.false_eq_true, if_false]
      generalize (if o.testBit n = true then clN o n else clN o n + 1) = z
      by_cases q : (ckT o M n).1 < z
      · rw [if_pos q, if_pos (by omega)]
      · rw [if_neg q, if_neg (by omega)]
    · rw [if_pos rfl, if_pos rfl]
      omega
theorem ckT_b (o M : Nat) : ∀ n m : Nat, n ≤ m → (ckT o M m).2.2.2 = true → (ckT o M n).2.2.2 = true
  | n, 0, h, hb => by rw [show n = 0 by omega]; exact hb
  | n, m + 1, h, hb => by
    by_cases c : n = m + 1
    · rw [c]; exact hb
    · refine ckT_b o M n m (by omega) ?_
      rw [ckT_s] at hb
      (try dsimp only at hb)
      rw [Bool.and_eq_true] at hb
      exact hb.1
theorem ck_eq {o M n : Nat} (ho : o < 128) (hM : M < 128) (hn : n ≤ 7) : ncol (fun i => M.testBit i.toNat) (fun i => (clN o i.toNat : Int)) n = clN (stN o M) n := by
  have a : (ckT o M 7).2.2.2 = true := ck_all o ho M hM
  have b := ckT_b o M n 7 hn a
  rw [← ckT_v, ← (ckT_cl o M n).2]
  cases n with
  | zero => rfl
  | succ n =>
    rw [ckT_s] at b ⊢
    (try dsimp only at b ⊢)
    rw [Bool.and_eq_true] at b
    have := of_decide_eq_true b.2
    omega

theorem ncolN {o M n : Nat} (ho : o < 128) (hM : M < 128) (hn : n ≤ 7) {e : Int → Bool} {c : Int → Int} (he : ∀ i : Int, 0 ≤ i → i < n → e i = M.testBit i.toNat) (hc : ∀ i : Int, 0 ≤ i → i ≤ n → c i = clN o i.toNat) : ncol e c n = clN (stN o M) n := by
  rw [← ck_eq ho hM hn]
  exact ncol_congr (by omega) he hc
def pc7 (x : Nat) : Nat := (if x.testBit 0 then 1 else 0) + (if x.testBit 1 then 1 else 0) + (if x.testBit 2 then 1 else 0) + (if x.testBit 3 then 1 else 0) + (if x.testBit 4 then 1 else 0) + (if x.testBit 5 then 1 else 0) + (if x.testBit 6 then 1 else 0)
theorem bc_low : ∀ la : Nat, la < 8 → ∀ o : Nat, o < 128 → pc7 ((o % 2 ^ la) ^^^ (2 ^ la - 1)) = clN o la := by decide +kernel
section
set_option maxRecDepth 100000 in
theorem bc7 (P : zP) (d : zD P) (n : Nat) (hn : n < 128) : bcI_bitCount d (n : Int) = some ((pc7 n : Int), d) := by
  rw [bcI_bitCount_e]
  have k2 : ∀ n : Nat, n < 128 → ((zbin 3 (((((zbin 3 (((((zbin 3 ((((n : Int) - (zbin 3 ((zbin 8 (n : Int) 1)) 1431655765)))) 858993459) + (zbin 3 ((zbin 8 ((((n : Int) - (zbin 3 ((zbin 8 (n : Int) 1)) 1431655765)))) 2)) 858993459)) + (zbin 8 (((zbin 3 ((((n : Int) - (zbin 3 ((zbin 8 (n : Int) 1)) 1431655765)))) 858993459) + (zbin 3 ((zbin 8 ((((n : Int) - (zbin 3 ((zbin 8 (n : Int) 1)) 1431655765)))) 2)) 858993459))) 4)))) 252645135) + (zbin 8 ((zbin 3 (((((zbin 3 ((((n : Int) - (zbin 3 ((zbin 8 (n : Int) 1)) 1431655765)))) 858993459) + (zbin 3 ((zbin 8 ((((n : Int) - (zbin 3 ((zbin 8 (n : Int) 1)) 1431655765)))) 2)) 858993459)) + (zbin 8 (((zbin 3 ((((n : Int) - (zbin 3 ((zbin 8 (n : Int) 1)) 1431655765)))) 858993459) + (zbin 3 ((zbin 8 ((((n : Int) - (zbin 3 ((zbin 8 (n : Int) 1)) 1431655765)))) 2)) 858993459))) 4)))) 252645135)) 8)) + (zbin 8 ((((zbin 3 (((((zbin 3 ((((n : Int) - (zbin 3 ((zbin 8 (n : Int) 1)) 1431655765)))) 858993459) + (zbin 3 ((zbin 8 ((((n : Int) - (zbin 3 ((zbin 8 (n : Int) 1)) 1431655765)))) 2)) 858993459)) + (zbin 8 (((zbin 3 ((((n : Int) - (zbin 3 ((zbin 8 (n : Int) 1)) 1431655765)))) 858993459) + (zbin 3 ((zbin 8 ((((n : Int) - (zbin 3 ((zbin 8 (n : Int) 1)) 1431655765)))) 2)) 858993459))) 4)))) 252645135) + (zbin 8 ((zbin 3 (((((zbin 3 ((((n : Int) - (zbin 3 ((zbin 8 (n : Int) 1)) 1431655765)))) 858993459) + (zbin 3 ((zbin 8 ((((n : Int) - (zbin 3 ((zbin 8 (n : Int) 1)) 1431655765)))) 2)) 858993459)) + (zbin 8 (((zbin 3 ((((n : Int) - (zbin 3 ((zbin 8 (n : Int) 1)) 1431655765)))) 858993459) + (zbin 3 ((zbin 8 ((((n : Int) - (zbin 3 ((zbin 8 (n : Int) 1)) 1431655765)))) 2)) 858993459))) 4)))) 252645135)) 8)))) 16)))) 63)) = (pc7 n : Int) := by decide +kernel
  have key : ∀ a0 : Int, a0 = n → ((zbin 3 ((((zbin 3 ((((zbin 3 ((a0 - (zbin 3 ((zbin 8 a0 1)) 1431655765))) 858993459) + (zbin 3 ((zbin 8 ((a0 - (zbin 3 ((zbin 8 a0 1)) 1431655765))) 2)) 858993459)) + (zbin 8 (((zbin 3 ((a0 - (zbin 3 ((zbin 8 a0 1)) 1431655765))) 858993459) + (zbin 3 ((zbin 8 ((a0 - (zbin 3 ((zbin 8 a0 1)) 1431655765))) 2)) 858993459))) 4))) 252645135) + (zbin 8 ((zbin 3 ((((zbin 3 ((a0 - (zbin 3 ((zbin 8 a0 1)) 1431655765))) 858993459) + (zbin 3 ((zbin 8 ((a0 - (zbin 3 ((zbin 8 a0 1)) 1431655765))) 2)) 858993459)) + (zbin 8 (((zbin 3 ((a0 - (zbin 3 ((zbin 8 a0 1)) 1431655765))) 858993459) + (zbin 3 ((zbin 8 ((a0 - (zbin 3 ((zbin 8 a0 1)) 1431655765))) 2)) 858993459))) 4))) 252645135)) 8)) + (zbin 8 (((zbin 3 ((((zbin 3 ((a0 - (zbin 3 ((zbin 8 a0 1)) 1431655765))) 858993459) + (zbin 3 ((zbin 8 ((a0 - (zbin 3 ((zbin 8 a0 1)) 1431655765))) 2)) 858993459)) + (zbin 8 (((zbin 3 ((a0 - (zbin 3 ((zbin 8 a0 1)) 1431655765))) 858993459) + (zbin 3 ((zbin 8 ((a0 - (zbin 3 ((zbin 8 a0 1)) 1431655765))) 2)) 858993459))) 4))) 252645135) + (zbin 8 ((zbin 3 ((((zbin 3 ((a0 - (zbin 3 ((zbin 8 a0 1)) 1431655765))) 858993459) + (zbin 3 ((zbin 8 ((a0 - (zbin 3 ((zbin 8 a0 1)) 1431655765))) 2)) 858993459)) + (zbin 8 (((zbin 3 ((a0 - (zbin 3 ((zbin 8 a0 1)) 1431655765))) 858993459) + (zbin 3 ((zbin 8 ((a0 - (zbin 3 ((zbin 8 a0 1)) 1431655765))) 2)) 858993459))) 4))) 252645135)) 8))) 16))) 63)) = (pc7 n : Int) := by
    intro a0 ha
    subst ha
    exact k2 n hn
  rw [key n rfl]
end
theorem b31 (a : Nat) : zbin 3 a 31 = ((a % 32 : Nat) : Int) := by
  have e : Int32.ofInt (a : Int) &&& Int32.ofInt 31 = Int32.ofInt ((a % 32 : Nat) : Int) := by
    apply Int32.toBitVec_inj.mp
    rw [Int32.toBitVec_and, o32, o32, show (31 : Int) = ((31 : Nat) : Int) from rfl, o32]
    apply BitVec.eq_of_toNat_eq
    rw [BitVec.toNat_and, BitVec.toNat_ofNat, BitVec.toNat_ofNat, BitVec.toNat_ofNat]
    have e31 : (31 : Nat) % 2 ^ 32 = 2 ^ 5 - 1 := by decide
    rw [e31, Nat.and_two_pow_sub_one_eq_mod]
    omega
  show (Int32.ofInt (a : Int) &&& Int32.ofInt 31).toInt = _
  rw [e]
  exact i32n (by omega)
theorem b_notand {x a : Nat} (hx : x < 2147483648) (ha : a < 2147483648) : zbin 3 (zbin 5 x (-1)) a = (((a &&& x) ^^^ a : Nat) : Int) := by
  have hax : a &&& x < 2147483648 := Nat.lt_of_le_of_lt Nat.and_le_left ha
  have h5 : zbin 5 (x : Int) (-1) = (Int32.ofInt x ^^^ Int32.ofInt (-1)).toInt := rfl
  have h3 : zbin 3 (zbin 5 (x : Int) (-1)) a = (Int32.ofInt ((Int32.ofInt x ^^^ Int32.ofInt (-1)).toInt) &&& Int32.ofInt a).toInt := by rw [h5]; rfl
  have e : (Int32.ofInt x ^^^ Int32.ofInt (-1)) &&& Int32.ofInt a = Int32.ofInt (((a &&& x) ^^^ a : Nat) : Int) := by
    have m1 : (Int32.ofInt (-1)).toBitVec = BitVec.allOnes 32 := by decide
    apply Int32.toBitVec_inj.mp
    rw [Int32.toBitVec_and, Int32.toBitVec_xor, o32, o32, o32, m1]
    apply BitVec.eq_of_getLsbD_eq
    intro i hi
    simp only [BitVec.getLsbD_and, BitVec.getLsbD_xor, BitVec.getLsbD_ofNat, BitVec.getLsbD_allOnes, Nat.testBit_xor, Nat.testBit_and, hi, decide_true, Bool.true_and]
    cases x.testBit i <;> cases a.testBit i <;> rfl
  rw [h3, Int32.ofInt_toInt, e]
  exact i32n (Nat.xor_lt_two_pow (n := 31) hax ha)
