/-! TOOLS for the equations: numbers in their range, reads behind writes. -/
theorem wr_id {x : Int} (h : -2147483648 ≤ x ∧ x ≤ 2147483647) : wr x = x := by
  have e32 : (Int32.size : Nat) = 4294967296 := rfl
  unfold wr
  rw [Int32.toInt_ofInt, Int.bmod_eq_of_le (by omega) (by omega)]
theorem wrl_id {x : Int} (h : -9223372036854775808 ≤ x ∧ x ≤ 9223372036854775807) : wrl x = x := by
  have e64 : (Int64.size : Nat) = 18446744073709551616 := rfl
  unfold wrl
  rw [Int64.toInt_ofInt, Int.bmod_eq_of_le (by omega) (by omega)]
theorem wr_le (x : Int) : -2147483648 ≤ wr x ∧ wr x ≤ 2147483647 := by
  unfold wr
  have h1 := (Int32.ofInt x).le_toInt
  have h2 := (Int32.ofInt x).toInt_lt
  omega
theorem wr_wr (x : Int) : wr (wr x) = wr x := wr_id (wr_le x)
theorem zix_id {x : Int} (h : -2147483648 ≤ x ∧ x ≤ 2147483647) : zix x = x.toNat := by
  unfold zix
  rw [wr_id h]
theorem zin_id {x : Int} {n : Nat} (h : -2147483648 ≤ x ∧ x ≤ 2147483647) : zin x n ↔ 0 ≤ x ∧ x < n := by
  show 0 ≤ wr x ∧ wr x < n ↔ _
  rw [wr_id h]
theorem zix_nat {n : Nat} (h : n ≤ 2147483647) : zix (n : Int) = n := by
  rw [zix_id (by omega)]
  omega
theorem zin_nat {k n : Nat} (h : k < n) (hn : n ≤ 2147483647) : zin (k : Int) n := (zin_id (by omega)).mpr (by omega)
/-- counting loops: what holds at the end holds at every count before it -/
theorem zfor {α : Type} {f : Nat → α → Option (Int × α)} {g : Nat → α → Option (Int × α)} (n : Nat) (s : α) (step : α → Nat → α) (hstep : ∀ k t, k < n → f k t = f (k + 1) (step t k)) : ∀ m, m ≤ n → f 0 s = f m ((List.range m).foldl step s) := by
  intro m
  induction m with
  | zero => intro _; rfl
  | succ m ih =>
    intro h
    rw [ih (by omega), hstep m _ (by omega), List.range_succ, List.foldl_append]
    rfl
/-- a read behind a write in an array or a field of numbers -/
theorem zD.up_a {P : zP} (d : zD P) {r k : Nat} {x : Int} (h : zkd r = 20 ∨ zkd r = 21 ∨ zkd r = 22) (r' k' : Nat) : (d.up r k x).m r' k' = if r' = r ∧ k' = k then x else d.m r' k' := d.up_m (zcs_arr h k) x r' k'
theorem zD.up_o {P : zP} (d : zD P) {r k c : Nat} {x : Int} (h : zkd r = c) (hc : c < 13) (hk : (zol.getD c []).getD k none = none) (r' k' : Nat) : (d.up r k x).m r' k' = if r' = r ∧ k' = k then x else d.m r' k' := d.up_m (zcs_obj h hc hk) x r' k'
/-- a trial of the way: WordLinks$Linker.spanStart -/
theorem mm_spanStart {P : zP} {d : zD P} {a : Int} (h : 0 ≤ a ∧ a ≤ 100) : MM P 11 [(0, a)] d = some (zdiv 0 a 3, d) := e_11
