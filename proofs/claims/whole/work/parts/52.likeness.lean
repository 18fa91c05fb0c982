/-! LETTERS IN COMMON: a table by columns; columns as sets of bits. -/
def ncol (e : Int → Bool) (c : Int → Int) (n : Int) : Int := fo n 0 (fun i v => if e i then c i + 1 else if v < c (i + 1) then c (i + 1) else v)
def Lcol (e : Int → Int → Bool) (j : Int) : Int → Int := fo j (fun _ => 0) (fun j c => ncol (fun i => e i j) c)
theorem ncol_s {e : Int → Bool} {c : Int → Int} {i : Int} (h : 0 ≤ i) : ncol e c (i + 1) = if e i then c i + 1 else if ncol e c i < c (i + 1) then c (i + 1) else ncol e c i := fo_s _ _ h
theorem Lcol_s {e : Int → Int → Bool} {j : Int} (h : 0 ≤ j) : Lcol e (j + 1) = ncol (fun i => e i j) (Lcol e j) := fo_s _ _ h
theorem Lcol_0 {e : Int → Int → Bool} {j : Int} (h : 0 ≤ j) : Lcol e j 0 = 0 := by
  by_cases c : j = 0
  · subst c; rfl
  · have := Lcol_s (e := e) (j := j - 1) (by omega)
    rw [show j - 1 + 1 = j by omega] at this
    rw [this]
    rfl
theorem ncol_congr {e f : Int → Bool} {c g : Int → Int} {n : Int} (hn : 0 ≤ n) (he : ∀ i, 0 ≤ i → i < n → e i = f i) (hc : ∀ i, 0 ≤ i → i ≤ n → c i = g i) : ncol e c n = ncol f g n := fo_congr hn (fun k t k0 k1 => by rw [he k k0 k1, hc k k0 (by omega), hc (k + 1) (by omega) (by omega)])
theorem Lcol_le {e : Int → Int → Bool} : ∀ (j : Nat) (i : Int), 0 ≤ i → 0 ≤ Lcol e j i ∧ Lcol e j i ≤ j
  | 0, i, _ => by rw [show ((0 : Nat) : Int) = 0 from rfl]; exact ⟨Int.le_refl _, Int.le_refl _⟩
  | j + 1, i, hi => by
    rw [show ((j + 1 : Nat) : Int) = (j : Int) + 1 by omega, Lcol_s (by omega)]
    refine fo_ind (I := fun _ v => 0 ≤ v ∧ v ≤ (j : Int) + 1) hi (by omega) (fun k t k0 k1 ht => ?_)
    have a := Lcol_le (e := e) j k k0
    have b := Lcol_le (e := e) j (k + 1) (by omega)
    (try dsimp only)
    split
    · omega
    · split <;> omega
/-- bits as a column: how many of the first i are 0 -/
def clN (o i : Nat) : Nat := Nat.rec (motive := fun _ => Nat) 0 (fun k v => if o.testBit k then v else v + 1) i
def stN (o M : Nat) : Nat := ((o + (o &&& M)) ||| (o - (o &&& M))) % 128
/-- the next column from bits, checked row by row -/
def ckN (o M : Nat) (n : Nat) : Bool := (Nat.rec (motive := fun _ => Nat × Nat × Nat × Bool) (0, 0, 0, true) (fun i t =>
  let c1 := if o.testBit i then t.2.1 else t.2.1 + 1
  let v := if M.testBit i then t.2.1 + 1 else if t.1 < c1 then c1 else t.1
  let s := if (stN o M).testBit i then t.2.2.1 else t.2.2.1 + 1
  (v, c1, s, t.2.2.2 && decide (v = s))) n).2.2.2
theorem ck_all : ∀ o : Nat, o < 128 → ∀ M : Nat, M < 128 → ckN o M 7 = true := by decide +kernel
