/-! LINKS: what both tell; the class. -/
def fth (F : Nat → Int) (p n : Int) : Int → Int := fo n (fun _ => 0) (fun j f => if lkd F 0 p j = -1 then f else fun i => if i = lkd F 0 p j then zbin 4 (f i) (zbin 6 1 j) else f i)
def bkk (F : Nat → Int) (p i : Int) : Int := if i < lng F p 0 then (if lkd F 1 p i = -1 then 0 else zbin 6 1 (lkd F 1 p i)) else 0
def eth (F : Nat → Int) (p i : Int) : Int := zbin 4 (fth F p (lng F p 1) i) (bkk F p i)
def lk0 (F : Nat → Int) (kind p i : Int) : Int := if kind = 0 then fth F p (lng F p 1) i else if kind = 1 then bkk F p i else if kind = 3 then eth F p i else zbin 3 (fth F p (lng F p 1) i) (bkk F p i)
def colw (s : Int → Int) (n : Int) : Int := fo n 0 (fun i a => zbin 4 a (s i))
def nbz (s : Int → Int) (k j : Int) : Bool := !decide (zbin 3 (s k) (nr j) = 0)
def nbr (s : Int → Int) (l i j : Int) : Bool := (decide (1 ≤ i) && nbz s (i - 1) j) || (nbz s i j || (decide (i + 1 < l) && nbz s (i + 1) j))
def gcd1 (E s : Int → Int) (l i j : Int) : Bool := (tb (E i) j && !tb (s i) j) && (nbr s l i j && (decide (s i = 0) || !tb (colw s l) j))
def put1 (s : Int → Int) (i j : Int) : Int → Int := fun x => if x = i then zbin 4 (s i) (zbin 6 1 j) else s x
def grJ (E : Int → Int) (l i : Int) (t : (Int → Int) × Bool) (n : Int) : (Int → Int) × Bool := fo n t (fun j t => if gcd1 E t.1 l i j then (put1 t.1 i j, true) else t)
def grI (E : Int → Int) (l m : Int) (t : (Int → Int) × Bool) (n : Int) : (Int → Int) × Bool := fo n t (fun i t => grJ E l i t m)
def gr1 (E : Int → Int) (l m : Int) (s : Int → Int) : (Int → Int) × Bool := grI E l m (s, false) l
def grN (E : Int → Int) (l m : Int) (s : Int → Int) (n : Int) : Int → Int := fo n s (fun _ s => (gr1 E l m s).1)
def fil1 (E s : Int → Int) (l i j : Int) : Bool := (tb (E i) j && !tb (s i) j) && (decide (s i = 0) && !tb (colw s l) j)
def fiJ (E : Int → Int) (l i : Int) (s : Int → Int) (n : Int) : Int → Int := fo n s (fun j s => if fil1 E s l i j then put1 s i j else s)
def fiI (E : Int → Int) (l m : Int) (s : Int → Int) (n : Int) : Int → Int := fo n s (fun i s => fiJ E l i s m)
def lk4 (F : Nat → Int) (kind p : Int) : Int → Int := if 4 ≤ kind then grN (eth F p) (lng F p 0) (lng F p 1) (lk0 F kind p) 37 else lk0 F kind p
def lk (F : Nat → Int) (kind p : Int) : Int → Int := if kind = 5 then fiI (eth F p) (lng F p 0) (lng F p 1) (lk4 F kind p) (lng F p 0) else lk4 F kind p
/-- sets of the places below m, for the places below l -/
def sOK (s : Int → Int) (l m : Int) : Prop := ∀ i, 0 ≤ i → i < 6 → lt6 (s i) ∧ (l ≤ i → s i = 0) ∧ ∀ j, m ≤ j → 0 ≤ j → tb (s i) j = false
theorem tb_and {x y j : Int} (hx : lt6 x) (hy : lt6 y) : tb (zbin 3 x y) j = (tb x j && tb y j) := by
  obtain ⟨a, rfl⟩ := Int.eq_ofNat_of_zero_le hx.1
  obtain ⟨b, rfl⟩ := Int.eq_ofNat_of_zero_le hy.1
  rw [b3 (by have := hx.2; omega) (by have := hy.2; omega)]
  exact Nat.testBit_and a b _
theorem tb_or {x y j : Int} (hx : lt6 x) (hy : lt6 y) : tb (zbin 4 x y) j = (tb x j || tb y j) := by
  obtain ⟨a, rfl⟩ := Int.eq_ofNat_of_zero_le hx.1
  obtain ⟨b, rfl⟩ := Int.eq_ofNat_of_zero_le hy.1
  rw [b4 (by have := hx.2; omega) (by have := hy.2; omega)]
  exact Nat.testBit_or a b _
theorem z_tb1 : ∀ j : Nat, j < 6 → zbin 6 1 j = ((2 ^ j : Nat) : Int) := by decide +kernel
theorem tb_one {j k : Int} (h0 : 0 ≤ j) (h1 : j < 6) (h2 : 0 ≤ k) : tb (zbin 6 1 j) k = decide (k = j) := by
  obtain ⟨j, rfl⟩ := Int.eq_ofNat_of_zero_le h0
  obtain ⟨k, rfl⟩ := Int.eq_ofNat_of_zero_le h2
  rw [z_tb1 j (by omega)]
  unfold tb
  rw [Int.toNat_natCast, Int.toNat_natCast, Nat.testBit_two_pow]
  exact dec_iff (by omega)
theorem lt6_0 : lt6 0 := ⟨by omega, by omega⟩
theorem colw_6 {s : Int → Int} {l m n : Int} (h : sOK s l m) (h0 : 0 ≤ n) (h6 : n ≤ 6) : lt6 (colw s n) := fo_ind (I := fun _ a => lt6 a) h0 lt6_0 (fun k t a b hi => z_or6 hi (h k a (by omega)).1)
theorem put1_ok {s : Int → Int} {l m i j : Int} (h : sOK s l m) (h0 : 0 ≤ i) (h1 : i < l) (h6 : l ≤ 6) (h2 : 0 ≤ j) (h3 : j < m) (hm : m ≤ 6) : sOK (put1 s i j) l m := by
  intro x x0 x1
  have a := h i h0 (by omega)
  have b := z_one6 h2 (by omega : j < 6)
  unfold put1
  by_cases e : x = i
  · rw [if_pos e]
    refine ⟨z_or6 a.1 b.1, fun _ => by omega, fun k k0 k1 => ?_⟩
    rw [tb_or a.1 b.1, a.2.2 k k0 k1, tb_one h2 (by omega) k1, decide_eq_false (by omega)]
    rfl
  · rw [if_neg e]
    exact h x x0 x1
theorem grJ_ok {E : Int → Int} {l m i n : Int} {t : (Int → Int) × Bool} (h : sOK t.1 l m) (h0 : 0 ≤ i) (h1 : i < l) (h6 : l ≤ 6) (hm : m ≤ 6) (hn : 0 ≤ n) (hn2 : n ≤ m) : sOK (grJ E l i t n).1 l m := by
  refine fo_ind (I := fun _ (t : (Int → Int) × Bool) => sOK t.1 l m) hn h (fun k t a b hi => ?_)
  (try dsimp only)
  split
  · exact put1_ok hi h0 h1 h6 a (by omega) hm
  · exact hi
theorem grI_ok {E : Int → Int} {l m n : Int} {t : (Int → Int) × Bool} (h : sOK t.1 l m) (h6 : l ≤ 6) (hm : m ≤ 6) (hm0 : 0 ≤ m) (hn : 0 ≤ n) (hn2 : n ≤ l) : sOK (grI E l m t n).1 l m := fo_ind (I := fun _ (t : (Int → Int) × Bool) => sOK t.1 l m) hn h (fun k t a b hi => grJ_ok hi a (by omega) h6 hm hm0 (Int.le_refl _))
theorem gr1_ok {E : Int → Int} {l m : Int} {s : Int → Int} (h : sOK s l m) (h0 : 0 ≤ l) (h6 : l ≤ 6) (hm : m ≤ 6) (hm0 : 0 ≤ m) : sOK (gr1 E l m s).1 l m := grI_ok (t := (s, false)) h h6 hm hm0 h0 (Int.le_refl _)
theorem grN_ok {E : Int → Int} {l m n : Int} {s : Int → Int} (h : sOK s l m) (h0 : 0 ≤ l) (h6 : l ≤ 6) (hm : m ≤ 6) (hm0 : 0 ≤ m) (hn : 0 ≤ n) : sOK (grN E l m s n) l m := fo_ind (I := fun _ s => sOK s l m) hn h (fun k t a b hi => gr1_ok hi h0 h6 hm hm0)
theorem fiJ_ok {E : Int → Int} {l m i n : Int} {s : Int → Int} (h : sOK s l m) (h0 : 0 ≤ i) (h1 : i < l) (h6 : l ≤ 6) (hm : m ≤ 6) (hn : 0 ≤ n) (hn2 : n ≤ m) : sOK (fiJ E l i s n) l m := by
  refine fo_ind (I := fun _ s => sOK s l m) hn h (fun k t a b hi => ?_)
  (try dsimp only)
  split
  · exact put1_ok hi h0 h1 h6 a (by omega) hm
  · exact hi
theorem fiI_ok {E : Int → Int} {l m n : Int} {s : Int → Int} (h : sOK s l m) (h6 : l ≤ 6) (hm : m ≤ 6) (hm0 : 0 ≤ m) (hn : 0 ≤ n) (hn2 : n ≤ l) : sOK (fiI E l m s n) l m := fo_ind (I := fun _ s => sOK s l m) hn h (fun k t a b hi => fiJ_ok hi a (by omega) h6 hm hm0 (Int.le_refl _))
theorem fth_ok {F : Nat → Int} (hw : WF F) {p n : Int} (h3 : 0 ≤ p) (h4 : p < prs F) (h0 : 0 ≤ n) (h1 : n ≤ lng F p 1) : sOK (fth F p n) (lng F p 0) n := by
  have l1 := hw.lng_ h3 h4 (s := 1) (by omega) (by omega)
  refine fo_ind (I := fun n f => sOK f (lng F p 0) n) h0 (fun i _ _ => ⟨lt6_0, fun _ => rfl, fun _ _ _ => tb_0 _⟩) (fun j f a b hi => ?_)
  have c := lkd_le hw (w := 0) (p := p) (j := j) (by omega) (by omega) h3 h4
  (try dsimp only)
  intro i i0 i1
  have hx := hi i i0 i1
  have b1 := z_one6 a (by omega : j < 6)
  by_cases c1 : lkd F 0 p j = -1
  · rw [if_pos c1]
    exact ⟨hx.1, hx.2.1, fun k k0 k1 => hx.2.2 k (by omega) k1⟩
  · rw [if_neg c1]
    (try dsimp only)
    by_cases c2 : i = lkd F 0 p j
    · rw [if_pos c2]
      refine ⟨z_or6 hx.1 b1.1, fun _ => by omega, fun k k0 k1 => ?_⟩
      rw [tb_or hx.1 b1.1, hx.2.2 k (by omega) k1, tb_one a (by omega) k1, decide_eq_false (by omega)]
      rfl
    · rw [if_neg c2]
      exact ⟨hx.1, hx.2.1, fun k k0 k1 => hx.2.2 k (by omega) k1⟩
theorem bkk_ok {F : Nat → Int} (hw : WF F) {p : Int} (h3 : 0 ≤ p) (h4 : p < prs F) : sOK (bkk F p) (lng F p 0) (lng F p 1) := by
  have l1 := hw.lng_ h3 h4 (s := 1) (by omega) (by omega)
  intro i i0 i1
  have c := lkd_le hw (w := 1) (p := p) (j := i) (by omega) (by omega) h3 h4
  unfold bkk
  by_cases c1 : i < lng F p 0
  · rw [if_pos c1]
    by_cases c2 : lkd F 1 p i = -1
    · rw [if_pos c2]
      exact ⟨lt6_0, fun _ => rfl, fun _ _ _ => tb_0 _⟩
    · rw [if_neg c2]
      have b1 := z_one6 (j := lkd F 1 p i) (by omega) (by omega)
      refine ⟨b1.1, fun _ => by omega, fun k k0 k1 => ?_⟩
      rw [tb_one (by omega) (by omega) k1, decide_eq_false (by omega)]
  · rw [if_neg c1]
    exact ⟨lt6_0, fun _ => rfl, fun _ _ _ => tb_0 _⟩
theorem eth_ok {F : Nat → Int} (hw : WF F) {p : Int} (h3 : 0 ≤ p) (h4 : p < prs F) : sOK (eth F p) (lng F p 0) (lng F p 1) := by
  have l1 := hw.lng_ h3 h4 (s := 1) (by omega) (by omega)
  intro i i0 i1
  have a := fth_ok hw h3 h4 (by omega : 0 ≤ lng F p 1) (Int.le_refl _) i i0 i1
  have b := bkk_ok hw h3 h4 i i0 i1
  unfold eth
  refine ⟨z_or6 a.1 b.1, fun h => ?_, fun j j0 j1 => ?_⟩
  · rw [b.2.1 h, or_0 a.1, a.2.1 h]
  · rw [tb_or a.1 b.1, a.2.2 j j0 j1, b.2.2 j j0 j1]; rfl
theorem z_0and : ∀ a : Nat, a < 64 → zbin 3 0 a = 0 := by decide +kernel
theorem and_0 {x : Int} (hx : lt6 x) : zbin 3 0 x = 0 := by
  obtain ⟨a, rfl⟩ := Int.eq_ofNat_of_zero_le hx.1
  exact z_0and a (by have := hx.2; omega)
theorem lk0_ok {F : Nat → Int} (hw : WF F) {kind p : Int} (h3 : 0 ≤ p) (h4 : p < prs F) : sOK (lk0 F kind p) (lng F p 0) (lng F p 1) := by
  have l1 := hw.lng_ h3 h4 (s := 1) (by omega) (by omega)
  intro i i0 i1
  have a := fth_ok hw h3 h4 (by omega : 0 ≤ lng F p 1) (Int.le_refl _) i i0 i1
  have b := bkk_ok hw h3 h4 i i0 i1
  have c := eth_ok hw h3 h4 i i0 i1
  unfold lk0
  split
  · exact a
  · split
    · exact b
    · split
      · exact c
      · refine ⟨z_and6 a.1 b.1, fun h => ?_, fun j j0 j1 => ?_⟩
        · rw [a.2.1 h, and_0 b.1]
        · rw [tb_and a.1 b.1, a.2.2 j j0 j1]; rfl
theorem lk_ok {F : Nat → Int} (hw : WF F) {kind p : Int} (h3 : 0 ≤ p) (h4 : p < prs F) : sOK (lk F kind p) (lng F p 0) (lng F p 1) := by
  have l0 := hw.lng_ h3 h4 (s := 0) (by omega) (by omega)
  have l1 := hw.lng_ h3 h4 (s := 1) (by omega) (by omega)
  have a := lk0_ok (kind := kind) hw h3 h4
  have b : sOK (lk4 F kind p) (lng F p 0) (lng F p 1) := by
    unfold lk4
    split
    · exact grN_ok a (by omega) (by omega) (by omega) (by omega) (by omega)
    · exact a
  unfold lk
  split
  · exact fiI_ok b (by omega) (by omega) (by omega) (by omega) (Int.le_refl _)
  · exact b
section
variable {P : zP} {d : zD P} {s E : Int → Int} {l m : Int}
def lC (d : zD P) (E s : Int → Int) (l m : Int) : Prop := d.m 115 4 = l ∧ d.m 115 5 = m ∧ (1 ≤ l ∧ l ≤ 6) ∧ (1 ≤ m ∧ m ≤ 6) ∧ sOK E l m ∧ sOK s l m ∧ (∀ i, 0 ≤ i → i < 6 → d.m 118 (zix i) = E i) ∧ ∀ i, 0 ≤ i → i < 6 → d.m 119 (zix i) = s i
theorem k_mayCome (h : lC d E s l m) {i j : Int} (h0 : 0 ≤ i) (h1 : i < 6) (h2 : 0 ≤ j) (h3 : j < 6) : li_mayCome d i j = some (bi (tb (E i) j && !tb (s i) j), d) := by
  obtain ⟨e1, e2, l1, m1, oE, oS, hE, hs⟩ := h
  have z := z_may (oE i h0 h1).1 (oS i h0 h1).1 h2 h3
  have o := z_one6 h2 h3
  rw [li_mayCome_e]
  simp (disch := omega) only [↓reduceIte, zinT, wr_id, wrl_id, ltT, ltF, leT, leF, eqT, eqF, ne_eq, not_true_eq_false, not_false_eq_true, Option.bind_some, Ok_some, bi_0, bi_n0, bi_01, hE, hs]
  rw [z]
  cases tb (E i) j && !tb (s i) j
  · rfl
  · rw [if_pos rfl, wr_id (by have := o.1.1; have := o.1.2; omega), if_neg o.2]; rfl
theorem k_columns (h : lC d E s l m) : li_columnsWithLinks d = some (colw s l, d) := by
  obtain ⟨e1, e2, l1, m1, oE, oS, hE, hs⟩ := h
  have key := lpA (β := Option (Int × zD P)) (fun k t => li_columnsWithLinks_4 d t k) (fun i a => zbin 4 a (s i)) l (by omega) 0 (fun k t hk hk2 _ => by
    (try dsimp only)
    rw [li_columnsWithLinks_4_e]
    simp (disch := omega) only [↓reduceIte, zinT, wr_id, wrl_id, ltT, ltF, leT, leF, eqT, eqF, ne_eq, not_true_eq_false, not_false_eq_true, Option.bind_some, Ok_some, bi_0, bi_n0, bi_01, e1, hs])
  (try dsimp only at key)
  rw [li_columnsWithLinks_e, key, li_columnsWithLinks_4_e]
  simp (disch := omega) only [↓reduceIte, zinT, wr_id, wrl_id, ltT, ltF, leT, leF, eqT, eqF, ne_eq, not_true_eq_false, not_false_eq_true, Option.bind_some, Ok_some, bi_0, bi_n0, bi_01, e1]
  rfl
theorem k_isBare (h : lC d E s l m) {j : Int} (h2 : 0 ≤ j) (h3 : j < 6) : li_isBareColumn d j = some (bi (!tb (colw s l) j), d) := by
  have c := colw_6 h.2.2.2.2.2.1 (by have := h.2.2.1; omega) h.2.2.1.2
  unfold lt6 at c
  rw [li_isBareColumn_e]
  simp (disch := omega) only [↓reduceIte, zinT, wr_id, wrl_id, ltT, ltF, leT, leF, eqT, eqF, ne_eq, not_true_eq_false, not_false_eq_true, Option.bind_some, Ok_some, bi_0, bi_n0, bi_01, k_columns h]
  rw [ibit8 (by omega)]
  unfold tb
  cases (colw s l).toNat.testBit j.toNat <;> rfl
theorem k_hasNbr (h : lC d E s l m) {i j : Int} (h0 : 0 ≤ i) (h1 : i < l) (h2 : 0 ≤ j) (h3 : j < 6) : li_hasNeighbour d i j = some (bi (nbr s l i j), d) := by
  obtain ⟨e1, e2, l1, m1, oE, oS, hE, hs⟩ := h
  have e : zbin 7 (zbin 6 7 j) 1 = nr j := rfl
  have st : ∀ (g : zV) k, 0 ≤ k → k < 7 → li_hasNeighbour_12 d i g (nr j) k = if i + 1 < k then some (0, d) else if l ≤ k then some (0, d) else if nbz s k j then some (1, d) else li_hasNeighbour_12 d i g (nr j) (k + 1) := by
    intro g k k0 k1
    rw [li_hasNeighbour_12_e]
    simp (disch := omega) only [↓reduceIte, zinT, wr_id, wrl_id, ltT, ltF, leT, leF, eqT, eqF, ne_eq, not_true_eq_false, not_false_eq_true, Option.bind_some, Ok_some, bi_0, bi_n0, bi_01, e1]
    by_cases c1 : i + 1 < k
    · rw [if_pos c1, if_pos c1]
    · rw [if_neg c1, if_neg c1]
      by_cases c2 : l ≤ k
      · rw [if_pos c2, if_pos c2]
      · rw [if_neg c2, if_neg c2]
        have n := near6 (oS k k0 (by omega)).1 h2 h3
        unfold lt6 at n
        simp (disch := omega) only [↓reduceIte, zinT, wr_id, wrl_id, ltT, ltF, leT, leF, eqT, eqF, ne_eq, not_true_eq_false, not_false_eq_true, Option.bind_some, Ok_some, bi_0, bi_n0, bi_01, hs]
        unfold nbz
        by_cases c3 : zbin 3 (s k) (nr j) = 0
        · simp [c3]
        · simp [c3]
  have s2 : ∀ g, li_hasNeighbour_12 d i g (nr j) (i + 1) = some (bi (decide (i + 1 < l) && nbz s (i + 1) j), d) := by
    intro g
    rw [st g (i + 1) (by omega) (by omega), if_neg (by omega)]
    by_cases c : l ≤ i + 1
    · rw [if_pos c, decide_eq_false (by omega)]; rfl
    · rw [if_neg c, decide_eq_true (by omega)]
      cases nbz s (i + 1) j
      · rw [if_neg (by decide), st g (i + 1 + 1) (by omega) (by omega), if_pos (by omega)]; rfl
      · rfl
  have s1 : ∀ g, li_hasNeighbour_12 d i g (nr j) i = some (bi (nbz s i j || (decide (i + 1 < l) && nbz s (i + 1) j)), d) := by
    intro g
    rw [st g i h0 (by omega), if_neg (by omega), if_neg (by omega), s2]
    cases nbz s i j <;> rfl
  rw [li_hasNeighbour_e, e]
  simp (disch := omega) only [↓reduceIte, zinT, wr_id, wrl_id, ltT, ltF, leT, leF, eqT, eqF, ne_eq, not_true_eq_false, not_false_eq_true, Option.bind_some, Ok_some, bi_0, bi_n0, bi_01]
  unfold nbr
  by_cases c : i = 0
  · subst c
    simp (disch := omega) only [↓reduceIte, zinT, wr_id, wrl_id, ltT, ltF, leT, leF, eqT, eqF, ne_eq, not_true_eq_false, not_false_eq_true, Option.bind_some, Ok_some, bi_0, bi_n0, bi_01, if_true]
    rw [s1]
    rfl
  · simp (disch := omega) only [↓reduceIte, zinT, wr_id, wrl_id, ltT, ltF, leT, leF, eqT, eqF, ne_eq, not_true_eq_false, not_false_eq_true, Option.bind_some, Ok_some, bi_0, bi_n0, bi_01]
    rw [st _ (i - 1) (by omega) (by omega), if_neg (by omega), if_neg (by omega), show i - 1 + 1 = i by omega, s1]
    cases nbz s (i - 1) j <;> simp [bi]
theorem lC_put {i j : Int} (h : lC d E s l m) (h0 : 0 ≤ i) (h1 : i < l) (h2 : 0 ≤ j) (h3 : j < m) : lC (d.up 119 (zix i) (zbin 4 (s i) (zbin 6 1 j))) E (put1 s i j) l m := by
  obtain ⟨e1, e2, l1, m1, oE, oS, hE, hs⟩ := h
  refine ⟨by rw [up_ne (by omega)]; exact e1, by rw [up_ne (by omega)]; exact e2, l1, m1, oE, put1_ok oS h0 h1 l1.2 h2 h3 m1.2, fun x x0 x1 => by rw [up_ne (by omega)]; exact hE x x0 x1, fun x x0 x1 => ?_⟩
  rw [u_119, zfu_z (by omega), hs x x0 x1]
  rfl
theorem k_growOnce (h : lC d E s l m) : Ok (li_growOnce d) (fun v d' => Fr 119 120 d d' ∧ lC d' E (gr1 E l m s).1 l m ∧ v = bi (gr1 E l m s).2) := by
  have l1 := h.2.2.1
  have m1 := h.2.2.2.1
  rw [li_growOnce_e]
  refine lpM (fun i t (y : Int × zV) => li_growOnce_4 t y.1 i y.2) (fun i t y => Fr 119 120 d t ∧ lC t E (grI E l m (s, false) i).1 l m ∧ y.1 = bi (grI E l m (s, false) i).2) 0 l (by omega) d (0, (3, 0)) ⟨Fr.rf, h, rfl⟩ (fun t y hi => ?_) (fun i t y hi0 hi1 hi hnext => ?_)
  · obtain ⟨a, g⟩ := y
    (try dsimp only at hi ⊢)
    obtain ⟨f1, c1, rfl⟩ := hi
    have e1 := c1.1
    rw [li_growOnce_4_e]
    simp (disch := omega) only [↓reduceIte, zinT, wr_id, wrl_id, ltT, ltF, leT, leF, eqT, eqF, ne_eq, not_true_eq_false, not_false_eq_true, Option.bind_some, Ok_some, bi_0, bi_n0, bi_01, e1]
    exact ⟨f1, c1, rfl⟩
  · obtain ⟨a, g⟩ := y
    (try dsimp only at hi ⊢)
    obtain ⟨f1, c1, rfl⟩ := hi
    have e1 := c1.1
    rw [li_growOnce_4_e]
    simp (disch := omega) only [↓reduceIte, zinT, wr_id, wrl_id, ltT, ltF, leT, leF, eqT, eqF, ne_eq, not_true_eq_false, not_false_eq_true, Option.bind_some, Ok_some, bi_0, bi_n0, bi_01, e1]
    refine lpM (fun j t (a : Int) => li_growOnce_10 t a i j) (fun j t a => Fr 119 120 d t ∧ lC t E (grJ E l i (grI E l m (s, false) i) j).1 l m ∧ a = bi (grJ E l i (grI E l m (s, false) i) j).2) 0 m (by omega) t _ ⟨f1, c1, rfl⟩ (fun t a hj => ?_) (fun j t a hj0 hj1 hj hnext2 => ?_)
    · obtain ⟨f1, c1, rfl⟩ := hj
      have e2 := c1.2.1
      (try dsimp only)
      rw [li_growOnce_10_e]
      simp (disch := omega) only [↓reduceIte, zinT, wr_id, wrl_id, ltT, ltF, leT, leF, eqT, eqF, ne_eq, not_true_eq_false, not_false_eq_true, Option.bind_some, Ok_some, bi_0, bi_n0, bi_01, e2]
      refine hnext _ (_, _) ?_
      unfold grI
      rw [fo_s _ _ hi0]
      exact ⟨f1, c1, rfl⟩
    · obtain ⟨f1, c1, rfl⟩ := hj
      have e2 := c1.2.1
      have hs := c1.2.2.2.2.2.2.2 i hi0 (by omega)
      have r6 := (c1.2.2.2.2.2.1 i hi0 (by omega)).1
      unfold lt6 at r6
      have go : ∀ t2 : zD P, t2 = (if gcd1 E (grJ E l i (grI E l m (s, false) i) j).1 l i j then t.up 119 (zix i) (zbin 4 ((grJ E l i (grI E l m (s, false) i) j).1 i) (zbin 6 1 j)) else t) → ∀ a2, a2 = bi (if gcd1 E (grJ E l i (grI E l m (s, false) i) j).1 l i j then true else (grJ E l i (grI E l m (s, false) i) j).2) → Ok (li_growOnce_10 t2 a2 i (j + 1)) (fun v d' => Fr 119 120 d d' ∧ lC d' E (gr1 E l m s).1 l m ∧ v = bi (gr1 E l m s).2) := by
        intro t2 ht2 a2 ha2
        refine hnext2 t2 a2 ?_
        have ej : grJ E l i (grI E l m (s, false) i) (j + 1) = if gcd1 E (grJ E l i (grI E l m (s, false) i) j).1 l i j then (put1 (grJ E l i (grI E l m (s, false) i) j).1 i j, true) else grJ E l i (grI E l m (s, false) i) j := fo_s _ _ hj0
        rw [ej, ht2, ha2]
        cases gcd1 E (grJ E l i (grI E l m (s, false) i) j).1 l i j
        · exact ⟨f1, c1, rfl⟩
        · exact ⟨f1.up (by omega) (by omega), lC_put c1 hi0 hi1 hj0 hj1, rfl⟩
      have hc : gcd1 E (grJ E l i (grI E l m (s, false) i) j).1 l i j = ((tb (E i) j && !tb ((grJ E l i (grI E l m (s, false) i) j).1 i) j) && (nbr (grJ E l i (grI E l m (s, false) i) j).1 l i j && (decide ((grJ E l i (grI E l m (s, false) i) j).1 i = 0) || !tb (colw (grJ E l i (grI E l m (s, false) i) j).1 l) j))) := rfl
      (try dsimp only)
      rw [li_growOnce_10_e]
      simp (disch := omega) only [↓reduceIte, zinT, wr_id, wrl_id, ltT, ltF, leT, leF, eqT, eqF, ne_eq, not_true_eq_false, not_false_eq_true, Option.bind_some, Ok_some, bi_0, bi_n0, bi_01, e2, k_mayCome c1, k_hasNbr c1, k_isBare c1, hs]
      rw [hc] at go
      cases hq1 : (tb (E i) j && !tb ((grJ E l i (grI E l m (s, false) i) j).1 i) j)
      · rw [hq1] at go
        rw [if_pos rfl]
        exact go _ rfl _ rfl
      · rw [hq1] at go
        rw [if_neg (by decide)]
        cases hq2 : nbr (grJ E l i (grI E l m (s, false) i) j).1 l i j
        · rw [hq2] at go
          rw [if_pos rfl]
          exact go _ rfl _ rfl
        · rw [hq2] at go
          rw [if_neg (by decide)]
          by_cases hq3 : (grJ E l i (grI E l m (s, false) i) j).1 i = 0
          · rw [decide_eq_true hq3] at go
            rw [if_pos hq3]
            exact go _ rfl _ rfl
          · rw [decide_eq_false hq3] at go
            rw [if_neg hq3]
            cases hq4 : !tb (colw (grJ E l i (grI E l m (s, false) i) j).1 l) j
            · rw [hq4] at go
              rw [if_pos rfl]
              exact go _ rfl _ rfl
            · rw [hq4] at go
              rw [if_neg (by decide)]
              exact go _ rfl _ rfl
end
