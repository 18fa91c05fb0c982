/-! LINKS: the model. -/
theorem sm_grow {f g : Int → Int} {n k : Int} (hk : 0 ≤ k) (hkn : k < n) (h : ∀ i, 0 ≤ i → i < n → f i ≤ g i) (h2 : f k + 1 ≤ g k) : sm n f + 1 ≤ sm n g := by
  have key : sm n f ≤ sm n g ∧ (k < n → sm n f + 1 ≤ sm n g) := by
    have : ∀ m : Nat, (m : Int) ≤ n → sm m f ≤ sm m g ∧ (k < m → sm m f + 1 ≤ sm m g) := by
      intro m
      induction m with
      | zero => intro _; exact ⟨by rw [show ((0 : Nat) : Int) = 0 from rfl, sm_z, sm_z]; omega, fun h => by omega⟩
      | succ m ih =>
        intro hm
        have a := ih (by omega)
        have b := h m (by omega) (by omega)
        rw [show ((m + 1 : Nat) : Int) = (m : Int) + 1 by omega, sm_s f (by omega), sm_s g (by omega)]
        refine ⟨by omega, fun hk2 => ?_⟩
        by_cases e : k = m
        · rw [← e] at b ⊢
          rw [← e] at a
          omega
        · have := a.2 (by omega)
          omega
    obtain ⟨m, rfl⟩ := Int.eq_ofNat_of_zero_le (by omega : 0 ≤ n)
    exact this m (Int.le_refl _)
  exact key.2 hkn
def mz (s : Int → Int) : Int := sm 6 (fun i => sm 6 (fun j => bi (tb (s i) j)))
theorem mz_le (s : Int → Int) : 0 ≤ mz s ∧ mz s ≤ 36 := by
  have := sm_le (g := fun i => sm 6 (fun j => bi (tb (s i) j))) (n := 6) (B := 6) (by omega) (fun i _ _ => by
    have := sm_le (g := fun j => bi (tb (s i) j)) (n := 6) (B := 1) (by omega) (fun j _ _ => bi_le _)
    (try dsimp only)
    omega)
  unfold mz
  omega
theorem mz_put {s : Int → Int} {l m i j : Int} (h : sOK s l m) (h0 : 0 ≤ i) (h1 : i < 6) (h2 : 0 ≤ j) (h3 : j < 6) (hf : tb (s i) j = false) : mz s + 1 ≤ mz (put1 s i j) := by
  have pw : ∀ x k, 0 ≤ x → x < 6 → 0 ≤ k → k < 6 → bi (tb (s x) k) ≤ bi (tb (put1 s i j x) k) := by
    intro x k x0 x1 k0 k1
    unfold put1
    by_cases e : x = i
    · rw [if_pos e, e, tb_or1 (h i h0 h1).1 h2 h3 k0 k1]
      cases tb (s i) k <;> cases decide (k = j) <;> decide
    · rw [if_neg e]; exact Int.le_refl _
  unfold mz
  refine sm_grow h0 h1 (fun x x0 x1 => ?_) ?_
  · (try dsimp only)
    have := sm_mono (g := fun _ => (0 : Int)) (k := 0) (n := 6) (by omega) (by omega) (fun _ _ _ => by (try dsimp only); omega)
    have key : ∀ m : Nat, (m : Int) ≤ 6 → sm m (fun k => bi (tb (s x) k)) ≤ sm m (fun k => bi (tb (put1 s i j x) k)) := by
      intro m
      induction m with
      | zero => intro _; exact Int.le_refl _
      | succ m ih =>
        intro hm
        have a := ih (by omega)
        have b := pw x m x0 x1 (by omega) (by omega)
        rw [show ((m + 1 : Nat) : Int) = (m : Int) + 1 by omega, sm_s _ (by omega), sm_s _ (by omega)]
        omega
    exact key 6 (by omega)
  · (try dsimp only)
    refine sm_grow h2 h3 (fun k k0 k1 => pw i k h0 h1 k0 k1) ?_
    unfold put1
    rw [if_pos rfl, tb_or1 (h i h0 h1).1 h2 h3 h2 h3, hf, decide_eq_true rfl]
    decide
theorem grJ_mz {E : Int → Int} {l m i n : Int} {t : (Int → Int) × Bool} (h : sOK t.1 l m) (h0 : 0 ≤ i) (h1 : i < l) (h6 : l ≤ 6) (hm : m ≤ 6) (hn : 0 ≤ n) (hn2 : n ≤ m) : mz t.1 ≤ mz (grJ E l i t n).1 ∧ ((grJ E l i t n).2 = true → t.2 = true ∨ mz t.1 + 1 ≤ mz (grJ E l i t n).1) := by
  have := fo_ind (s := t) (f := fun j t => if gcd1 E t.1 l i j then (put1 t.1 i j, true) else t) (n := n) (I := fun _ (u : (Int → Int) × Bool) => sOK u.1 l m ∧ mz t.1 ≤ mz u.1 ∧ (u.2 = true → t.2 = true ∨ mz t.1 + 1 ≤ mz u.1)) hn ⟨h, Int.le_refl _, fun x => Or.inl x⟩ (fun j u a b hi => by
    (try dsimp only)
    by_cases c : gcd1 E u.1 l i j = true
    · rw [if_pos c]
      have hf : tb (u.1 i) j = false := by
        unfold gcd1 at c
        simp only [Bool.and_eq_true, Bool.not_eq_true'] at c
        exact c.1.2
      have := mz_put hi.1 h0 (by omega) a (by omega) hf
      exact ⟨put1_ok hi.1 h0 h1 h6 a (by omega) hm, by (try dsimp only); omega, fun _ => Or.inr (by (try dsimp only); omega)⟩
    · rw [if_neg c]; exact hi)
  exact this.2
theorem gr1_mz {E s : Int → Int} {l m : Int} (h : sOK s l m) (h0 : 0 ≤ l) (h6 : l ≤ 6) (hm : m ≤ 6) (hm0 : 0 ≤ m) (hb : (gr1 E l m s).2 = true) : mz s + 1 ≤ mz (gr1 E l m s).1 := by
  have := fo_ind (s := (s, false)) (f := fun i t => grJ E l i t m) (n := l) (I := fun _ (u : (Int → Int) × Bool) => sOK u.1 l m ∧ mz s ≤ mz u.1 ∧ (u.2 = true → mz s + 1 ≤ mz u.1)) h0 ⟨h, Int.le_refl _, fun x => by cases x⟩ (fun i u a b hi => by
    (try dsimp only)
    have g := grJ_mz (E := E) (t := u) hi.1 a b h6 hm hm0 (Int.le_refl m)
    refine ⟨grJ_ok hi.1 a b h6 hm hm0 (Int.le_refl _), by omega, fun x => ?_⟩
    rcases g.2 x with y | y
    · have := hi.2.2 y; omega
    · omega)
  exact this.2.2 hb
theorem colw_all {s : Int → Int} {l m : Int} (h : sOK s l m) (h0 : 0 ≤ l) (h6 : l ≤ 6) : colw s 6 = colw s l := by
  obtain ⟨q, hq⟩ : ∃ q : Nat, 6 = l + q := ⟨(6 - l).toNat, by omega⟩
  have key : ∀ q : Nat, l + q ≤ 6 → colw s (l + q) = colw s l := by
    intro q
    induction q with
    | zero => intro _; rw [show l + ((0 : Nat) : Int) = l by omega]
    | succ q ih =>
      intro hq
      have e : l + ((q + 1 : Nat) : Int) = (l + (q : Int)) + 1 := by omega
      have e2 : colw s (l + (q : Int) + 1) = zbin 4 (colw s (l + (q : Int))) (s (l + (q : Int))) := fo_s _ _ (by omega)
      have a := h (l + q) (by omega) (by omega)
      rw [e, e2, a.2.1 (by omega), or_0 (colw_6 h (by omega) (by omega)), ih (by omega)]
  rw [hq]
  exact key q (by omega)
theorem z_n0 : ∀ j : Nat, j < 6 → zbin 3 0 (nr j) = 0 := by decide +kernel
theorem nbz_0 {s : Int → Int} {k j : Int} (h : s k = 0) (h0 : 0 ≤ j) (h1 : j < 6) : nbz s k j = false := by
  obtain ⟨n, rfl⟩ := Int.eq_ofNat_of_zero_le h0
  unfold nbz
  rw [h, z_n0 n (by omega)]
  rfl
section
variable {P : zP} {d : zD P} {F : Nat → Int} {s E : Int → Int} {l m : Int}
def mL (d : zD P) (E s : Int → Int) (l m : Int) : Prop := (1 ≤ l ∧ l ≤ 6) ∧ (1 ≤ m ∧ m ≤ 6) ∧ sOK E l m ∧ sOK s l m ∧ (∀ i, 0 ≤ i → i < 6 → d.m 150 (zix i) = E i) ∧ ∀ i, 0 ≤ i → i < 6 → d.m 149 (zix i) = s i
theorem n_has {x j : Int} (h : 0 ≤ x ∧ x < 2147483648) (h0 : 0 ≤ j) (h1 : j < 32) : m_has d x j = some (bi (tb x j), d) := by
  rw [m_has_e, ibit7 (by omega)]
  unfold tb
  cases x.toNat.testBit j.toNat <;> rfl
theorem n_linkedTo (h : mL d E s l m) : m_linkedTo d = some (colw s l, d) := by
  obtain ⟨l1, m1, oE, oS, hE, hs⟩ := h
  have key := lpA (β := Option (Int × zD P)) (fun k t => m_linkedTo_4 d t k) (fun i a => zbin 4 a (s i)) 6 (by omega) 0 (fun k t hk hk2 _ => by
    (try dsimp only)
    rw [m_linkedTo_4_e]
    simp (disch := omega) only [↓reduceIte, zinT, wr_id, wrl_id, ltT, ltF, leT, leF, eqT, eqF, ne_eq, not_true_eq_false, not_false_eq_true, Option.bind_some, Ok_some, bi_0, bi_n0, bi_01, hs])
  (try dsimp only at key)
  rw [m_linkedTo_e, key, m_linkedTo_4_e, ← colw_all oS (by omega) l1.2]
  simp (disch := omega) only [↓reduceIte, zinT, wr_id, wrl_id, ltT, ltF, leT, leF, eqT, eqF, ne_eq, not_true_eq_false, not_false_eq_true, Option.bind_some, Ok_some, bi_0, bi_n0, bi_01]
  rfl
theorem n_hasNbr (h : mL d E s l m) {i j : Int} (h0 : 0 ≤ i) (h1 : i < l) (h2 : 0 ≤ j) (h3 : j < 6) : m_hasNeighbour d i j = some (bi (nbr s l i j), d) := by
  obtain ⟨l1, m1, oE, oS, hE, hs⟩ := h
  have st : ∀ (g : zV) k, 0 ≤ k → k < 7 → m_hasNeighbour_16 d i g (nr j) k = if (if 5 < i + 1 then 5 else i + 1) < k then some (0, d) else if nbz s k j then some (1, d) else m_hasNeighbour_16 d i g (nr j) (k + 1) := by
    intro g k k0 k1
    rw [m_hasNeighbour_16_e, n_min (by unfold I32; omega)]
    simp (disch := omega) only [↓reduceIte, zinT, wr_id, wrl_id, ltT, ltF, leT, leF, eqT, eqF, ne_eq, not_true_eq_false, not_false_eq_true, Option.bind_some, Ok_some, bi_0, bi_n0, bi_01]
    have hi : (if (5 : Int) < i + 1 then (5 : Int) else i + 1) = 5 ∨ (if (5 : Int) < i + 1 then (5 : Int) else i + 1) = i + 1 ∧ i + 1 ≤ 5 := by split <;> omega
    by_cases c1 : (if (5 : Int) < i + 1 then (5 : Int) else i + 1) < k
    · rw [if_pos c1, if_pos c1]
    · rw [if_neg c1, if_neg c1]
      have n := near6 (oS k k0 (by omega)).1 h2 h3
      unfold lt6 at n
      simp (disch := omega) only [↓reduceIte, zinT, wr_id, wrl_id, ltT, ltF, leT, leF, eqT, eqF, ne_eq, not_true_eq_false, not_false_eq_true, Option.bind_some, Ok_some, bi_0, bi_n0, bi_01, hs]
      unfold nbz
      by_cases c3 : zbin 3 (s k) (nr j) = 0
      · simp [c3]
      · simp [c3]
  have s2 : ∀ g, m_hasNeighbour_16 d i g (nr j) (i + 1) = some (bi (decide (i + 1 < l) && nbz s (i + 1) j), d) := by
    intro g
    rw [st g (i + 1) (by omega) (by omega)]
    by_cases c : 5 < i + 1
    · rw [if_pos c, if_pos (by omega), decide_eq_false (by omega)]; rfl
    · rw [if_neg c, if_neg (by omega)]
      by_cases c2 : i + 1 < l
      · rw [decide_eq_true c2]
        cases nbz s (i + 1) j
        · rw [if_neg (by decide), st g (i + 1 + 1) (by omega) (by omega), if_neg c, if_pos (by omega)]; rfl
        · rfl
      · rw [decide_eq_false c2, nbz_0 ((oS (i + 1) (by omega) (by omega)).2.1 (by omega)) h2 h3, if_neg (by decide), st g (i + 1 + 1) (by omega) (by omega), if_neg c, if_pos (by omega)]; rfl
  have s1 : ∀ g, m_hasNeighbour_16 d i g (nr j) i = some (bi (nbz s i j || (decide (i + 1 < l) && nbz s (i + 1) j)), d) := by
    intro g
    rw [st g i h0 (by omega), if_neg (by split <;> omega), s2]
    cases nbz s i j <;> rfl
  have s0 : ∀ g, m_hasNeighbour_16 d i g (nr j) (if i - 1 < 0 then 0 else i - 1) = some (bi (nbr s l i j), d) := by
    intro g
    unfold nbr
    by_cases c : i = 0
    · subst c
      rw [if_pos (by omega), s1]
      rfl
    · rw [if_neg (by omega), st _ (i - 1) (by omega) (by omega), if_neg (by split <;> omega), show i - 1 + 1 = i by omega, s1]
      cases nbz s (i - 1) j
      · simp [bi]
      · simp [bi, show 1 ≤ i by omega]
  have em : m_max d 0 (i - 1) = some (if i - 1 < 0 then 0 else i - 1, d) := n_max (by unfold I32; omega)
  have en := nr_m h2 h3
  rw [m_hasNeighbour_e, em]
  simp (disch := omega) only [↓reduceIte, zinT, wr_id, wrl_id, ltT, ltF, leT, leF, eqT, eqF, ne_eq, not_true_eq_false, not_false_eq_true, Option.bind_some, Ok_some, bi_0, bi_n0, bi_01]
  by_cases c : j = 0
  · rw [if_pos c] at en
    rw [if_neg (fun x => x c), ← en]
    exact s0 _
  · rw [if_neg c] at en
    rw [if_pos c, ← en]
    exact s0 _
theorem mL_put {i j : Int} (h : mL d E s l m) (h0 : 0 ≤ i) (h1 : i < l) (h2 : 0 ≤ j) (h3 : j < m) : mL (d.up 149 (zix i) (zbin 4 (s i) (zbin 6 1 j))) E (put1 s i j) l m := by
  obtain ⟨l1, m1, oE, oS, hE, hs⟩ := h
  refine ⟨l1, m1, oE, put1_ok oS h0 h1 l1.2 h2 h3 m1.2, fun x x0 x1 => by rw [up_ne (by omega)]; exact hE x x0 x1, fun x x0 x1 => ?_⟩
  rw [u_149, zfu_z (by omega), hs x x0 x1]
  rfl
theorem n_growsOnce (h : mL d E s l m) (hF : d.m 133 = F) {p : Int} (h3 : 0 ≤ p) (h4 : p < 24) (hl : lng F p 0 = l) (hm : lng F p 1 = m) : Ok (m_growsOnce d p) (fun v d' => Fr 149 150 d d' ∧ mL d' E (gr1 E l m s).1 l m ∧ v = bi (gr1 E l m s).2) := by
  have l1 := h.1
  have m1 := h.2.1
  rw [m_growsOnce_e]
  refine lpM (fun i t (y : Int × zV × zV) => m_growsOnce_4 t p y.1 i y.2.1 y.2.2) (fun i t y => Fr 149 150 d t ∧ mL t E (grI E l m (s, false) i).1 l m ∧ y.1 = bi (grI E l m (s, false) i).2) 0 l (by omega) d (0, (3, 0), (3, 0)) ⟨Fr.rf, h, rfl⟩ (fun t y hi => ?_) (fun i t y hi0 hi1 hi hnext => ?_)
  · obtain ⟨a, g, g'⟩ := y
    (try dsimp only at hi ⊢)
    obtain ⟨f1, c1, rfl⟩ := hi
    have hF' : t.m 133 = F := (f1 133 (by omega)).trans hF
    rw [m_growsOnce_4_e]
    simp (disch := omega) only [↓reduceIte, zinT, wr_id, wrl_id, ltT, ltF, leT, leF, eqT, eqF, ne_eq, not_true_eq_false, not_false_eq_true, Option.bind_some, Ok_some, bi_0, bi_n0, bi_01, n_longOf hF', hl]
    exact ⟨f1, c1, rfl⟩
  · obtain ⟨a, g, g'⟩ := y
    (try dsimp only at hi ⊢)
    obtain ⟨f1, c1, rfl⟩ := hi
    have hF' : t.m 133 = F := (f1 133 (by omega)).trans hF
    rw [m_growsOnce_4_e]
    simp (disch := omega) only [↓reduceIte, zinT, wr_id, wrl_id, ltT, ltF, leT, leF, eqT, eqF, ne_eq, not_true_eq_false, not_false_eq_true, Option.bind_some, Ok_some, bi_0, bi_n0, bi_01, n_longOf hF', hl]
    refine lpM (fun j t (y : Int × zV) => m_growsOnce_12 t p y.1 i j y.2) (fun j t y => Fr 149 150 d t ∧ mL t E (grJ E l i (grI E l m (s, false) i) j).1 l m ∧ y.1 = bi (grJ E l i (grI E l m (s, false) i) j).2) 0 m (by omega) t (_, g') ⟨f1, c1, rfl⟩ (fun t y hj => ?_) (fun j t y hj0 hj1 hj hnext2 => ?_)
    · obtain ⟨a, g'⟩ := y
      (try dsimp only at hj ⊢)
      obtain ⟨f1, c1, rfl⟩ := hj
      have hF' : t.m 133 = F := (f1 133 (by omega)).trans hF
      rw [m_growsOnce_12_e]
      simp (disch := omega) only [↓reduceIte, zinT, wr_id, wrl_id, ltT, ltF, leT, leF, eqT, eqF, ne_eq, not_true_eq_false, not_false_eq_true, Option.bind_some, Ok_some, bi_0, bi_n0, bi_01, n_longOf hF', hm]
      refine hnext _ (_, _, _) ?_
      unfold grI
      rw [fo_s _ _ hi0]
      exact ⟨f1, c1, rfl⟩
    · obtain ⟨a, g'⟩ := y
      (try dsimp only at hj ⊢)
      obtain ⟨f1, c1, rfl⟩ := hj
      have hF' : t.m 133 = F := (f1 133 (by omega)).trans hF
      have hs := c1.2.2.2.2.2 i hi0 (by omega)
      have hE := c1.2.2.2.2.1 i hi0 (by omega)
      have r6 := (c1.2.2.2.1 i hi0 (by omega)).1
      have q6 := (c1.2.2.1 i hi0 (by omega)).1
      have w6 := colw_6 c1.2.2.2.1 (by omega : 0 ≤ l) l1.2
      unfold lt6 at r6 q6 w6
      have go : ∀ t2 : zD P, t2 = (if gcd1 E (grJ E l i (grI E l m (s, false) i) j).1 l i j then t.up 149 (zix i) (zbin 4 ((grJ E l i (grI E l m (s, false) i) j).1 i) (zbin 6 1 j)) else t) → ∀ a2, a2 = bi (if gcd1 E (grJ E l i (grI E l m (s, false) i) j).1 l i j then true else (grJ E l i (grI E l m (s, false) i) j).2) → ∀ g2 : zV, Ok (m_growsOnce_12 t2 p a2 i (j + 1) g2) (fun v d' => Fr 149 150 d d' ∧ mL d' E (gr1 E l m s).1 l m ∧ v = bi (gr1 E l m s).2) := by
        intro t2 ht2 a2 ha2 g2
        refine hnext2 t2 (a2, g2) ?_
        have ej : grJ E l i (grI E l m (s, false) i) (j + 1) = if gcd1 E (grJ E l i (grI E l m (s, false) i) j).1 l i j then (put1 (grJ E l i (grI E l m (s, false) i) j).1 i j, true) else grJ E l i (grI E l m (s, false) i) j := fo_s _ _ hj0
        (try dsimp only)
        rw [ej, ht2, ha2]
        cases gcd1 E (grJ E l i (grI E l m (s, false) i) j).1 l i j
        · exact ⟨f1, c1, rfl⟩
        · exact ⟨f1.up (by omega) (by omega), mL_put c1 hi0 hi1 hj0 hj1, rfl⟩
      have hc : gcd1 E (grJ E l i (grI E l m (s, false) i) j).1 l i j = ((tb (E i) j && !tb ((grJ E l i (grI E l m (s, false) i) j).1 i) j) && (nbr (grJ E l i (grI E l m (s, false) i) j).1 l i j && (decide ((grJ E l i (grI E l m (s, false) i) j).1 i = 0) || !tb (colw (grJ E l i (grI E l m (s, false) i) j).1 l) j))) := rfl
      rw [hc] at go
      rw [m_growsOnce_12_e]
      simp (disch := omega) only [↓reduceIte, zinT, wr_id, wrl_id, ltT, ltF, leT, leF, eqT, eqF, ne_eq, not_true_eq_false, not_false_eq_true, Option.bind_some, Ok_some, bi_0, bi_n0, bi_01, n_longOf hF', hm, hs, hE, n_has, n_linkedTo c1, n_hasNbr c1]
      cases hq1 : tb (E i) j
      · rw [hq1] at go
        rw [if_pos rfl]
        exact go _ rfl _ rfl _
      · rw [hq1] at go
        rw [if_neg (by decide)]
        cases hq2 : tb ((grJ E l i (grI E l m (s, false) i) j).1 i) j
        · rw [hq2] at go
          rw [if_neg (by decide)]
          have put : (nbr (grJ E l i (grI E l m (s, false) i) j).1 l i j = true → Ok (m_growsOnce_12 (t.up 149 (zix i) (zbin 4 ((grJ E l i (grI E l m (s, false) i) j).1 i) (zbin 6 1 j))) p 1 i (j + 1) (0, 1)) (fun v d' => Fr 149 150 d d' ∧ mL d' E (gr1 E l m s).1 l m ∧ v = bi (gr1 E l m s).2)) → (nbr (grJ E l i (grI E l m (s, false) i) j).1 l i j = false → Ok (m_growsOnce_12 t p (bi (grJ E l i (grI E l m (s, false) i) j).2) i (j + 1) (0, 1)) (fun v d' => Fr 149 150 d d' ∧ mL d' E (gr1 E l m s).1 l m ∧ v = bi (gr1 E l m s).2)) → Ok (if ¬ nbr (grJ E l i (grI E l m (s, false) i) j).1 l i j = false then m_growsOnce_12 (t.up 149 (zix i) (zbin 4 ((grJ E l i (grI E l m (s, false) i) j).1 i) (zbin 6 1 j))) p 1 i (j + 1) (0, 1) else m_growsOnce_12 t p (bi (grJ E l i (grI E l m (s, false) i) j).2) i (j + 1) (0, 1)) (fun v d' => Fr 149 150 d d' ∧ mL d' E (gr1 E l m s).1 l m ∧ v = bi (gr1 E l m s).2) := by
            intro a b
            cases hq : nbr (grJ E l i (grI E l m (s, false) i) j).1 l i j
            · rw [if_neg (by decide)]; exact b hq
            · rw [if_pos (by decide)]; exact a hq
          by_cases hq3 : (grJ E l i (grI E l m (s, false) i) j).1 i = 0
          · rw [decide_eq_true hq3] at go
            rw [if_pos hq3]
            refine put (fun hq => ?_) (fun hq => ?_)
            · rw [hq] at go; exact go _ rfl _ rfl _
            · rw [hq] at go; exact go _ rfl _ rfl _
          · rw [decide_eq_false hq3] at go
            rw [if_neg hq3]
            cases hq4 : tb (colw (grJ E l i (grI E l m (s, false) i) j).1 l) j
            · rw [hq4] at go
              rw [if_neg (by decide)]
              refine put (fun hq => ?_) (fun hq => ?_)
              · rw [hq] at go; exact go _ rfl _ rfl _
              · rw [hq] at go; exact go _ rfl _ rfl _
            · rw [hq4] at go
              rw [if_pos (by decide)]
              cases hq : nbr (grJ E l i (grI E l m (s, false) i) j).1 l i j <;> rw [hq] at go <;> exact go _ rfl _ rfl _
        · rw [hq2] at go
          rw [if_pos (by decide)]
          exact go _ rfl _ rfl _
end
