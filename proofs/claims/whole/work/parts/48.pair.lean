/-! WHAT A PAIR'S LINKS SHOW: boxes counted, bare places, crossings. -/
theorem sm_skip {g : Int → Int} {k n : Int} (hk : 0 ≤ k) (hkn : k ≤ n) (h : ∀ j, k ≤ j → j < n → g j = 0) : sm n g = sm k g := by
  obtain ⟨q, hq⟩ : ∃ q : Nat, n = k + q := ⟨(n - k).toNat, by omega⟩
  subst hq
  clear hkn
  induction q with
  | zero => rw [show k + ((0 : Nat) : Int) = k by omega]
  | succ q ih =>
    rw [show k + ((q + 1 : Nat) : Int) = (k + (q : Int)) + 1 by omega, sm_s _ (by omega), ih (fun j a b => h j a (by omega)), h _ (by omega) (by omega), Int.add_zero]
theorem sm_add {f g : Int → Int} {n : Int} (hn : 0 ≤ n) : sm n (fun k => f k + g k) = sm n f + sm n g := by
  obtain ⟨q, rfl⟩ := Int.eq_ofNat_of_zero_le hn
  clear hn
  induction q with
  | zero => rfl
  | succ q ih =>
    rw [show ((q + 1 : Nat) : Int) = (q : Int) + 1 by omega, sm_s _ (by omega), sm_s _ (by omega), sm_s _ (by omega), ih]
    omega
noncomputable def bxI (s : Int → Int) (l m one n : Int) : Int := sm n (fun other => bi (bxo s l m one other))
noncomputable def bxN (s : Int → Int) (l m n : Int) : Int := sm n (fun one => bxI s l m one 18)
def brr (s : Int → Int) (l : Int) : Int := fo l 0 (fun i t => if s i = 0 then zbin 4 t (zbin 6 1 i) else t)
def crX (s : Int → Int) (i k : Int) : Int := sm 6 (fun j => if tb (s i) j then sw s (i + 1) k (mk 0 j) else 0)
def crs (s : Int → Int) : Int := sm 6 (fun i => crX s i 6)
theorem bxI_le {s : Int → Int} {l m one n : Int} (h : 0 ≤ n) : 0 ≤ bxI s l m one n ∧ bxI s l m one n ≤ n := by
  have := sm_le (g := fun other => bi (bxo s l m one other)) (n := n) (B := 1) h (fun _ _ _ => bi_le _)
  unfold bxI
  omega
theorem bxN_le {s : Int → Int} {l m n : Int} (h : 0 ≤ n) : 0 ≤ bxN s l m n ∧ bxN s l m n ≤ n * 18 := sm_le h (fun _ _ _ => bxI_le (by omega))
theorem crX_le {s : Int → Int} {i k : Int} (h : i + 1 ≤ k) (h2 : k ≤ i + 7) : 0 ≤ crX s i k ∧ crX s i k ≤ 216 := by
  have := sm_le (g := fun j => if tb (s i) j then sw s (i + 1) k (mk 0 j) else 0) (n := 6) (B := 36) (by omega) (fun j _ _ => by
    have := sw_le (s := s) (i0 := i + 1) (i1 := k) (M := mk 0 j) h (by omega)
    (try dsimp only)
    split <;> omega)
  unfold crX
  omega
theorem bxo_i {s : Int → Int} {l m one other : Int} (h : l < sp1 one) : bxo s l m one other = false := by
  unfold bxo
  rw [decide_eq_false (by omega)]
  rfl
theorem bxo_j {s : Int → Int} {l m one other : Int} (h : m < sp1 other) : bxo s l m one other = false := by
  unfold bxo
  rw [decide_eq_false (show ¬ sp1 other ≤ m by omega)]
  cases decide (sp1 one ≤ l) <;> rfl
theorem sp_at {a k : Int} (h : 0 ≤ k) (h2 : k < 3) : sp0 (3 * a + k) = a ∧ sp1 (3 * a + k) = a + k + 1 := by
  unfold sp0 sp1
  omega
section
variable {P : zP} {d : zD P} {s E : Int → Int} {l m : Int}
theorem k_boxes (h : lC d E s l m) : li_boxes d = some (bxN s l m 18, d) := by
  rw [li_boxes_e]
  refine Ok_eq (lpQ (fun k (y : Int × zV) => li_boxes_4 d y.1 k y.2) (fun k y => y.1 = bxN s l m k) 0 18 (by omega) (0, (3, 0)) rfl (fun y hy => ?_) (fun k y hk hk2 hy hnext => ?_))
  · obtain ⟨v, g⟩ := y
    (try dsimp only at hy ⊢)
    subst hy
    rw [li_boxes_4_e]
    simp (disch := omega) only [↓reduceIte, zinT, wr_id, wrl_id, ltT, ltF, leT, leF, eqT, eqF, ne_eq, not_true_eq_false, not_false_eq_true, Option.bind_some, Ok_some, bi_0, bi_n0, bi_01]
    exact ⟨trivial, trivial⟩
  · obtain ⟨v, g⟩ := y
    (try dsimp only at hy ⊢)
    rw [li_boxes_4_e]
    simp (disch := omega) only [↓reduceIte, zinT, wr_id, wrl_id, ltT, ltF, leT, leF, eqT, eqF, ne_eq, not_true_eq_false, not_false_eq_true, Option.bind_some, Ok_some, bi_0, bi_n0, bi_01]
    refine lpQ (fun j (t : Int) => li_boxes_9 d t k j) (fun j t => t = bxN s l m k + bxI s l m k j) 0 18 (by omega) v (by rw [hy]; exact (Int.add_zero _).symm) (fun t ht => ?_) (fun j t hj hj2 ht hnext2 => ?_)
    · (try dsimp only)
      rw [li_boxes_9_e]
      simp (disch := omega) only [↓reduceIte, zinT, wr_id, wrl_id, ltT, ltF, leT, leF, eqT, eqF, ne_eq, not_true_eq_false, not_false_eq_true, Option.bind_some, Ok_some, bi_0, bi_n0, bi_01]
      refine hnext (_, _) ?_
      (try dsimp only)
      unfold bxN
      rw [ht, sm_s _ hk]
      rfl
    · (try dsimp only)
      rw [li_boxes_9_e]
      simp (disch := omega) only [↓reduceIte, zinT, wr_id, wrl_id, ltT, ltF, leT, leF, eqT, eqF, ne_eq, not_true_eq_false, not_false_eq_true, Option.bind_some, Ok_some, bi_0, bi_n0, bi_01, k_isBox h]
      have e : bxI s l m k (j + 1) = bxI s l m k j + bi (bxo s l m k j) := sm_s _ hj
      cases hb : bxo s l m k j
      · rw [if_pos rfl]
        refine hnext2 _ ?_
        rw [e, ht, hb]; simp [bi]
      · rw [if_neg (by decide)]
        refine hnext2 _ ?_
        rw [e, ht, hb]; simp [bi]; omega
theorem k_bareRows (h : lC d E s l m) : li_bareRows d = some (brr s l, d) := by
  obtain ⟨e1, e2, l1, m1, oE, oS, hE, hs⟩ := h
  have key := lpA (β := Option (Int × zD P)) (fun k t => li_bareRows_4 d t k) (fun i t => if s i = 0 then zbin 4 t (zbin 6 1 i) else t) l (by omega) 0 (fun k t hk hk2 _ => by
    have o := (oS k hk (by omega)).1
    unfold lt6 at o
    (try dsimp only)
    rw [li_bareRows_4_e]
    simp (disch := omega) only [↓reduceIte, zinT, wr_id, wrl_id, ltT, ltF, leT, leF, eqT, eqF, ne_eq, not_true_eq_false, not_false_eq_true, Option.bind_some, Ok_some, bi_0, bi_n0, bi_01, e1, hs]
    by_cases c : s k = 0
    · rw [if_neg (fun x => x c), if_pos c]
    · rw [if_pos c, if_neg c])
  (try dsimp only at key)
  rw [li_bareRows_e, key, li_bareRows_4_e]
  simp (disch := omega) only [↓reduceIte, zinT, wr_id, wrl_id, ltT, ltF, leT, leF, eqT, eqF, ne_eq, not_true_eq_false, not_false_eq_true, Option.bind_some, Ok_some, bi_0, bi_n0, bi_01, e1]
  rfl
theorem k_bareColumns (h : lC d E s l m) : li_bareColumns d = some (zbin 3 (zbin 6 1 m - 1) (zbin 5 (colw s l) (-1)), d) := by
  have e2 := h.2.1
  rw [li_bareColumns_e]
  simp (disch := omega) only [↓reduceIte, zinT, wr_id, wrl_id, ltT, ltF, leT, leF, eqT, eqF, ne_eq, not_true_eq_false, not_false_eq_true, Option.bind_some, Ok_some, bi_0, bi_n0, bi_01, k_columns h, e2]
theorem sw_six {i : Int} (oS : sOK s l m) (h0 : 0 ≤ i) (hi : i < l) (h6 : l ≤ 6) {j : Int} (hj : 0 ≤ j) (hj6 : j ≤ 6) : sw s (i + 1) l (mk 0 j) = sw s (i + 1) 6 (mk 0 j) := by
  rw [sw_add (k := l) (i1 := 6) (by omega) h6]
  have := (sw_0 (s := s) (i0 := l) (i1 := 6) (M := mk 0 j) h6).2.mpr (fun k k0 k1 => by
    rw [(oS k (by omega) (by omega)).2.1 k0, and_0 (mk_6 (by omega) hj hj6), pc_0])
  omega
theorem k_crossings (h : lC d E s l m) : li_crossings d = some (crs s, d) := by
  have hh := h
  obtain ⟨e1, e2, l1, m1, oE, oS, hE, hs⟩ := hh
  have fin : ∀ i, 0 ≤ i → i < 6 → sm m (fun j => if tb (s i) j then sw s (i + 1) 6 (mk 0 j) else 0) = crX s i 6 := by
    intro i i0 i1
    unfold crX
    rw [sm_skip (k := m) (n := 6) (by omega) m1.2 (fun j j0 j1 => by rw [(oS i i0 i1).2.2 j j0 (by omega)]; rfl)]
  rw [li_crossings_e]
  refine Ok_eq (lpQ (fun k (y : Int × zV) => li_crossings_4 d y.1 k y.2) (fun k y => y.1 = sm k (fun i => crX s i 6)) 0 l (by omega) (0, (3, 0)) rfl (fun y hy => ?_) (fun k y hk hk2 hy hnext => ?_))
  · obtain ⟨v, g⟩ := y
    (try dsimp only at hy ⊢)
    rw [li_crossings_4_e]
    simp (disch := omega) only [↓reduceIte, zinT, wr_id, wrl_id, ltT, ltF, leT, leF, eqT, eqF, ne_eq, not_true_eq_false, not_false_eq_true, Option.bind_some, Ok_some, bi_0, bi_n0, bi_01, e1]
    refine ⟨?_, trivial⟩
    rw [hy]
    unfold crs
    refine (sm_skip (by omega) l1.2 (fun i i0 i1 => ?_)).symm
    have e := (oS i (by omega) i1).2.1 i0
    unfold crX
    rw [sm_skip (k := 0) (n := 6) (by omega) (by omega) (fun j _ _ => by rw [e, tb_0]; rfl)]
    rfl
  · obtain ⟨v, g⟩ := y
    (try dsimp only at hy ⊢)
    rw [li_crossings_4_e]
    simp (disch := omega) only [↓reduceIte, zinT, wr_id, wrl_id, ltT, ltF, leT, leF, eqT, eqF, ne_eq, not_true_eq_false, not_false_eq_true, Option.bind_some, Ok_some, bi_0, bi_n0, bi_01, e1]
    refine lpQ (fun j (t : Int) => li_crossings_10 d t k j) (fun j t => t = v + sm j (fun j => if tb (s k) j then sw s (k + 1) 6 (mk 0 j) else 0)) 0 m (by omega) v (Int.add_zero _).symm (fun t ht => ?_) (fun j t hj hj2 ht hnext2 => ?_)
    · (try dsimp only)
      rw [li_crossings_10_e]
      simp (disch := omega) only [↓reduceIte, zinT, wr_id, wrl_id, ltT, ltF, leT, leF, eqT, eqF, ne_eq, not_true_eq_false, not_false_eq_true, Option.bind_some, Ok_some, bi_0, bi_n0, bi_01, e2]
      refine hnext (_, _) ?_
      (try dsimp only)
      rw [sm_s _ hk, ht, fin k hk (by omega), hy]
    · have o := (oS k hk (by omega)).1
      have e6 := sw_six oS hk hk2 l1.2 hj (by omega : j ≤ 6)
      unfold lt6 at o
      have ib := ibit8 (X := s k) (v := j) (by omega)
      have lw := k_linksWithin h (i0 := k + 1) (i1 := l) (j0 := 0) (j1 := j) (by omega) (by omega) (Int.le_refl _) (by omega) hj (by omega)
      have et : (s k).toNat.testBit j.toNat = tb (s k) j := rfl
      (try dsimp only)
      rw [li_crossings_10_e]
      simp (disch := omega) only [↓reduceIte, zinT, wr_id, wrl_id, ltT, ltF, leT, leF, eqT, eqF, ne_eq, not_true_eq_false, not_false_eq_true, Option.bind_some, Ok_some, bi_0, bi_n0, bi_01, e2, hs, ib, et, e1, lw]
      cases hb : tb (s k) j
      · rw [if_pos rfl]
        refine hnext2 _ ?_
        rw [sm_s _ hj, hb, ht]; simp
      · rw [if_neg (by decide)]
        refine hnext2 _ ?_
        rw [sm_s _ hj, hb, ht, e6]; simp; omega
/-! the model -/
variable {F : Nat → Int} {p : Int}
theorem n_bare (h : mL d E s l m) (hF : d.m 133 = F) (h3 : 0 ≤ p) (h4 : p < 24) (hl : lng F p 0 = l) : m_bare d p = some (brr s l, d) := by
  obtain ⟨l1, m1, oE, oS, hE, hs⟩ := h
  have key := lpA (β := Option (Int × zD P)) (fun k t => m_bare_4 d p t k) (fun i t => if s i = 0 then zbin 4 t (zbin 6 1 i) else t) l (by omega) 0 (fun k t hk hk2 _ => by
    have o := (oS k hk (by omega)).1
    unfold lt6 at o
    (try dsimp only)
    rw [m_bare_4_e]
    simp (disch := omega) only [↓reduceIte, zinT, wr_id, wrl_id, ltT, ltF, leT, leF, eqT, eqF, ne_eq, not_true_eq_false, not_false_eq_true, Option.bind_some, Ok_some, bi_0, bi_n0, bi_01, n_longOf hF, hl, hs]
    by_cases c : s k = 0
    · rw [if_neg (fun x => x c), if_pos c]
    · rw [if_pos c, if_neg c])
  (try dsimp only at key)
  rw [m_bare_e, key, m_bare_4_e]
  simp (disch := omega) only [↓reduceIte, zinT, wr_id, wrl_id, ltT, ltF, leT, leF, eqT, eqF, ne_eq, not_true_eq_false, not_false_eq_true, Option.bind_some, Ok_some, bi_0, bi_n0, bi_01, n_longOf hF, hl]
  rfl
theorem z_m1 : ∀ j : Nat, j < 6 → zbin 6 1 j - 1 = mk 0 j := by decide +kernel
theorem n_crossed (h : mL d E s l m) : m_crossed d = some (crs s, d) := by
  obtain ⟨l1, m1, oE, oS, hE, hs⟩ := h
  rw [m_crossed_e]
  refine Ok_eq (lpQ (fun i (y : Int × zV × zV) => m_crossed_4 d y.1 i y.2.1 y.2.2) (fun i y => y.1 = sm i (fun i => crX s i 6)) 0 6 (by omega) (0, (3, 0), (3, 0)) rfl (fun y hy => ?_) (fun i y hi hi2 hy hnext => ?_))
  · obtain ⟨v, g, g'⟩ := y
    (try dsimp only at hy ⊢)
    rw [m_crossed_4_e]
    simp (disch := omega) only [↓reduceIte, zinT, wr_id, wrl_id, ltT, ltF, leT, leF, eqT, eqF, ne_eq, not_true_eq_false, not_false_eq_true, Option.bind_some, Ok_some, bi_0, bi_n0, bi_01]
    exact ⟨hy, trivial⟩
  · obtain ⟨v, g, g'⟩ := y
    (try dsimp only at hy ⊢)
    rw [m_crossed_4_e]
    simp (disch := omega) only [↓reduceIte, zinT, wr_id, wrl_id, ltT, ltF, leT, leF, eqT, eqF, ne_eq, not_true_eq_false, not_false_eq_true, Option.bind_some, Ok_some, bi_0, bi_n0, bi_01]
    refine lpQ (fun k (y : Int × zV) => m_crossed_11 d y.1 i k y.2) (fun k y => y.1 = v + crX s i k) (i + 1) 6 (by omega) (v, g') ?_ (fun y hy2 => ?_) (fun k y hk hk2 hy2 hnext2 => ?_)
    · (try dsimp only)
      unfold crX
      rw [sm_skip (k := 0) (n := 6) (by omega) (by omega) (fun j _ _ => by rw [sw_z]; split <;> rfl), sm_z, Int.add_zero]
    · obtain ⟨t, g⟩ := y
      (try dsimp only at hy2 ⊢)
      rw [m_crossed_11_e]
      simp (disch := omega) only [↓reduceIte, zinT, wr_id, wrl_id, ltT, ltF, leT, leF, eqT, eqF, ne_eq, not_true_eq_false, not_false_eq_true, Option.bind_some, Ok_some, bi_0, bi_n0, bi_01]
      refine hnext (_, _, _) ?_
      (try dsimp only)
      rw [sm_s _ hi, hy2, hy]
    · obtain ⟨t, g⟩ := y
      (try dsimp only at hy2 ⊢)
      rw [m_crossed_11_e]
      simp (disch := omega) only [↓reduceIte, zinT, wr_id, wrl_id, ltT, ltF, leT, leF, eqT, eqF, ne_eq, not_true_eq_false, not_false_eq_true, Option.bind_some, Ok_some, bi_0, bi_n0, bi_01]
      refine lpQ (fun j (t : Int) => m_crossed_16 d t i k j) (fun j u => u = t + sm j (fun j => if tb (s i) j then pc (zbin 3 (s k) (mk 0 j)) else 0)) 0 6 (by omega) t (Int.add_zero _).symm (fun u hu => ?_) (fun j u hj hj2 hu hnext3 => ?_)
      · (try dsimp only)
        rw [m_crossed_16_e]
        simp (disch := omega) only [↓reduceIte, zinT, wr_id, wrl_id, ltT, ltF, leT, leF, eqT, eqF, ne_eq, not_true_eq_false, not_false_eq_true, Option.bind_some, Ok_some, bi_0, bi_n0, bi_01]
        refine hnext2 (_, _) ?_
        (try dsimp only)
        have e : crX s i (k + 1) = crX s i k + sm 6 (fun j => if tb (s i) j then pc (zbin 3 (s k) (mk 0 j)) else 0) := by
          unfold crX
          rw [← sm_add (by omega)]
          refine sm_congr (by omega) (fun j _ _ => ?_)
          rw [sw_s hk]
          split
          · rfl
          · rfl
        rw [hu, hy2, e]
        omega
      · have o := (oS i hi (by omega)).1
        have ok := (oS k (by omega) (by omega)).1
        have zM := z_and6 ok (mk_6 (j0 := 0) (j1 := j) (by omega) hj (by omega))
        have e1 : zbin 6 1 j - 1 = mk 0 j := by
          obtain ⟨n, rfl⟩ := Int.eq_ofNat_of_zero_le hj
          exact z_m1 n (by omega)
        unfold lt6 at o
        (try dsimp only)
        rw [m_crossed_16_e]
        simp (disch := omega) only [↓reduceIte, zinT, wr_id, wrl_id, ltT, ltF, leT, leF, eqT, eqF, ne_eq, not_true_eq_false, not_false_eq_true, Option.bind_some, Ok_some, bi_0, bi_n0, bi_01, hs, n_has, e1, n_sizeOf zM]
        cases hb : tb (s i) j
        · rw [if_pos rfl]
          refine hnext3 _ ?_
          rw [sm_s _ hj, hb, hu]; simp
        · rw [if_neg (by decide)]
          refine hnext3 _ ?_
          rw [sm_s _ hj, hb, hu]; simp; omega
theorem n_boxes (h : mL d E s l m) (hF : d.m 133 = F) (h3 : 0 ≤ p) (h4 : p < 24) (hl : lng F p 0 = l) (hm : lng F p 1 = m) : m_boxes d p = some (bxN s l m 18, d) := by
  have l1 := h.1
  have m1 := h.2.1
  have NS : ∀ k, 0 ≤ k → bxN s l m (k + 1) = bxN s l m k + bxI s l m k 18 := fun k hk => sm_s _ hk
  have IS : ∀ one k, 0 ≤ k → bxI s l m one (k + 1) = bxI s l m one k + bi (bxo s l m one k) := fun one k hk => sm_s _ hk
  rw [m_boxes_e]
  refine Ok_eq (lpQ (fun a (y : Int × zV × zV × zV) => m_boxes_4 d p y.1 a y.2.1 y.2.2.1 y.2.2.2) (fun a y => y.1 = bxN s l m (3 * a)) 0 l (by omega) (0, (3, 0), (3, 0), (3, 0)) rfl (fun y hy => ?_) (fun a y ha ha2 hy hnext => ?_))
  · obtain ⟨v, g, g', g''⟩ := y
    (try dsimp only at hy ⊢)
    rw [m_boxes_4_e]
    simp (disch := omega) only [↓reduceIte, zinT, wr_id, wrl_id, ltT, ltF, leT, leF, eqT, eqF, ne_eq, not_true_eq_false, not_false_eq_true, Option.bind_some, Ok_some, bi_0, bi_n0, bi_01, n_longOf hF, hl]
    refine ⟨?_, trivial⟩
    rw [hy]
    refine (sm_skip (by omega) (by omega) (fun k k0 k1 => ?_)).symm
    refine sm_skip (k := 0) (n := 18) (by omega) (by omega) (fun j _ _ => ?_)
    rw [bxo_i (by unfold sp1; omega)]
    rfl
  · obtain ⟨v, g, g', g''⟩ := y
    (try dsimp only at hy ⊢)
    rw [m_boxes_4_e]
    simp (disch := omega) only [↓reduceIte, zinT, wr_id, wrl_id, ltT, ltF, leT, leF, eqT, eqF, ne_eq, not_true_eq_false, not_false_eq_true, Option.bind_some, Ok_some, bi_0, bi_n0, bi_01, n_longOf hF, hl]
    obtain ⟨u, hu⟩ : ∃ u : Int, u = if a + 3 < l then a + 3 else l := ⟨_, rfl⟩
    have hu2 : a < u ∧ u ≤ l ∧ u ≤ a + 3 ∧ (u = a + 3 ∨ u = l) := by rw [hu]; split <;> omega
    have em : m_min d (a + 3) l = some (u, d) := by rw [hu]; exact n_min (by unfold I32; omega)
    refine lpQ (fun b (y : Int × zV × zV) => m_boxes_12 d p y.1 a b y.2.1 y.2.2) (fun b y => y.1 = bxN s l m (3 * a + (b - a))) a u (by omega) (v, g', g'') (by rw [hy, show 3 * a + (a - a) = 3 * a by omega]) (fun y hy2 => ?_) (fun b y hb hb2 hy2 hnext2 => ?_)
    · obtain ⟨t, g1, g2⟩ := y
      (try dsimp only at hy2 ⊢)
      rw [m_boxes_12_e]
      simp (disch := omega) only [↓reduceIte, zinT, wr_id, wrl_id, ltT, ltF, leT, leF, eqT, eqF, ne_eq, not_true_eq_false, not_false_eq_true, Option.bind_some, Ok_some, bi_0, bi_n0, bi_01, n_longOf hF, hl, em]
      refine hnext (_, _, _, _) ?_
      (try dsimp only)
      rw [hy2]
      refine (sm_skip (by omega) (by omega) (fun k k0 k1 => ?_)).symm
      refine sm_skip (k := 0) (n := 18) (by omega) (by omega) (fun j _ _ => ?_)
      rw [bxo_i (by unfold sp1; omega)]
      rfl
    · obtain ⟨t, g1, g2⟩ := y
      (try dsimp only at hy2 ⊢)
      rw [m_boxes_12_e]
      simp (disch := omega) only [↓reduceIte, zinT, wr_id, wrl_id, ltT, ltF, leT, leF, eqT, eqF, ne_eq, not_true_eq_false, not_false_eq_true, Option.bind_some, Ok_some, bi_0, bi_n0, bi_01, n_longOf hF, hl, em]
      obtain ⟨one, hone⟩ : ∃ one : Int, one = 3 * a + (b - a) := ⟨_, rfl⟩
      have s1 : sp0 one = a ∧ sp1 one = b + 1 := by rw [hone]; have := sp_at (a := a) (k := b - a) (by omega) (by omega); omega
      rw [← hone] at hy2
      refine lpQ (fun c (y : Int × zV) => m_boxes_24 d p y.1 a b c y.2) (fun c y => y.1 = bxN s l m one + bxI s l m one (3 * c)) 0 m (by omega) (t, g2) (by rw [hy2]; exact (Int.add_zero _).symm) (fun y hy3 => ?_) (fun c y hc hc2 hy3 hnext3 => ?_)
      · obtain ⟨t, g1⟩ := y
        (try dsimp only at hy3 ⊢)
        rw [m_boxes_24_e]
        simp (disch := omega) only [↓reduceIte, zinT, wr_id, wrl_id, ltT, ltF, leT, leF, eqT, eqF, ne_eq, not_true_eq_false, not_false_eq_true, Option.bind_some, Ok_some, bi_0, bi_n0, bi_01, n_longOf hF, hm]
        refine hnext2 (_, _, _) ?_
        (try dsimp only)
        rw [show 3 * a + (b + 1 - a) = one + 1 by omega, NS one (by omega), hy3]
        congr 1
        refine (sm_skip (by omega) (by omega) (fun j j0 j1 => ?_)).symm
        rw [bxo_j (by unfold sp1; omega)]
        rfl
      · obtain ⟨t, g1⟩ := y
        (try dsimp only at hy3 ⊢)
        rw [m_boxes_24_e]
        simp (disch := omega) only [↓reduceIte, zinT, wr_id, wrl_id, ltT, ltF, leT, leF, eqT, eqF, ne_eq, not_true_eq_false, not_false_eq_true, Option.bind_some, Ok_some, bi_0, bi_n0, bi_01, n_longOf hF, hm]
        obtain ⟨w, hw⟩ : ∃ w : Int, w = if c + 3 < m then c + 3 else m := ⟨_, rfl⟩
        have hw2 : c < w ∧ w ≤ m ∧ w ≤ c + 3 ∧ (w = c + 3 ∨ w = m) := by rw [hw]; split <;> omega
        have em2 : m_min d (c + 3) m = some (w, d) := by rw [hw]; exact n_min (by unfold I32; omega)
        refine lpQ (fun e (t : Int) => m_boxes_32 d p t a b c e) (fun e t => t = bxN s l m one + bxI s l m one (3 * c + (e - c))) c w (by omega) t (by rw [hy3, show 3 * c + (c - c) = 3 * c by omega]) (fun t hy4 => ?_) (fun e t he he2 hy4 hnext4 => ?_)
        · (try dsimp only)
          rw [m_boxes_32_e]
          simp (disch := omega) only [↓reduceIte, zinT, wr_id, wrl_id, ltT, ltF, leT, leF, eqT, eqF, ne_eq, not_true_eq_false, not_false_eq_true, Option.bind_some, Ok_some, bi_0, bi_n0, bi_01, n_longOf hF, hm, em2]
          refine hnext3 (_, _) ?_
          (try dsimp only)
          rw [hy4]
          congr 1
          refine (sm_skip (by omega) (by omega) (fun j j0 j1 => ?_)).symm
          rw [bxo_j (by unfold sp1; omega)]
          rfl
        · have s2 : sp0 (3 * c + (e - c)) = c ∧ sp1 (3 * c + (e - c)) = e + 1 := by have := sp_at (a := c) (k := e - c) (by omega) (by omega); omega
          have ib := n_isBox h hF h3 h4 hl (a := a) (b := b) (c := c) (e := e) ha hb (by omega) hc he (by omega)
          have eb : bxo s l m one (3 * c + (e - c)) = bx s l a (b + 1) (mk c (e + 1)) := by
            unfold bxo
            rw [s1.1, s1.2, s2.1, s2.2, decide_eq_true (by omega), decide_eq_true (by omega)]
            rfl
          have es := IS one (3 * c + (e - c)) (by omega)
          rw [show 3 * c + (e - c) + 1 = 3 * c + (e + 1 - c) by omega, eb] at es
          (try dsimp only)
          rw [m_boxes_32_e]
          simp (disch := omega) only [↓reduceIte, zinT, wr_id, wrl_id, ltT, ltF, leT, leF, eqT, eqF, ne_eq, not_true_eq_false, not_false_eq_true, Option.bind_some, Ok_some, bi_0, bi_n0, bi_01, n_longOf hF, hm, em2, ib]
          cases hb : bx s l a (b + 1) (mk c (e + 1))
          · rw [if_pos rfl]
            refine hnext4 _ ?_
            rw [es, hb, hy4]; simp [bi]
          · rw [if_neg (by decide)]
            refine hnext4 _ ?_
            rw [es, hb, hy4]; simp [bi]; omega
end
