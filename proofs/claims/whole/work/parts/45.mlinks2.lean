/-! LINKS: the model, whole. -/
section
variable {P : zP} {d : zD P} {F : Nat → Int} {s E : Int → Int} {l m : Int}
theorem mL_put0 {i j : Int} (h : mL d E s l m) (h0 : 0 ≤ i) (h1 : i < l) (h2 : 0 ≤ j) (h3 : j < m) (hs : s i = 0) : mL (d.up 149 (zix i) (zbin 6 1 j)) E (put1 s i j) l m := by
  have a := mL_put h h0 h1 h2 h3
  have b := z_one6 h2 (by have := h.2.1; omega : j < 6)
  rw [hs, or_0' b.1] at a
  exact a
theorem n_addsBare (h : mL d E s l m) (hF : d.m 133 = F) {p : Int} (h3 : 0 ≤ p) (h4 : p < 24) (hl : lng F p 0 = l) (hm : lng F p 1 = m) : Ok (m_addsBare d p) (fun _ d' => Fr 149 150 d d' ∧ mL d' E (fiI E l m s l) l m) := by
  have l1 := h.1
  have m1 := h.2.1
  rw [m_addsBare_e]
  refine lpM (fun i t (g : zV) => m_addsBare_2 t p i g) (fun i t _ => Fr 149 150 d t ∧ mL t E (fiI E l m s i) l m) 0 l (by omega) d (3, 0) ⟨Fr.rf, h⟩ (fun t g hi => ?_) (fun i t g hi0 hi1 hi hnext => ?_)
  · have hF' : t.m 133 = F := (hi.1 133 (by omega)).trans hF
    (try dsimp only)
    rw [m_addsBare_2_e]
    simp (disch := omega) only [↓reduceIte, zinT, wr_id, wrl_id, ltT, ltF, leT, leF, eqT, eqF, ne_eq, not_true_eq_false, not_false_eq_true, Option.bind_some, Ok_some, bi_0, bi_n0, bi_01, n_longOf hF', hl]
    exact hi
  · have hF' : t.m 133 = F := (hi.1 133 (by omega)).trans hF
    (try dsimp only)
    rw [m_addsBare_2_e]
    simp (disch := omega) only [↓reduceIte, zinT, wr_id, wrl_id, ltT, ltF, leT, leF, eqT, eqF, ne_eq, not_true_eq_false, not_false_eq_true, Option.bind_some, Ok_some, bi_0, bi_n0, bi_01, n_longOf hF', hl]
    refine lpD (fun j t => m_addsBare_10 t p i j) (fun j t => Fr 149 150 d t ∧ mL t E (fiJ E l i (fiI E l m s i) j) l m) 0 m (by omega) t hi (fun t hj => ?_) (fun j t hj0 hj1 hj hnext2 => ?_)
    · have hF' : t.m 133 = F := (hj.1 133 (by omega)).trans hF
      (try dsimp only)
      rw [m_addsBare_10_e]
      simp (disch := omega) only [↓reduceIte, zinT, wr_id, wrl_id, ltT, ltF, leT, leF, eqT, eqF, ne_eq, not_true_eq_false, not_false_eq_true, Option.bind_some, Ok_some, bi_0, bi_n0, bi_01, n_longOf hF', hm]
      refine hnext _ _ ?_
      unfold fiI
      rw [fo_s _ _ hi0]
      exact hj
    · obtain ⟨f1, c1⟩ := hj
      have hF' : t.m 133 = F := (f1 133 (by omega)).trans hF
      have hs := c1.2.2.2.2.2 i hi0 (by omega)
      have hE := c1.2.2.2.2.1 i hi0 (by omega)
      have r6 := (c1.2.2.2.1 i hi0 (by omega)).1
      have q6 := (c1.2.2.1 i hi0 (by omega)).1
      have w6 := colw_6 c1.2.2.2.1 (by omega : 0 ≤ l) l1.2
      unfold lt6 at r6 q6 w6
      have ej : fiJ E l i (fiI E l m s i) (j + 1) = if fil1 E (fiJ E l i (fiI E l m s i) j) l i j then put1 (fiJ E l i (fiI E l m s i) j) i j else fiJ E l i (fiI E l m s i) j := fo_s _ _ hj0
      have hc : fil1 E (fiJ E l i (fiI E l m s i) j) l i j = ((tb (E i) j && !tb ((fiJ E l i (fiI E l m s i) j) i) j) && (decide ((fiJ E l i (fiI E l m s i) j) i = 0) && !tb (colw (fiJ E l i (fiI E l m s i) j) l) j)) := rfl
      rw [hc] at ej
      have stay : ((tb (E i) j && !tb ((fiJ E l i (fiI E l m s i) j) i) j) && (decide ((fiJ E l i (fiI E l m s i) j) i = 0) && !tb (colw (fiJ E l i (fiI E l m s i) j) l) j)) = false → Ok (m_addsBare_10 t p i (j + 1)) (fun _ d' => Fr 149 150 d d' ∧ mL d' E (fiI E l m s l) l m) := by
        intro hq
        refine hnext2 t ?_
        rw [ej, hq]
        exact ⟨f1, c1⟩
      (try dsimp only)
      rw [m_addsBare_10_e]
      simp (disch := omega) only [↓reduceIte, zinT, wr_id, wrl_id, ltT, ltF, leT, leF, eqT, eqF, ne_eq, not_true_eq_false, not_false_eq_true, Option.bind_some, Ok_some, bi_0, bi_n0, bi_01, n_longOf hF', hm, hs, hE, n_has, n_linkedTo c1]
      cases hq1 : tb (E i) j
      · rw [if_pos rfl]
        exact stay (by rw [hq1]; rfl)
      · rw [if_neg (by decide)]
        by_cases hq3 : (fiJ E l i (fiI E l m s i) j) i = 0
        · rw [if_neg (fun x => x hq3)]
          cases hq4 : tb (colw (fiJ E l i (fiI E l m s i) j) l) j
          · rw [if_neg (by decide)]
            refine hnext2 _ ?_
            rw [ej, hq1, hq3, hq4, tb_0]
            exact ⟨f1.up (by omega) (by omega), mL_put0 c1 hi0 hi1 hj0 hj1 hq3⟩
          · rw [if_pos (by decide)]
            exact stay (by rw [hq4]; simp)
        · rw [if_pos hq3]
          exact stay (by rw [decide_eq_false hq3]; simp)
theorem bst_s {w p j k : Int} (h : 0 ≤ k) : bst F w p j (k + 1) = if wth F w p (bst F w p j k) j < wth F w p k j ∨ (wth F w p k j = wth F w p (bst F w p j k) j ∧ slt F w p k j < slt F w p (bst F w p j k) j) then k else bst F w p j k := fo_s _ _ h
theorem bst_1 {w p j : Int} : bst F w p j 1 = 0 := by
  have e : bst F w p j (0 + 1) = _ := bst_s (Int.le_refl 0)
  have e0 : bst F w p j 0 = 0 := rfl
  rw [e0] at e
  rw [show (1 : Int) = 0 + 1 by omega, e, if_neg (by omega)]
theorem n_empties {r : Nat} (hr : zkd r = 20) (hn : zln P r = 6) : Ok (m_empties d r) (fun _ d' => Fr r (r + 1) d d' ∧ ∀ k, 0 ≤ k → k < 6 → d'.m r (zix k) = 0) := by
  rw [m_empties_e hr hn]
  refine lpD (fun k t => m_empties_2 t r k) (fun k t => Fr r (r + 1) d t ∧ ∀ i, 0 ≤ i → i < k → t.m r (zix i) = 0) 0 6 (by omega) d ⟨Fr.rf, fun i _ _ => by omega⟩ (fun t hi => ?_) (fun k t hk hk2 hi hnext => ?_)
  · (try dsimp only)
    rw [m_empties_2_e hr hn]
    simp (disch := omega) only [↓reduceIte, zinT, wr_id, wrl_id, ltT, ltF, leT, leF, eqT, eqF, ne_eq, not_true_eq_false, not_false_eq_true, Option.bind_some, Ok_some, bi_0, bi_n0, bi_01]
    exact hi
  · (try dsimp only)
    rw [m_empties_2_e hr hn]
    simp (disch := omega) only [↓reduceIte, zinT, wr_id, wrl_id, ltT, ltF, leT, leF, eqT, eqF, ne_eq, not_true_eq_false, not_false_eq_true, Option.bind_some, Ok_some, bi_0, bi_n0, bi_01]
    refine hnext _ ?_
    refine ⟨hi.1.up (Nat.le_refl _) (Nat.lt_succ_self _), ?_⟩
    rw [up_ar (Or.inl hr)]
    exact zfu_next (g := fun _ => 0) hi.2 hk (by omega)
theorem n_linksForth (hF : d.m 133 = F) (hw : WF F) {p : Int} (h3 : 0 ≤ p) (h4 : p < prs F) : Ok (m_linksForth d p) (fun _ d' => Fr 149 150 d d' ∧ ∀ k, 0 ≤ k → k < 6 → d'.m 149 (zix k) = fth F p (lng F p 1) k) := by
  have q := hw.prs_
  have l0 := hw.lng_ h3 h4 (s := 0) (by omega) (by omega)
  have l1 := hw.lng_ h3 h4 (s := 1) (by omega) (by omega)
  rw [m_linksForth_e]
  refine Ok_bind (n_empties (r := 149) rfl rfl) (fun v1 d1 f1 => ?_)
  (try dsimp only)
  refine lpM (fun j t (y : zV × zV) => m_linksForth_4 t p j y.1 y.2) (fun j t _ => Fr 149 150 d t ∧ ∀ i, 0 ≤ i → i < 6 → t.m 149 (zix i) = fth F p j i) 0 (lng F p 1) (by omega) d1 ((3, 0), (3, 0)) ⟨f1.1, fun i a b => f1.2 i a b⟩ (fun t y hi => ?_) (fun j t y hj0 hj1 hi hnext => ?_)
  · obtain ⟨g, g'⟩ := y
    have hF' : t.m 133 = F := (hi.1 133 (by omega)).trans hF
    (try dsimp only)
    rw [m_linksForth_4_e]
    simp (disch := omega) only [↓reduceIte, zinT, wr_id, wrl_id, ltT, ltF, leT, leF, eqT, eqF, ne_eq, not_true_eq_false, not_false_eq_true, Option.bind_some, Ok_some, bi_0, bi_n0, bi_01, n_longOf hF']
    exact hi
  · obtain ⟨g, g'⟩ := y
    have hF' : t.m 133 = F := (hi.1 133 (by omega)).trans hF
    have ef : fth F p (j + 1) = if lkd F 0 p j = -1 then fth F p j else fun i => if i = lkd F 0 p j then zbin 4 (fth F p j i) (zbin 6 1 j) else fth F p j i := fo_s _ _ hj0
    (try dsimp only)
    rw [m_linksForth_4_e]
    simp (disch := omega) only [↓reduceIte, zinT, wr_id, wrl_id, ltT, ltF, leT, leF, eqT, eqF, ne_eq, not_true_eq_false, not_false_eq_true, Option.bind_some, Ok_some, bi_0, bi_n0, bi_01, n_longOf hF']
    refine lpQ (fun k (b : Int) => m_linksForth_14 t p j b k) (fun k b => b = bst F 0 p j k) 1 (lng F p 0) l0.1 0 bst_1.symm (fun b hb => ?_) (fun k b hk hk2 hb hnext2 => ?_)
    · have bl := bst_le (F := F) (w := 0) (p := p) (j := j) (n := lng F p 0) (by omega)
      subst hb
      have en := n_isEnough hF' hw (w := 0) (i := bst F 0 p j (lng F p 0)) (j := j) h3 h4 bl.1 (by omega) hj0 hj1 (Or.inl rfl)
      rw [if_pos rfl] at en
      have e6 := hi.2 (bst F 0 p j (lng F p 0)) bl.1 (by omega)
      (try dsimp only)
      rw [m_linksForth_14_e]
      simp (disch := omega) only [↓reduceIte, zinT, wr_id, wrl_id, ltT, ltF, leT, leF, eqT, eqF, ne_eq, not_true_eq_false, not_false_eq_true, Option.bind_some, Ok_some, bi_0, bi_n0, bi_01, n_longOf hF', en, e6]
      by_cases c : plh F 0 p (bst F 0 p j (lng F p 0)) j < lst F
      · have el : lkd F 0 p j = -1 := if_pos c
        rw [decide_eq_false (by omega : ¬ lst F ≤ plh F 0 p (bst F 0 p j (lng F p 0)) j), if_pos rfl]
        refine hnext _ (_, _) ?_
        rw [ef, if_pos el]
        exact hi
      · have el : lkd F 0 p j = bst F 0 p j (lng F p 0) := if_neg c
        rw [decide_eq_true (by omega : lst F ≤ plh F 0 p (bst F 0 p j (lng F p 0)) j), if_neg (by decide)]
        refine hnext _ (_, _) ?_
        rw [ef, el, if_neg (by omega)]
        refine ⟨hi.1.up (by omega) (by omega), fun i a b => ?_⟩
        rw [u_149, zfu_z (by omega)]
        by_cases c3 : i = bst F 0 p j (lng F p 0)
        · rw [if_pos c3, if_pos c3, c3]
        · rw [if_neg c3, if_neg c3, hi.2 i a b]
    · have bl := bst_le (F := F) (w := 0) (p := p) (j := j) (n := k) (by omega)
      subst hb
      have nb := n_isBetter0 hF' hw (i := k) (j := j) (b := bst F 0 p j k) h3 h4 (by omega) hk2 hj0 hj1 bl.1 (by omega)
      have eb := bst_s (F := F) (w := 0) (p := p) (j := j) (k := k) (by omega)
      (try dsimp only)
      rw [m_linksForth_14_e]
      simp (disch := omega) only [↓reduceIte, zinT, wr_id, wrl_id, ltT, ltF, leT, leF, eqT, eqF, ne_eq, not_true_eq_false, not_false_eq_true, Option.bind_some, Ok_some, bi_0, bi_n0, bi_01, n_longOf hF', nb]
      by_cases c : wth F 0 p (bst F 0 p j k) j < wth F 0 p k j ∨ (wth F 0 p k j = wth F 0 p (bst F 0 p j k) j ∧ slt F 0 p k j < slt F 0 p (bst F 0 p j k) j)
      · rw [decide_eq_true c, if_neg (by decide)]
        refine hnext2 _ ?_
        rw [eb, if_pos c]
      · rw [decide_eq_false c, if_pos rfl]
        refine hnext2 _ ?_
        rw [eb, if_neg c]
theorem n_linksBack (hF : d.m 133 = F) (hw : WF F) {p : Int} (h3 : 0 ≤ p) (h4 : p < prs F) : Ok (m_linksBack d p) (fun _ d' => Fr 151 152 d d' ∧ ∀ k, 0 ≤ k → k < 6 → d'.m 151 (zix k) = bkk F p k) := by
  have q := hw.prs_
  have l0 := hw.lng_ h3 h4 (s := 0) (by omega) (by omega)
  have l1 := hw.lng_ h3 h4 (s := 1) (by omega) (by omega)
  rw [m_linksBack_e]
  refine Ok_bind (n_empties (r := 151) rfl rfl) (fun v1 d1 f1 => ?_)
  (try dsimp only)
  refine lpM (fun j t (y : zV × zV) => m_linksBack_4 t p j y.1 y.2) (fun j t _ => Fr 151 152 d t ∧ ∀ i, 0 ≤ i → i < 6 → t.m 151 (zix i) = if i < j then bkk F p i else 0) 0 (lng F p 0) (by omega) d1 ((3, 0), (3, 0)) ⟨f1.1, fun i a b => by rw [if_neg (by omega)]; exact f1.2 i a b⟩ (fun t y hi => ?_) (fun j t y hj0 hj1 hi hnext => ?_)
  · obtain ⟨g, g'⟩ := y
    have hF' : t.m 133 = F := (hi.1 133 (by omega)).trans hF
    (try dsimp only)
    rw [m_linksBack_4_e]
    simp (disch := omega) only [↓reduceIte, zinT, wr_id, wrl_id, ltT, ltF, leT, leF, eqT, eqF, ne_eq, not_true_eq_false, not_false_eq_true, Option.bind_some, Ok_some, bi_0, bi_n0, bi_01, n_longOf hF']
    refine ⟨hi.1, fun k a b => ?_⟩
    rw [hi.2 k a b]
    by_cases c : k < lng F p 0
    · rw [if_pos c]
    · rw [if_neg c]
      unfold bkk
      rw [if_neg c]
  · obtain ⟨g, g'⟩ := y
    have hF' : t.m 133 = F := (hi.1 133 (by omega)).trans hF
    (try dsimp only)
    rw [m_linksBack_4_e]
    simp (disch := omega) only [↓reduceIte, zinT, wr_id, wrl_id, ltT, ltF, leT, leF, eqT, eqF, ne_eq, not_true_eq_false, not_false_eq_true, Option.bind_some, Ok_some, bi_0, bi_n0, bi_01, n_longOf hF']
    refine lpQ (fun k (b : Int) => m_linksBack_14 t p j b k) (fun k b => b = bst F 1 p j k) 1 (lng F p 1) l1.1 0 bst_1.symm (fun b hb => ?_) (fun k b hk hk2 hb hnext2 => ?_)
    · have bl := bst_le (F := F) (w := 1) (p := p) (j := j) (n := lng F p 1) (by omega)
      subst hb
      have en := n_isEnough hF' hw (w := 1) (i := j) (j := bst F 1 p j (lng F p 1)) h3 h4 hj0 hj1 bl.1 (by omega) (Or.inr rfl)
      rw [if_neg (by decide)] at en
      (try dsimp only)
      rw [m_linksBack_14_e]
      simp (disch := omega) only [↓reduceIte, zinT, wr_id, wrl_id, ltT, ltF, leT, leF, eqT, eqF, ne_eq, not_true_eq_false, not_false_eq_true, Option.bind_some, Ok_some, bi_0, bi_n0, bi_01, n_longOf hF', en]
      by_cases c : plh F 1 p (bst F 1 p j (lng F p 1)) j < lst F
      · have el : lkd F 1 p j = -1 := if_pos c
        rw [decide_eq_false (by omega : ¬ lst F ≤ plh F 1 p (bst F 1 p j (lng F p 1)) j), if_pos rfl]
        refine hnext _ (_, _) ?_
        refine ⟨hi.1, fun i a b => ?_⟩
        rw [hi.2 i a b]
        by_cases c3 : i < j
        · rw [if_pos c3, if_pos (by omega)]
        · rw [if_neg c3]
          by_cases c4 : i < j + 1
          · have : i = j := by omega
            rw [if_pos c4, this]
            unfold bkk
            rw [if_pos hj1, if_pos el]
          · rw [if_neg c4]
      · have el : lkd F 1 p j = bst F 1 p j (lng F p 1) := if_neg c
        rw [decide_eq_true (by omega : lst F ≤ plh F 1 p (bst F 1 p j (lng F p 1)) j), if_neg (by decide)]
        refine hnext _ (_, _) ?_
        refine ⟨hi.1.up (by omega) (by omega), fun i a b => ?_⟩
        rw [u_151, zfu_z (by omega)]
        by_cases c3 : i = j
        · rw [if_pos c3, if_pos (by omega), c3]
          unfold bkk
          rw [if_pos hj1, el, if_neg (by omega)]
        · rw [if_neg c3, hi.2 i a b]
          by_cases c4 : i < j
          · rw [if_pos c4, if_pos (by omega)]
          · rw [if_neg c4, if_neg (by omega)]
    · have bl := bst_le (F := F) (w := 1) (p := p) (j := j) (n := k) (by omega)
      subst hb
      have nb := n_isBetter1 hF' hw (i := j) (j := k) (b := bst F 1 p j k) h3 h4 hj0 hj1 (by omega) hk2 bl.1 (by omega)
      have eb := bst_s (F := F) (w := 1) (p := p) (j := j) (k := k) (by omega)
      (try dsimp only)
      rw [m_linksBack_14_e]
      simp (disch := omega) only [↓reduceIte, zinT, wr_id, wrl_id, ltT, ltF, leT, leF, eqT, eqF, ne_eq, not_true_eq_false, not_false_eq_true, Option.bind_some, Ok_some, bi_0, bi_n0, bi_01, n_longOf hF', nb]
      by_cases c : wth F 1 p (bst F 1 p j k) j < wth F 1 p k j ∨ (wth F 1 p k j = wth F 1 p (bst F 1 p j k) j ∧ slt F 1 p k j < slt F 1 p (bst F 1 p j k) j)
      · rw [decide_eq_true c, if_neg (by decide)]
        refine hnext2 _ ?_
        rw [eb, if_pos c]
      · rw [decide_eq_false c, if_pos rfl]
        refine hnext2 _ ?_
        rw [eb, if_neg c]
theorem n_more {Q : Int → zD P → Prop} {kind p : Int} (hw : WF F) (h3 : 0 ≤ p) (h4 : p < 24) (hl : lng F p 0 = l) (hm : lng F p 1 = m) (s0 : Int → Int) (hq : ∀ t : zD P, Fr 149 150 d t → mL t E (grN E l m s0 37) l m → Ok (m_findsLinks_78 t kind p 0) Q) : ∀ (n : Nat) (k : Int) (t : zD P), k + n = 37 → 0 ≤ k → t.m 133 = F → Fr 149 150 d t → mL t E (grN E l m s0 k) l m → k ≤ mz (grN E l m s0 k) → Ok (m_findsLinks_78 t kind p 1) Q := by
  intro n
  induction n with
  | zero =>
    intro k t hk _ _ _ _ hz
    have := mz_le (grN E l m s0 k)
    omega
  | succ n ih =>
    intro k t hk hk0 hF ht hL hz
    rw [m_findsLinks_78_e]
    simp (disch := omega) only [↓reduceIte, zinT, wr_id, wrl_id, ltT, ltF, leT, leF, eqT, eqF, ne_eq, not_true_eq_false, not_false_eq_true, Option.bind_some, Ok_some, bi_0, bi_n0, bi_01]
    refine Ok_bind (n_growsOnce hL hF h3 h4 hl hm) (fun v d' f => ?_)
    obtain ⟨f1, c1, rfl⟩ := f
    have e2 : grN E l m s0 (k + 1) = (gr1 E l m (grN E l m s0 k)).1 := fo_s _ _ hk0
    have l1 := hL.1
    have m1 := hL.2.1
    (try dsimp only)
    cases hb : (gr1 E l m (grN E l m s0 k)).2
    · refine hq d' (ht.tr f1) ?_
      have a := grN_fix (s := s0) (n := k) (k := 37 - k) (by omega : 0 ≤ l) (by omega : 0 ≤ m) hk0 (by omega) hb
      have b := gr1_id (E := E) (s := grN E l m s0 k) (by omega : 0 ≤ l) (by omega : 0 ≤ m) hb
      rw [show k + (37 - k) = 37 by omega] at a
      rw [a, ← b]
      exact c1
    · have g := gr1_mz hL.2.2.2.1 (by omega) l1.2 m1.2 (by omega) hb
      refine ih (k + 1) d' (by omega) (by omega) ((f1 133 (by omega)).trans hF) (ht.tr f1) ?_ ?_
      · rw [e2]; exact c1
      · rw [e2]; omega
theorem n_findsLinks (hF : d.m 133 = F) (hw : WF F) {kind p : Int} (hk0 : 0 ≤ kind) (hk5 : kind ≤ 5) (h3 : 0 ≤ p) (h4 : p < prs F) : Ok (m_findsLinks d kind p) (fun _ d' => Fr 149 152 d d' ∧ mL d' (eth F p) (lk F kind p) (lng F p 0) (lng F p 1)) := by
  have q := hw.prs_
  have l0 := hw.lng_ h3 h4 (s := 0) (by omega) (by omega)
  have l1 := hw.lng_ h3 h4 (s := 1) (by omega) (by omega)
  rw [m_findsLinks_e]
  refine Ok_bind (n_linksForth hF hw h3 h4) (fun v1 d1 f1 => ?_)
  (try dsimp only)
  have hF1 : d1.m 133 = F := (f1.1 133 (by omega)).trans hF
  refine Ok_bind (n_linksBack hF1 hw h3 h4) (fun v2 d2 f2 => ?_)
  (try dsimp only)
  have hF2 : d2.m 133 = F := (f2.1 133 (by omega)).trans hF1
  have fr2 : Fr 149 152 d d2 := (f1.1.mo (by omega) (by omega)).tr (f2.1.mo (by omega) (by omega))
  refine lpD (fun i t => m_findsLinks_12 t kind p i) (fun i t => Fr 149 151 d2 t ∧ ∀ x, 0 ≤ x → x < 6 → (t.m 149 (zix x) = if x < i then lk0 F kind p x else fth F p (lng F p 1) x) ∧ (x < i → t.m 150 (zix x) = eth F p x)) 0 6 (by omega) d2 ⟨Fr.rf, fun x a b => ⟨by rw [if_neg (by omega), f2.1 149 (by omega)]; exact f1.2 x a b, fun _ => by omega⟩⟩ (fun t hi => ?_) (fun i t hi0 hi1 hi hnext => ?_)
  · have hF' : t.m 133 = F := (hi.1 133 (by omega)).trans hF2
    have hL : mL t (eth F p) (lk0 F kind p) (lng F p 0) (lng F p 1) := ⟨l0, l1, eth_ok hw h3 h4, lk0_ok hw h3 h4, fun x a b => (hi.2 x a b).2 b, fun x a b => by rw [(hi.2 x a b).1, if_pos b]⟩
    have fr : Fr 149 152 d t := fr2.tr (hi.1.mo (by omega) (by omega))
    have fin : ∀ t2 : zD P, t2.m 133 = F → Fr 149 152 d t2 → mL t2 (eth F p) (lk4 F kind p) (lng F p 0) (lng F p 1) → Ok (m_findsLinks_78 t2 kind p 0) (fun _ d' => Fr 149 152 d d' ∧ mL d' (eth F p) (lk F kind p) (lng F p 0) (lng F p 1)) := by
      intro t2 hFt2 fr3 hL2
      rw [m_findsLinks_78_e]
      by_cases k5 : kind = 5
      · have e1 : lk F kind p = fiI (eth F p) (lng F p 0) (lng F p 1) (lk4 F kind p) (lng F p 0) := by unfold lk; rw [if_pos k5]
        simp (disch := omega) only [↓reduceIte, zinT, wr_id, wrl_id, ltT, ltF, leT, leF, eqT, eqF, ne_eq, not_true_eq_false, not_false_eq_true, Option.bind_some, Ok_some, bi_0, bi_n0, bi_01]
        refine Ok_bind (n_addsBare hL2 hFt2 h3 (by omega) rfl rfl) (fun v3 d3 f3 => ?_)
        refine Ok_ret ⟨fr3.tr (f3.1.mo (by omega) (by omega)), ?_⟩
        rw [e1]
        exact f3.2
      · have e1 : lk F kind p = lk4 F kind p := by unfold lk; rw [if_neg k5]
        simp (disch := omega) only [↓reduceIte, zinT, wr_id, wrl_id, ltT, ltF, leT, leF, eqT, eqF, ne_eq, not_true_eq_false, not_false_eq_true, Option.bind_some, Ok_some, bi_0, bi_n0, bi_01]
        rw [e1]
        exact ⟨fr3, hL2⟩
    (try dsimp only)
    rw [m_findsLinks_12_e]
    simp (disch := omega) only [↓reduceIte, zinT, wr_id, wrl_id, ltT, ltF, leT, leF, eqT, eqF, ne_eq, not_true_eq_false, not_false_eq_true, Option.bind_some, Ok_some, bi_0, bi_n0, bi_01]
    by_cases k4 : kind ≤ 3
    · have e1 : lk4 F kind p = lk0 F kind p := by unfold lk4; rw [if_neg (by omega)]
      rw [if_pos k4]
      exact fin t hF' fr (by rw [e1]; exact hL)
    · have e1 : lk4 F kind p = grN (eth F p) (lng F p 0) (lng F p 1) (lk0 F kind p) 37 := by unfold lk4; rw [if_pos (by omega)]
      rw [if_neg k4]
      refine n_more (d := t) hw h3 (by omega) rfl rfl (lk0 F kind p) (fun t2 a b => fin t2 ((a 133 (by omega)).trans hF') (fr.tr (a.mo (by omega) (by omega))) (by rw [e1]; exact b)) 37 0 t (by omega) (by omega) hF' Fr.rf hL (mz_le _).1
  · have e9 := (hi.2 i hi0 hi1).1
    rw [if_neg (by omega)] at e9
    have e51 : t.m 151 (zix i) = bkk F p i := by rw [hi.1 151 (by omega)]; exact f2.2 i hi0 hi1
    have fin : ∀ t2 : zD P, Fr 149 151 t t2 → (∀ x, 0 ≤ x → x < 6 → t2.m 149 (zix x) = if x = i then lk0 F kind p i else t.m 149 (zix x)) → (∀ x, 0 ≤ x → x < 6 → t2.m 150 (zix x) = if x = i then eth F p i else t.m 150 (zix x)) → Ok (m_findsLinks_12 t2 kind p (i + 1)) (fun _ d' => Fr 149 152 d d' ∧ mL d' (eth F p) (lk F kind p) (lng F p 0) (lng F p 1)) := by
      intro t2 a b c
      refine hnext t2 ⟨hi.1.tr a, fun x x0 x1 => ⟨?_, fun x2 => ?_⟩⟩
      · rw [b x x0 x1]
        by_cases e : x = i
        · rw [if_pos e, if_pos (by omega), e]
        · rw [if_neg e, (hi.2 x x0 x1).1]
          by_cases e2 : x < i
          · rw [if_pos e2, if_pos (by omega)]
          · rw [if_neg e2, if_neg (by omega)]
      · rw [c x x0 x1]
        by_cases e : x = i
        · rw [if_pos e, e]
        · rw [if_neg e, (hi.2 x x0 x1).2 (by omega)]
    have ee : eth F p i = zbin 4 (fth F p (lng F p 1) i) (bkk F p i) := rfl
    (try dsimp only)
    rw [m_findsLinks_12_e]
    have fr1 : ∀ (a : Nat) (v : Int) (t' : zD P), Fr 149 151 t t' → Fr 149 151 t (t'.up 149 a v) := fun a v t' h => h.up (by omega) (by omega)
    have fr0 : ∀ (a : Nat) (v : Int) (t' : zD P), Fr 149 151 t t' → Fr 149 151 t (t'.up 150 a v) := fun a v t' h => h.up (by omega) (by omega)
    have k0 : ∀ q, lk0 F 0 p q = fth F p (lng F p 1) q := fun q => by unfold lk0; rw [if_pos rfl]
    have k1 : lk0 F 1 p i = bkk F p i := by unfold lk0; rw [if_neg (by decide), if_pos rfl]
    have k3 : lk0 F 3 p i = eth F p i := by unfold lk0; rw [if_neg (by decide), if_neg (by decide), if_pos rfl]
    have k2 : lk0 F 2 p i = zbin 3 (fth F p (lng F p 1) i) (bkk F p i) := by unfold lk0; rw [if_neg (by decide), if_neg (by decide), if_neg (by decide)]
    have k4 : lk0 F 4 p i = zbin 3 (fth F p (lng F p 1) i) (bkk F p i) := by unfold lk0; rw [if_neg (by decide), if_neg (by decide), if_neg (by decide)]
    have k5 : lk0 F 5 p i = zbin 3 (fth F p (lng F p 1) i) (bkk F p i) := by unfold lk0; rw [if_neg (by decide), if_neg (by decide), if_neg (by decide)]
    rcases (by omega : kind = 0 ∨ kind = 1 ∨ kind = 2 ∨ kind = 3 ∨ kind = 4 ∨ kind = 5) with rfl | rfl | rfl | rfl | rfl | rfl
    · simp (disch := omega) only [↓reduceIte, zinT, wr_id, wrl_id, ltT, ltF, leT, leF, eqT, eqF, ne_eq, not_true_eq_false, not_false_eq_true, Option.bind_some, Ok_some, bi_0, bi_n0, bi_01, up_ne, u_149, u_150, zfu_z, e9, e51, if_true]
      refine fin _ (fr0 _ _ _ Fr.rf) (fun x x0 x1 => ?_) (fun x x0 x1 => ?_)
      · rw [up_ne (by omega), k0]
        by_cases e : x = i
        · rw [if_pos e, e, e9]
        · rw [if_neg e]
      · rw [u_150, zfu_z (by omega), ee]
    · simp (disch := omega) only [↓reduceIte, zinT, wr_id, wrl_id, ltT, ltF, leT, leF, eqT, eqF, ne_eq, not_true_eq_false, not_false_eq_true, Option.bind_some, Ok_some, bi_0, bi_n0, bi_01, up_ne, u_149, u_150, zfu_z, e9, e51, if_true]
      refine fin _ (fr1 _ _ _ (fr0 _ _ _ Fr.rf)) (fun x x0 x1 => ?_) (fun x x0 x1 => ?_)
      · rw [u_149, zfu_z (by omega), up_ne (by omega), k1]
      · rw [up_ne (by omega), u_150, zfu_z (by omega), ee]
    · simp (disch := omega) only [↓reduceIte, zinT, wr_id, wrl_id, ltT, ltF, leT, leF, eqT, eqF, ne_eq, not_true_eq_false, not_false_eq_true, Option.bind_some, Ok_some, bi_0, bi_n0, bi_01, up_ne, u_149, u_150, zfu_z, e9, e51, if_true]
      refine fin _ (fr1 _ _ _ (fr0 _ _ _ Fr.rf)) (fun x x0 x1 => ?_) (fun x x0 x1 => ?_)
      · rw [u_149, zfu_z (by omega), up_ne (by omega), k2]
      · rw [up_ne (by omega), u_150, zfu_z (by omega), ee]
    · simp (disch := omega) only [↓reduceIte, zinT, wr_id, wrl_id, ltT, ltF, leT, leF, eqT, eqF, ne_eq, not_true_eq_false, not_false_eq_true, Option.bind_some, Ok_some, bi_0, bi_n0, bi_01, up_ne, u_149, u_150, zfu_z, e9, e51, if_true]
      refine fin _ (fr1 _ _ _ (fr0 _ _ _ Fr.rf)) (fun x x0 x1 => ?_) (fun x x0 x1 => ?_)
      · rw [u_149, zfu_z (by omega), up_ne (by omega), k3, ee]
      · rw [up_ne (by omega), u_150, zfu_z (by omega), ee]
    · simp (disch := omega) only [↓reduceIte, zinT, wr_id, wrl_id, ltT, ltF, leT, leF, eqT, eqF, ne_eq, not_true_eq_false, not_false_eq_true, Option.bind_some, Ok_some, bi_0, bi_n0, bi_01, up_ne, u_149, u_150, zfu_z, e9, e51, if_true]
      refine fin _ (fr1 _ _ _ (fr0 _ _ _ Fr.rf)) (fun x x0 x1 => ?_) (fun x x0 x1 => ?_)
      · rw [u_149, zfu_z (by omega), up_ne (by omega), k4]
      · rw [up_ne (by omega), u_150, zfu_z (by omega), ee]
    · simp (disch := omega) only [↓reduceIte, zinT, wr_id, wrl_id, ltT, ltF, leT, leF, eqT, eqF, ne_eq, not_true_eq_false, not_false_eq_true, Option.bind_some, Ok_some, bi_0, bi_n0, bi_01, up_ne, u_149, u_150, zfu_z, e9, e51, if_true]
      refine fin _ (fr1 _ _ _ (fr0 _ _ _ Fr.rf)) (fun x x0 x1 => ?_) (fun x x0 x1 => ?_)
      · rw [u_149, zfu_z (by omega), up_ne (by omega), k5]
      · rw [up_ne (by omega), u_150, zfu_z (by omega), ee]
end
