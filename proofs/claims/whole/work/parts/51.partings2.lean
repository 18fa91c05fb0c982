/-! PARTINGS, whole. -/
theorem pr_1 {s : Int → Int} {a w c h : Int} (hw : 0 ≤ w) (hh : 0 ≤ h) (e : w = 0 ∨ h = 0) : pr s a w c h = 1 := by
  rw [pr_eq hw hh]
  exact if_pos e
theorem base7 {A B q q' : Int} (h1 : 0 ≤ q ∧ q < 7 ∧ 0 ≤ q' ∧ q' < 7) (h : A * 7 + q' = B * 7 + q) : A = B ∧ q' = q := by omega
theorem base6 {A B q q' : Int} (h1 : 0 ≤ q ∧ q < 6 ∧ 0 ≤ q' ∧ q' < 6) (h : A * 6 + q' = B * 6 + q) : A = B ∧ q' = q := by omega
section
variable {P : zP} {d : zD P} {s E : Int → Int} {l m : Int}
theorem pTab_up {t : zD P} {c c' : Int → Int → Int → Int → Prop} {p q i j : Int} (l6 : l ≤ 6) (m6 : m ≤ 6) (hp : 1 ≤ p) (hi : 0 ≤ i) (hip : i + p ≤ l) (hq : 1 ≤ q) (hj : 0 ≤ j) (hjq : j + q ≤ m) (h : pTab t s l m c) (hc : ∀ p' q' i' j', c' p' q' i' j' → c p' q' i' j' ∨ (p' = p ∧ q' = q ∧ i' = i ∧ j' = j)) : pTab (t.up 121 (zix (((((((i * 7) + p) * 7) + j) * 7) + q))) (pr s i (p - 1) j (q - 1))) s l m c' := by
  intro p' q' i' j' a1 a2 a3 a4 a5 a6 a7
  rw [u_121, zfu_z (by omega)]
  by_cases e : ((i' * 7 + p') * 7 + j') * 7 + q' = ((i * 7 + p) * 7 + j) * 7 + q
  · have s1 := base7 (by omega) e
    have s2 := base7 (by omega) s1.1
    have s3 := base7 (by omega) s2.1
    have e1 : i' = i ∧ p' = p ∧ j' = j ∧ q' = q := ⟨s3.1, s3.2, s2.2, s1.2⟩
    rw [if_pos e, e1.1, e1.2.1, e1.2.2.1, e1.2.2.2]
  · rw [if_neg e]
    rcases hc _ _ _ _ a7 with h1 | h1
    · exact h p' q' i' j' a1 a2 a3 a4 a5 a6 h1
    · obtain ⟨rfl, rfl, rfl, rfl⟩ := h1
      exact absurd rfl e
theorem k_fillParts (h : lC d E s l m) {p q : Int} (hp : 1 ≤ p) (hp2 : p ≤ l) (hq : 1 ≤ q) (hq2 : q ≤ m) (hT : pTab d s l m (fun p' q' _ _ => p' < p ∨ (p' = p ∧ q' < q))) : Ok (sh_fillParts d p q) (fun _ t => Fr 121 122 d t ∧ pTab t s l m (fun p' q' _ _ => p' < p ∨ (p' = p ∧ q' < q + 1))) := by
  have l1 := h.2.2.1
  have m1 := h.2.2.2.1
  rw [sh_fillParts_e]
  refine lpM (fun i t (g : zV) => sh_fillParts_2 t p q i g) (fun i t _ => Fr 121 122 d t ∧ pTab t s l m (fun p' q' i' _ => p' < p ∨ (p' = p ∧ (q' < q ∨ (q' = q ∧ i' < i))))) 0 (l - p + 1) (by omega) d (3, 0) ⟨Fr.rf, fun p' q' i' j' a1 a2 a3 a4 a5 a6 a7 => hT p' q' i' j' a1 a2 a3 a4 a5 a6 (by omega)⟩ (fun t g hi => ?_) (fun i t g hi0 hi1 hi hnext => ?_)
  · have e1 := (lC_fr h (fun r a b => hi.1 r (by omega))).1
    (try dsimp only)
    rw [sh_fillParts_2_e]
    simp (disch := omega) only [↓reduceIte, zinT, wr_id, wrl_id, ltT, ltF, leT, leF, eqT, eqF, ne_eq, not_true_eq_false, not_false_eq_true, Option.bind_some, Ok_some, bi_0, bi_n0, bi_01, e1]
    exact ⟨hi.1, fun p' q' i' j' a1 a2 a3 a4 a5 a6 a7 => hi.2 p' q' i' j' a1 a2 a3 a4 a5 a6 (by omega)⟩
  · have e1 := (lC_fr h (fun r a b => hi.1 r (by omega))).1
    (try dsimp only)
    rw [sh_fillParts_2_e]
    simp (disch := omega) only [↓reduceIte, zinT, wr_id, wrl_id, ltT, ltF, leT, leF, eqT, eqF, ne_eq, not_true_eq_false, not_false_eq_true, Option.bind_some, Ok_some, bi_0, bi_n0, bi_01, e1]
    refine lpD (fun j t => sh_fillParts_10 t p q i j) (fun j t => Fr 121 122 d t ∧ pTab t s l m (fun p' q' i' j' => p' < p ∨ (p' = p ∧ (q' < q ∨ (q' = q ∧ (i' < i ∨ (i' = i ∧ j' < j))))))) 0 (m - q + 1) (by omega) t ⟨hi.1, fun p' q' i' j' a1 a2 a3 a4 a5 a6 a7 => hi.2 p' q' i' j' a1 a2 a3 a4 a5 a6 (by omega)⟩ (fun t hj => ?_) (fun j t hj0 hj1 hj hnext2 => ?_)
    · have e2 := (lC_fr h (fun r a b => hj.1 r (by omega))).2.1
      (try dsimp only)
      rw [sh_fillParts_10_e]
      simp (disch := omega) only [↓reduceIte, zinT, wr_id, wrl_id, ltT, ltF, leT, leF, eqT, eqF, ne_eq, not_true_eq_false, not_false_eq_true, Option.bind_some, Ok_some, bi_0, bi_n0, bi_01, e2]
      refine hnext _ _ ?_
      exact ⟨hj.1, fun p' q' i' j' a1 a2 a3 a4 a5 a6 a7 => hj.2 p' q' i' j' a1 a2 a3 a4 a5 a6 (by omega)⟩
    · have hc := lC_fr h (fun r a b => hj.1 r (by omega))
      have e2 := hc.2.1
      have go : ∀ v, v = pr s i (p - 1) j (q - 1) → Ok (sh_fillParts_10 (t.up 121 (zix (((((((i * 7) + p) * 7) + j) * 7) + q))) v) p q i (j + 1)) (fun _ t => Fr 121 122 d t ∧ pTab t s l m (fun p' q' _ _ => p' < p ∨ (p' = p ∧ q' < q + 1))) := by
        intro v hv
        subst hv
        refine hnext2 _ ⟨hj.1.up (by omega) (by omega), ?_⟩
        exact pTab_up l1.2 m1.2 hp hi0 (by omega) hq hj0 (by omega) hj.2 (fun p' q' i' j' x => by omega)
      (try dsimp only)
      rw [sh_fillParts_10_e]
      simp (disch := omega) only [↓reduceIte, zinT, wr_id, wrl_id, ltT, ltF, leT, leF, eqT, eqF, ne_eq, not_true_eq_false, not_false_eq_true, Option.bind_some, Ok_some, bi_0, bi_n0, bi_01, e2, sh_index_e]
      by_cases c1 : p = 1
      · simp (disch := omega) only [↓reduceIte, zinT, wr_id, wrl_id, ltT, ltF, leT, leF, eqT, eqF, ne_eq, not_true_eq_false, not_false_eq_true, Option.bind_some, Ok_some, bi_0, bi_n0, bi_01, if_true]
        exact go 1 (pr_1 (by omega) (by omega) (by omega)).symm
      · by_cases c2 : q = 1
        · simp (disch := omega) only [↓reduceIte, zinT, wr_id, wrl_id, ltT, ltF, leT, leF, eqT, eqF, ne_eq, not_true_eq_false, not_false_eq_true, Option.bind_some, Ok_some, bi_0, bi_n0, bi_01]
          exact go 1 (pr_1 (by omega) (by omega) (by omega)).symm
        · have wp := k_waysOfPart hc (i := i) (p := p) (j := j) (q := q) hi0 (by omega) (by omega) hj0 (by omega) (by omega) (fun p' q' i' j' a1 a2 a3 a4 a5 a6 a7 => hj.2 p' q' i' j' a1 a2 a3 a4 a5 a6 (Or.inl a7))
          simp (disch := omega) only [↓reduceIte, zinT, wr_id, wrl_id, ltT, ltF, leT, leF, eqT, eqF, ne_eq, not_true_eq_false, not_false_eq_true, Option.bind_some, Ok_some, bi_0, bi_n0, bi_01, wp]
          exact go _ rfl
theorem k_waysApart (h : lC d E s l m) : Ok (sh_waysApart d) (fun v t => Fr 121 122 d t ∧ v = pr s 0 (l - 1) 0 (m - 1)) := by
  have l1 := h.2.2.1
  have m1 := h.2.2.2.1
  rw [sh_waysApart_e]
  refine lpM (fun p t (g : zV) => sh_waysApart_2 t p g) (fun p t _ => Fr 121 122 d t ∧ pTab t s l m (fun p' _ _ _ => p' < p)) 1 (l + 1) (by omega) d (3, 0) ⟨Fr.rf, fun p' q' i' j' a1 a2 a3 a4 a5 a6 a7 => by omega⟩ (fun t g hi => ?_) (fun p t g hi0 hi1 hi hnext => ?_)
  · have hc := lC_fr h (fun r a b => hi.1 r (by omega))
    have e1 := hc.1
    have e2 := hc.2.1
    have tv := hi.2 l m 0 0 l1.1 (by omega) (by omega) m1.1 (by omega) (by omega) (by omega)
    (try dsimp only)
    rw [sh_waysApart_2_e]
    simp (disch := omega) only [↓reduceIte, zinT, wr_id, wrl_id, ltT, ltF, leT, leF, eqT, eqF, ne_eq, not_true_eq_false, not_false_eq_true, Option.bind_some, Ok_some, bi_0, bi_n0, bi_01, e1, e2, sh_index_e, tv]
    exact ⟨hi.1, trivial⟩
  · have e1 := (lC_fr h (fun r a b => hi.1 r (by omega))).1
    (try dsimp only)
    rw [sh_waysApart_2_e]
    simp (disch := omega) only [↓reduceIte, zinT, wr_id, wrl_id, ltT, ltF, leT, leF, eqT, eqF, ne_eq, not_true_eq_false, not_false_eq_true, Option.bind_some, Ok_some, bi_0, bi_n0, bi_01, e1]
    refine lpD (fun q t => sh_waysApart_8 t p q) (fun q t => Fr 121 122 d t ∧ pTab t s l m (fun p' q' _ _ => p' < p ∨ (p' = p ∧ q' < q))) 1 (m + 1) (by omega) t ⟨hi.1, fun p' q' i' j' a1 a2 a3 a4 a5 a6 a7 => hi.2 p' q' i' j' a1 a2 a3 a4 a5 a6 (by omega)⟩ (fun t hj => ?_) (fun q t hj0 hj1 hj hnext2 => ?_)
    · have e2 := (lC_fr h (fun r a b => hj.1 r (by omega))).2.1
      (try dsimp only)
      rw [sh_waysApart_8_e]
      simp (disch := omega) only [↓reduceIte, zinT, wr_id, wrl_id, ltT, ltF, leT, leF, eqT, eqF, ne_eq, not_true_eq_false, not_false_eq_true, Option.bind_some, Ok_some, bi_0, bi_n0, bi_01, e2]
      refine hnext _ _ ?_
      exact ⟨hj.1, fun p' q' i' j' a1 a2 a3 a4 a5 a6 a7 => hj.2 p' q' i' j' a1 a2 a3 a4 a5 a6 (by omega)⟩
    · have hc := lC_fr h (fun r a b => hj.1 r (by omega))
      have e2 := hc.2.1
      (try dsimp only)
      rw [sh_waysApart_8_e]
      simp (disch := omega) only [↓reduceIte, zinT, wr_id, wrl_id, ltT, ltF, leT, leF, eqT, eqF, ne_eq, not_true_eq_false, not_false_eq_true, Option.bind_some, Ok_some, bi_0, bi_n0, bi_01, e2]
      refine Ok_bind (k_fillParts hc hi0 (by omega) hj0 (by omega) hj.2) (fun v t2 f => ?_)
      refine hnext2 _ ⟨hj.1.tr f.1, f.2⟩
/-! the model: p and q are one more than how far a part goes -/
def qTab (t : zD P) (s : Int → Int) (l m : Int) (c : Int → Int → Int → Int → Prop) : Prop := ∀ w h a e, 0 ≤ w → 0 ≤ a → a + w < l → 0 ≤ h → 0 ≤ e → e + h < m → c w h a e → t.m 152 (zix (((216 * a) + (36 * (a + w))) + (6 * e) + (e + h))) = pr s a w e h
theorem n_partingsBy (h : mL d E s l m) {a w c e : Int} (h0 : 0 ≤ a) (h1 : 0 ≤ w) (h2 : a + w < l) (h3 : 0 ≤ c) (h4 : 0 ≤ e) (h5 : c + e < m) (hT : qTab d s l m (fun w' _ _ _ => w' < w)) : m_partingsBy d a (a + w) c (c + e) = some (pr s a w c e, d) := by
  have l1 := h.1
  have m1 := h.2.1
  rw [m_partingsBy_e]
  by_cases cw : w = 0
  · subst cw
    simp (disch := omega) only [↓reduceIte, zinT, wr_id, wrl_id, ltT, ltF, leT, leF, eqT, eqF, ne_eq, not_true_eq_false, not_false_eq_true, Option.bind_some, Ok_some, bi_0, bi_n0, bi_01, Int.add_zero, if_true]
    rw [pr_1 (by omega) h4 (Or.inl rfl)]
  · by_cases ce : e = 0
    · subst ce
      simp (disch := omega) only [↓reduceIte, zinT, wr_id, wrl_id, ltT, ltF, leT, leF, eqT, eqF, ne_eq, not_true_eq_false, not_false_eq_true, Option.bind_some, Ok_some, bi_0, bi_n0, bi_01, Int.add_zero]
      rw [pr_1 h1 (by omega) (Or.inr rfl)]
    · simp (disch := omega) only [↓reduceIte, zinT, wr_id, wrl_id, ltT, ltF, leT, leF, eqT, eqF, ne_eq, not_true_eq_false, not_false_eq_true, Option.bind_some, Ok_some, bi_0, bi_n0, bi_01]
      refine Ok_eq (lpQ (fun x (y : Int × zV × zV) => m_partingsBy_14 d a (a + w) c (c + e) y.1 y.2.1 x y.2.2) (fun x y => y.1 = prS s (pr s) a w c e (x - a - 1)) (a + 1) (a + w + 1) (by omega) (0, (3, 0), (3, 0)) (by (try dsimp only); rw [show a + 1 - a - 1 = 0 by omega]; rfl) (fun y hy => ?_) (fun x y hx hx2 hy hnext => ?_))
      · obtain ⟨v, g1, g2⟩ := y
        (try dsimp only at hy ⊢)
        rw [m_partingsBy_14_e]
        simp (disch := omega) only [↓reduceIte, zinT, wr_id, wrl_id, ltT, ltF, leT, leF, eqT, eqF, ne_eq, not_true_eq_false, not_false_eq_true, Option.bind_some, Ok_some, bi_0, bi_n0, bi_01]
        refine ⟨?_, trivial⟩
        rw [hy, pr_eq h1 h4]
        unfold prB
        rw [if_neg (by omega), show a + w + 1 - a - 1 = w by omega]
      · obtain ⟨v, g1, g2⟩ := y
        (try dsimp only at hy ⊢)
        rw [m_partingsBy_14_e]
        simp (disch := omega) only [↓reduceIte, zinT, wr_id, wrl_id, ltT, ltF, leT, leF, eqT, eqF, ne_eq, not_true_eq_false, not_false_eq_true, Option.bind_some, Ok_some, bi_0, bi_n0, bi_01]
        refine lpQ (fun y (u : Int × zV) => m_partingsBy_21 d a (a + w) c (c + e) u.1 u.2 x y) (fun y u => u.1 = v + prY s (pr s) a w c e (x - a) (y - c - 1)) (c + 1) (c + e + 1) (by omega) (v, g1) (by (try dsimp only); rw [show c + 1 - c - 1 = 0 by omega]; exact (Int.add_zero _).symm) (fun u hu => ?_) (fun y u hy0 hy1 hu hnext2 => ?_)
        · obtain ⟨v2, g1⟩ := u
          (try dsimp only at hu ⊢)
          rw [m_partingsBy_21_e]
          simp (disch := omega) only [↓reduceIte, zinT, wr_id, wrl_id, ltT, ltF, leT, leF, eqT, eqF, ne_eq, not_true_eq_false, not_false_eq_true, Option.bind_some, Ok_some, bi_0, bi_n0, bi_01]
          refine hnext (_, _, _) ?_
          (try dsimp only)
          unfold prS
          rw [show x + 1 - a - 1 = (x - a - 1) + 1 by omega, sm_s _ (by omega), hu, hy, show x - a - 1 + 1 = x - a by omega, show c + e + 1 - c - 1 = e by omega]
          rfl
        · obtain ⟨v2, g1⟩ := u
          (try dsimp only at hu ⊢)
          have A := n_goAcross h (a := a) (b := a + w) (c := c) (e := c + e) (i := x) (j := y) (t := false) h0 (by omega) (by omega) h2 h3 (by omega) (by omega) h5
          have B := n_goAcross h (a := a) (b := a + w) (c := c) (e := c + e) (i := x) (j := y) (t := true) h0 (by omega) (by omega) h2 h3 (by omega) (by omega) h5
          have A0 := acr_0 (s := s) (a := a) (b := a + w) (c := c) (e := c + e) (i := x) (j := y) (t := false) (by omega) (by omega) (by omega) (by omega)
          have B0 := acr_0 (s := s) (a := a) (b := a + w) (c := c) (e := c + e) (i := x) (j := y) (t := true) (by omega) (by omega) (by omega) (by omega)
          rw [show bi false = 0 from rfl] at A
          rw [show bi true = 1 from rfl] at B
          have t1 := hT (x - 1 - a) (y - 1 - c) a c (by omega) h0 (by omega) (by omega) h3 (by omega) (by omega)
          have t2 := hT (a + w - x) (c + e - y) x y (by omega) (by omega) (by omega) (by omega) (by omega) (by omega) (by omega)
          have t3 := hT (x - 1 - a) (c + e - y) a y (by omega) h0 (by omega) (by omega) (by omega) (by omega) (by omega)
          have t4 := hT (a + w - x) (y - 1 - c) x c (by omega) (by omega) (by omega) (by omega) (by omega) (by omega) (by omega)
          rw [show a + (x - 1 - a) = x - 1 by omega, show c + (y - 1 - c) = y - 1 by omega] at t1
          rw [show x + (a + w - x) = a + w by omega, show y + (c + e - y) = c + e by omega] at t2
          rw [show a + (x - 1 - a) = x - 1 by omega, show y + (c + e - y) = c + e by omega] at t3
          rw [show x + (a + w - x) = a + w by omega, show c + (y - 1 - c) = y - 1 by omega] at t4
          have eX : prX s (pr s) a w c e (x - a) (y - c) = (if acr s a (a + w) c (c + e) x y false = 0 then pr s a (x - 1 - a) c (y - 1 - c) * pr s x (a + w - x) y (c + e - y) else 0) + (if acr s a (a + w) c (c + e) x y true = 0 then pr s a (x - 1 - a) y (c + e - y) * pr s x (a + w - x) c (y - 1 - c) else 0) := by
            unfold prX
            rw [show a + (x - a) = x by omega, show c + (y - c) = y by omega, show x - a - 1 = x - 1 - a by omega, show y - c - 1 = y - 1 - c by omega, show w - (x - a) = a + w - x by omega, show e - (y - c) = c + e - y by omega]
          have fin : ∀ v3, v3 = v2 + prX s (pr s) a w c e (x - a) (y - c) → ∀ g1 : zV, Ok (m_partingsBy_21 d a (a + w) c (c + e) v3 g1 x (y + 1)) (fun v' d' => v' = pr s a w c e ∧ d' = d) := by
            intro v3 hv g1
            refine hnext2 (v3, g1) ?_
            (try dsimp only)
            unfold prY
            rw [show y + 1 - c - 1 = (y - c - 1) + 1 by omega, sm_s _ (by omega), show y - c - 1 + 1 = y - c by omega, hv, hu]
            unfold prY
            omega
          rw [eX] at fin
          rw [m_partingsBy_21_e]
          simp (disch := omega) only [↓reduceIte, zinT, wr_id, wrl_id, ltT, ltF, leT, leF, eqT, eqF, ne_eq, not_true_eq_false, not_false_eq_true, Option.bind_some, Ok_some, bi_0, bi_n0, bi_01, A]
          by_cases c1 : acr s a (a + w) c (c + e) x y false = 0
          · rw [if_neg (fun z => z c1)]
            rw [if_pos c1] at fin
            simp (disch := omega) only [↓reduceIte, zinT, wr_id, wrl_id, ltT, ltF, leT, leF, eqT, eqF, ne_eq, not_true_eq_false, not_false_eq_true, Option.bind_some, Ok_some, bi_0, bi_n0, bi_01, m_partAt_e, B, t1, t2]
            by_cases c2 : acr s a (a + w) c (c + e) x y true = 0
            · rw [if_neg (fun z => z c2)]
              rw [if_pos c2] at fin
              simp (disch := omega) only [↓reduceIte, zinT, wr_id, wrl_id, ltT, ltF, leT, leF, eqT, eqF, ne_eq, not_true_eq_false, not_false_eq_true, Option.bind_some, Ok_some, bi_0, bi_n0, bi_01, m_partAt_e, t3, t4]
              exact fin _ (by omega) _
            · rw [if_pos c2]
              rw [if_neg c2] at fin
              exact fin _ (by omega) _
          · rw [if_pos c1]
            rw [if_neg c1] at fin
            simp (disch := omega) only [↓reduceIte, zinT, wr_id, wrl_id, ltT, ltF, leT, leF, eqT, eqF, ne_eq, not_true_eq_false, not_false_eq_true, Option.bind_some, Ok_some, bi_0, bi_n0, bi_01, m_partAt_e, B]
            by_cases c2 : acr s a (a + w) c (c + e) x y true = 0
            · rw [if_neg (fun z => z c2)]
              rw [if_pos c2] at fin
              simp (disch := omega) only [↓reduceIte, zinT, wr_id, wrl_id, ltT, ltF, leT, leF, eqT, eqF, ne_eq, not_true_eq_false, not_false_eq_true, Option.bind_some, Ok_some, bi_0, bi_n0, bi_01, m_partAt_e, t3, t4]
              exact fin _ (by omega) _
            · rw [if_pos c2]
              rw [if_neg c2] at fin
              exact fin _ (by omega) _
theorem qTab_up {t : zD P} {c c' : Int → Int → Int → Int → Prop} {w h a e : Int} (l6 : l ≤ 6) (m6 : m ≤ 6) (hw : 0 ≤ w) (ha : 0 ≤ a) (haw : a + w < l) (hh : 0 ≤ h) (he : 0 ≤ e) (heh : e + h < m) (hq : qTab t s l m c) (hc : ∀ w' h' a' e', c' w' h' a' e' → c w' h' a' e' ∨ (w' = w ∧ h' = h ∧ a' = a ∧ e' = e)) : qTab (t.up 152 (zix (((216 * a) + (36 * (a + w))) + (6 * e) + (e + h))) (pr s a w e h)) s l m c' := by
  intro w' h' a' e' a1 a2 a3 a4 a5 a6 a7
  rw [u_152, zfu_z (by omega)]
  by_cases q : 216 * a' + 36 * (a' + w') + 6 * e' + (e' + h') = 216 * a + 36 * (a + w) + 6 * e + (e + h)
  · have q2 : ((a' * 6 + (a' + w')) * 6 + e') * 6 + (e' + h') = ((a * 6 + (a + w)) * 6 + e) * 6 + (e + h) := by omega
    have s1 := base6 (by omega) q2
    have s2 := base6 (by omega) s1.1
    have s3 := base6 (by omega) s2.1
    have e1 : a' = a ∧ w' = w ∧ e' = e ∧ h' = h := ⟨s3.1, by omega, s2.2, by omega⟩
    rw [if_pos q, e1.1, e1.2.1, e1.2.2.1, e1.2.2.2]
  · rw [if_neg q]
    rcases hc _ _ _ _ a7 with h1 | h1
    · exact hq w' h' a' e' a1 a2 a3 a4 a5 a6 h1
    · obtain ⟨rfl, rfl, rfl, rfl⟩ := h1
      exact absurd rfl q
theorem n_partings25 (h : mL d E s l m) (g1 g2 : zV) : Ok (m_partings_25 d g1 g2 l m 0 (3, 0) (3, 0) (3, 0)) (fun v t => Fr 152 153 d t ∧ v = pr s 0 (l - 1) 0 (m - 1)) := by
  have l1 := h.1
  have m1 := h.2.1
  have fr : ∀ t : zD P, Fr 152 153 d t → mL t E s l m := fun t a => mL_fr h (a 149 (by omega)) (a 150 (by omega))
  refine lpM (fun w t (y : zV × zV × zV) => m_partings_25 t g1 g2 l m w y.1 y.2.1 y.2.2) (fun w t _ => Fr 152 153 d t ∧ qTab t s l m (fun w' _ _ _ => w' < w)) 0 l (by omega) d ((3, 0), (3, 0), (3, 0)) ⟨Fr.rf, fun w' h' a' e' a1 a2 a3 a4 a5 a6 a7 => by omega⟩ (fun t y hi => ?_) (fun w t y hw0 hw1 hi hnext => ?_)
  · obtain ⟨g6, g7, g8⟩ := y
    have tv := hi.2 (l - 1) (m - 1) 0 0 (by omega) (by omega) (by omega) (by omega) (by omega) (by omega) (by omega)
    rw [show (0 : Int) + (l - 1) = l - 1 by omega, show (0 : Int) + (m - 1) = m - 1 by omega] at tv
    (try dsimp only)
    rw [m_partings_25_e]
    simp (disch := omega) only [↓reduceIte, zinT, wr_id, wrl_id, ltT, ltF, leT, leF, eqT, eqF, ne_eq, not_true_eq_false, not_false_eq_true, Option.bind_some, Ok_some, bi_0, bi_n0, bi_01, m_partAt_e, tv]
    exact ⟨hi.1, trivial⟩
  · obtain ⟨g6, g7, g8⟩ := y
    (try dsimp only)
    rw [m_partings_25_e]
    simp (disch := omega) only [↓reduceIte, zinT, wr_id, wrl_id, ltT, ltF, leT, leF, eqT, eqF, ne_eq, not_true_eq_false, not_false_eq_true, Option.bind_some, Ok_some, bi_0, bi_n0, bi_01]
    refine lpM (fun q t (y : zV × zV) => m_partings_30 t g1 g2 l m w q y.1 y.2) (fun q t _ => Fr 152 153 d t ∧ qTab t s l m (fun w' h' _ _ => w' < w ∨ (w' = w ∧ h' < q))) 0 m (by omega) t (g7, g8) ⟨hi.1, fun w' h' a' e' a1 a2 a3 a4 a5 a6 a7 => hi.2 w' h' a' e' a1 a2 a3 a4 a5 a6 (by omega)⟩ (fun t y hj => ?_) (fun q t y hq0 hq1 hj hnext2 => ?_)
    · obtain ⟨g7, g8⟩ := y
      (try dsimp only)
      rw [m_partings_30_e]
      simp (disch := omega) only [↓reduceIte, zinT, wr_id, wrl_id, ltT, ltF, leT, leF, eqT, eqF, ne_eq, not_true_eq_false, not_false_eq_true, Option.bind_some, Ok_some, bi_0, bi_n0, bi_01]
      refine hnext _ (_, _, _) ?_
      exact ⟨hj.1, fun w' h' a' e' a1 a2 a3 a4 a5 a6 a7 => hj.2 w' h' a' e' a1 a2 a3 a4 a5 a6 (by omega)⟩
    · obtain ⟨g7, g8⟩ := y
      (try dsimp only)
      rw [m_partings_30_e]
      simp (disch := omega) only [↓reduceIte, zinT, wr_id, wrl_id, ltT, ltF, leT, leF, eqT, eqF, ne_eq, not_true_eq_false, not_false_eq_true, Option.bind_some, Ok_some, bi_0, bi_n0, bi_01]
      refine lpM (fun a t (g8 : zV) => m_partings_35 t g1 g2 l m w q a g8) (fun a t _ => Fr 152 153 d t ∧ qTab t s l m (fun w' h' a' _ => w' < w ∨ (w' = w ∧ (h' < q ∨ (h' = q ∧ a' < a))))) 0 (l - w) (by omega) t g8 ⟨hj.1, fun w' h' a' e' a1 a2 a3 a4 a5 a6 a7 => hj.2 w' h' a' e' a1 a2 a3 a4 a5 a6 (by omega)⟩ (fun t g8 hk => ?_) (fun a t g8 ha0 ha1 hk hnext3 => ?_)
      · (try dsimp only)
        rw [m_partings_35_e]
        simp (disch := omega) only [↓reduceIte, zinT, wr_id, wrl_id, ltT, ltF, leT, leF, eqT, eqF, ne_eq, not_true_eq_false, not_false_eq_true, Option.bind_some, Ok_some, bi_0, bi_n0, bi_01]
        refine hnext2 _ (_, _) ?_
        exact ⟨hk.1, fun w' h' a' e' a1 a2 a3 a4 a5 a6 a7 => hk.2 w' h' a' e' a1 a2 a3 a4 a5 a6 (by omega)⟩
      · (try dsimp only)
        rw [m_partings_35_e]
        simp (disch := omega) only [↓reduceIte, zinT, wr_id, wrl_id, ltT, ltF, leT, leF, eqT, eqF, ne_eq, not_true_eq_false, not_false_eq_true, Option.bind_some, Ok_some, bi_0, bi_n0, bi_01]
        refine lpD (fun c t => m_partings_42 t g1 g2 l m w q a c) (fun c t => Fr 152 153 d t ∧ qTab t s l m (fun w' h' a' e' => w' < w ∨ (w' = w ∧ (h' < q ∨ (h' = q ∧ (a' < a ∨ (a' = a ∧ e' < c))))))) 0 (m - q) (by omega) t ⟨hk.1, fun w' h' a' e' a1 a2 a3 a4 a5 a6 a7 => hk.2 w' h' a' e' a1 a2 a3 a4 a5 a6 (by omega)⟩ (fun t hl => ?_) (fun c t hc0 hc1 hl hnext4 => ?_)
        · (try dsimp only)
          rw [m_partings_42_e]
          simp (disch := omega) only [↓reduceIte, zinT, wr_id, wrl_id, ltT, ltF, leT, leF, eqT, eqF, ne_eq, not_true_eq_false, not_false_eq_true, Option.bind_some, Ok_some, bi_0, bi_n0, bi_01]
          refine hnext3 _ _ ?_
          exact ⟨hl.1, fun w' h' a' e' a1 a2 a3 a4 a5 a6 a7 => hl.2 w' h' a' e' a1 a2 a3 a4 a5 a6 (by omega)⟩
        · have pb := n_partingsBy (fr t hl.1) (a := a) (w := w) (c := c) (e := q) ha0 hw0 (by omega) hc0 hq0 (by omega) (fun w' h' a' e' a1 a2 a3 a4 a5 a6 a7 => hl.2 w' h' a' e' a1 a2 a3 a4 a5 a6 (Or.inl a7))
          (try dsimp only)
          rw [m_partings_42_e]
          simp (disch := omega) only [↓reduceIte, zinT, wr_id, wrl_id, ltT, ltF, leT, leF, eqT, eqF, ne_eq, not_true_eq_false, not_false_eq_true, Option.bind_some, Ok_some, bi_0, bi_n0, bi_01, m_partAt_e, pb]
          refine hnext4 _ ⟨hl.1.up (by omega) (by omega), ?_⟩
          exact qTab_up l1.2 m1.2 hw0 ha0 (by omega) hq0 hc0 (by omega) hl.2 (fun w' h' a' e' x => by omega)
end
