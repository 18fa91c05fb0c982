/-! WHERE A PAIR IS BEST CUT. -/
def ctS (s : Int → Int) (l m i j : Int) : Int := sw s 0 i (mk j m) + sw s i l (mk 0 j)
def ctJ (s : Int → Int) (l m i n : Int) (t : Int × Int × Int) : Int × Int × Int := fo n t (fun j t => if 1 ≤ j ∧ ctS s l m i j < t.2.2 then (i, j, ctS s l m i j) else t)
def ctI (s : Int → Int) (l m n : Int) : Int × Int × Int := fo n (0, 0, 1000000000) (fun i t => if 1 ≤ i then ctJ s l m i m t else t)
theorem ctJ_s {s : Int → Int} {l m i n : Int} {t : Int × Int × Int} (h : 0 ≤ n) : ctJ s l m i (n + 1) t = if 1 ≤ n ∧ ctS s l m i n < (ctJ s l m i n t).2.2 then (i, n, ctS s l m i n) else ctJ s l m i n t := fo_s _ _ h
theorem ctI_s {s : Int → Int} {l m n : Int} (h : 0 ≤ n) : ctI s l m (n + 1) = if 1 ≤ n then ctJ s l m n m (ctI s l m n) else ctI s l m n := fo_s _ _ h
theorem ctJ_1 {s : Int → Int} {l m i : Int} {t : Int × Int × Int} : ctJ s l m i 1 t = t := by
  have e : ctJ s l m i (0 + 1) t = _ := ctJ_s (Int.le_refl 0)
  rw [if_neg (by omega)] at e
  exact e
theorem ctI_1 {s : Int → Int} {l m : Int} : ctI s l m 1 = (0, 0, 1000000000) := by
  have e : ctI s l m (0 + 1) = _ := ctI_s (Int.le_refl 0)
  rw [if_neg (by omega)] at e
  exact e
theorem ctS_le {s : Int → Int} {l m i j : Int} (h0 : 0 ≤ i) (h1 : i ≤ l) (h2 : l ≤ 6) : 0 ≤ ctS s l m i j ∧ ctS s l m i j ≤ 72 := by
  have a := sw_le (s := s) (i0 := 0) (i1 := i) (M := mk j m) h0 (by omega)
  have b := sw_le (s := s) (i0 := i) (i1 := l) (M := mk 0 j) h1 (by omega)
  unfold ctS
  omega
section
variable {P : zP} {d : zD P} {s E : Int → Int} {l m : Int}
theorem lC_fr {t : zD P} (h : lC d E s l m) (hf : ∀ r, 115 ≤ r → r < 120 → t.m r = d.m r) : lC t E s l m := by
  obtain ⟨e1, e2, l1, m1, oE, oS, hE, hs⟩ := h
  refine ⟨by rw [hf 115 (by omega) (by omega)]; exact e1, by rw [hf 115 (by omega) (by omega)]; exact e2, l1, m1, oE, oS, fun i a b => ?_, fun i a b => ?_⟩
  · rw [hf 118 (by omega) (by omega)]; exact hE i a b
  · rw [hf 119 (by omega) (by omega)]; exact hs i a b
theorem mL_fr {t : zD P} (h : mL d E s l m) (h1 : t.m 149 = d.m 149) (h2 : t.m 150 = d.m 150) : mL t E s l m := by
  obtain ⟨l1, m1, oE, oS, hE, hs⟩ := h
  exact ⟨l1, m1, oE, oS, fun i a b => by rw [h2]; exact hE i a b, fun i a b => by rw [h1]; exact hs i a b⟩
/-- what the class has found by now -/
def ctM (t : zD P) (f : Int) (c : Int × Int × Int) : Prop := (f = 0 ∧ c = (0, 0, 1000000000)) ∨ (f = 1 ∧ t.m 120 1 = c.1 ∧ t.m 120 2 = c.2.1 ∧ t.m 120 3 = c.2.2 ∧ 0 ≤ c.2.2 ∧ c.2.2 ≤ 72)
def ctQ (d : zD P) (s : Int → Int) (l m : Int) : Int → zD P → Prop := fun v t => Fr 120 121 d t ∧ v = bi (decide (2 ≤ l ∧ 2 ≤ m)) ∧ ((2 ≤ l ∧ 2 ≤ m) → t.m 120 1 = (ctI s l m l).1 ∧ t.m 120 2 = (ctI s l m l).2.1 ∧ t.m 120 3 = (ctI s l m l).2.2)
theorem k_findCut (h : lC d E s l m) : Ok (sh_findCut d) (ctQ d s l m) := by
  have l1 := h.2.2.1
  have m1 := h.2.2.2.1
  rw [sh_findCut_e]
  refine lpM (fun i t (y : Int × zV × zV) => sh_findCut_4 t y.1 i y.2.1 y.2.2) (fun i t y => Fr 120 121 d t ∧ ctM t y.1 (ctI s l m i) ∧ (y.1 = 1 ↔ 2 ≤ i ∧ 2 ≤ m)) 1 l l1.1 d (0, (3, 0), (3, 0)) ⟨Fr.rf, Or.inl ⟨rfl, ctI_1⟩, by omega⟩ (fun t y hi => ?_) (fun i t y hk hk2 hi hnext => ?_)
  · obtain ⟨f, g, g'⟩ := y
    (try dsimp only at hi ⊢)
    have hc := lC_fr h (fun r a b => hi.1 r (by omega))
    have e1 := hc.1
    rw [sh_findCut_4_e]
    simp (disch := omega) only [↓reduceIte, zinT, wr_id, wrl_id, ltT, ltF, leT, leF, eqT, eqF, ne_eq, not_true_eq_false, not_false_eq_true, Option.bind_some, Ok_some, bi_0, bi_n0, bi_01, e1]
    rcases hi.2.1 with ⟨rfl, e⟩ | ⟨rfl, e⟩
    · rw [if_pos (Or.inl rfl)]
      refine Ok_ret (show _ ∧ _ ∧ _ from ⟨hi.1, ?_, fun x => absurd (hi.2.2.mpr x) (by decide)⟩)
      rw [bi_f (by omega)]
    · rw [if_pos (Or.inr rfl)]
      have := hi.2.2.mp rfl
      exact Ok_ret (show _ ∧ _ ∧ _ from ⟨hi.1, by rw [bi_t this], fun _ => ⟨e.1, e.2.1, e.2.2.1⟩⟩)
  · obtain ⟨f, g, g'⟩ := y
    (try dsimp only at hi ⊢)
    have hc := lC_fr h (fun r a b => hi.1 r (by omega))
    have e1 := hc.1
    rw [sh_findCut_4_e]
    simp (disch := omega) only [↓reduceIte, zinT, wr_id, wrl_id, ltT, ltF, leT, leF, eqT, eqF, ne_eq, not_true_eq_false, not_false_eq_true, Option.bind_some, Ok_some, bi_0, bi_n0, bi_01, e1]
    refine lpM (fun j t (y : Int × zV) => sh_findCut_10 t y.1 i j y.2) (fun j t y => Fr 120 121 d t ∧ ctM t y.1 (ctJ s l m i j (ctI s l m i)) ∧ (y.1 = 1 ↔ (2 ≤ i ∧ 2 ≤ m) ∨ 2 ≤ j)) 1 m m1.1 t (f, g') ⟨hi.1, by rw [ctJ_1]; exact hi.2.1, hi.2.2.trans (by omega)⟩ (fun t y hj => ?_) (fun j t y hj0 hj1 hj hnext2 => ?_)
    · obtain ⟨f, g'⟩ := y
      (try dsimp only at hj ⊢)
      have hc := lC_fr h (fun r a b => hj.1 r (by omega))
      have e2 := hc.2.1
      rw [sh_findCut_10_e]
      simp (disch := omega) only [↓reduceIte, zinT, wr_id, wrl_id, ltT, ltF, leT, leF, eqT, eqF, ne_eq, not_true_eq_false, not_false_eq_true, Option.bind_some, Ok_some, bi_0, bi_n0, bi_01, e2]
      refine hnext _ (_, _, _) ?_
      refine ⟨hj.1, by rw [ctI_s (by omega), if_pos hk]; exact hj.2.1, hj.2.2.trans (by omega)⟩
    · obtain ⟨f, g'⟩ := y
      (try dsimp only at hj ⊢)
      have hc := lC_fr h (fun r a b => hj.1 r (by omega))
      have e1 := hc.1
      have e2 := hc.2.1
      have w1 := k_linksWithin hc (i0 := 0) (i1 := i) (j0 := j) (j1 := m) (by omega) (by omega) (by omega) (by omega) (by omega) m1.2
      have w2 := k_linksWithin hc (i0 := i) (i1 := l) (j0 := 0) (j1 := j) (by omega) (by omega) (by omega) (by omega) (by omega) (by omega)
      have cs : sw s 0 i (mk j m) + sw s i l (mk 0 j) = ctS s l m i j := rfl
      have cl := ctS_le (s := s) (l := l) (m := m) (i := i) (j := j) (by omega) (by omega) l1.2
      have take : ctS s l m i j < (ctJ s l m i j (ctI s l m i)).2.2 → ∀ g2 : zV, Ok (sh_findCut_10 (((t.up 120 1 i).up 120 2 j).up 120 3 (ctS s l m i j)) 1 i (j + 1) g2) (ctQ d s l m) := by
        intro hlt g2
        refine hnext2 _ (_, _) ?_
        refine ⟨((hj.1.up (by omega) (by omega)).up (by omega) (by omega)).up (by omega) (by omega), ?_, by (try dsimp only); omega⟩
        rw [ctJ_s (by omega), if_pos ⟨hj0, hlt⟩]
        exact Or.inr ⟨rfl, by rw [u_120_3, u_120_2, u_120_1]; rfl, by rw [u_120_3, u_120_2]; rfl, by rw [u_120_3]; rfl, cl⟩
      rw [sh_findCut_10_e]
      simp (disch := omega) only [↓reduceIte, zinT, wr_id, wrl_id, ltT, ltF, leT, leF, eqT, eqF, ne_eq, not_true_eq_false, not_false_eq_true, Option.bind_some, Ok_some, bi_0, bi_n0, bi_01, e1, e2, w1, w2, cs]
      rcases hj.2.1 with ⟨rfl, e⟩ | ⟨rfl, e⟩
      · simp (disch := omega) only [↓reduceIte, zinT, wr_id, wrl_id, ltT, ltF, leT, leF, eqT, eqF, ne_eq, not_true_eq_false, not_false_eq_true, Option.bind_some, Ok_some, bi_0, bi_n0, bi_01, if_true]
        exact take (by rw [e]; (try dsimp only); omega) _
      · simp (disch := omega) only [↓reduceIte, zinT, wr_id, wrl_id, ltT, ltF, leT, leF, eqT, eqF, ne_eq, not_true_eq_false, not_false_eq_true, Option.bind_some, Ok_some, bi_0, bi_n0, bi_01, e.2.2.1]
        by_cases c : (ctJ s l m i j (ctI s l m i)).2.2 ≤ ctS s l m i j
        · rw [if_pos c]
          refine hnext2 _ (_, _) ?_
          refine ⟨hj.1, ?_, by (try dsimp only); omega⟩
          rw [ctJ_s (by omega), if_neg (by omega)]
          exact Or.inr ⟨rfl, e⟩
        · rw [if_neg c]
          exact take (by omega) _
/-! the model -/
theorem n_cut44 (h : mL d E s l m) {g1 g2 : zV} {w : Int} (hw : 0 ≤ w ∧ w ≤ 2) : m_cut_44 d g1 g2 w l m 0 0 1000000000 1 (3, 0) (3, 0) = some (if w = 0 then (ctI s l m l).1 else if w = 1 then (ctI s l m l).2.1 else (ctI s l m l).2.2, d) := by
  have l1 := h.1
  have m1 := h.2.1
  refine Ok_eq (lpQ (fun i (y : (Int × Int × Int) × zV × zV) => m_cut_44 d g1 g2 w l m y.1.1 y.1.2.1 y.1.2.2 i y.2.1 y.2.2) (fun i y => y.1 = ctI s l m i ∧ 0 ≤ y.1.2.2 ∧ y.1.2.2 ≤ 1000000000) 1 l l1.1 ((0, 0, 1000000000), (3, 0), (3, 0)) ⟨ctI_1.symm, by decide, by decide⟩ (fun y hy => ?_) (fun i y hk hk2 hy hnext => ?_))
  · obtain ⟨⟨a, b, c⟩, g, g'⟩ := y
    (try dsimp only at hy ⊢)
    rw [m_cut_44_e, ← hy.1]
    by_cases c1 : w = 0
    · simp (disch := omega) only [↓reduceIte, zinT, wr_id, wrl_id, ltT, ltF, leT, leF, eqT, eqF, ne_eq, not_true_eq_false, not_false_eq_true, Option.bind_some, Ok_some, bi_0, bi_n0, bi_01, if_true]
      exact ⟨trivial, trivial⟩
    · by_cases c2 : w = 1
      · simp (disch := omega) only [↓reduceIte, zinT, wr_id, wrl_id, ltT, ltF, leT, leF, eqT, eqF, ne_eq, not_true_eq_false, not_false_eq_true, Option.bind_some, Ok_some, bi_0, bi_n0, bi_01]
        exact ⟨trivial, trivial⟩
      · simp (disch := omega) only [↓reduceIte, zinT, wr_id, wrl_id, ltT, ltF, leT, leF, eqT, eqF, ne_eq, not_true_eq_false, not_false_eq_true, Option.bind_some, Ok_some, bi_0, bi_n0, bi_01]
        exact ⟨trivial, trivial⟩
  · obtain ⟨⟨a, b, c⟩, g, g'⟩ := y
    (try dsimp only at hy ⊢)
    rw [m_cut_44_e]
    simp (disch := omega) only [↓reduceIte, zinT, wr_id, wrl_id, ltT, ltF, leT, leF, eqT, eqF, ne_eq, not_true_eq_false, not_false_eq_true, Option.bind_some, Ok_some, bi_0, bi_n0, bi_01]
    refine lpQ (fun j (y : (Int × Int × Int) × zV) => m_cut_49 d g1 g2 w l m y.1.1 y.1.2.1 y.1.2.2 i j y.2) (fun j y => y.1 = ctJ s l m i j (ctI s l m i) ∧ 0 ≤ y.1.2.2 ∧ y.1.2.2 ≤ 1000000000) 1 m m1.1 ((a, b, c), g') ⟨by rw [ctJ_1]; exact hy.1, hy.2⟩ (fun y hy2 => ?_) (fun j y hj hj2 hy2 hnext2 => ?_)
    · obtain ⟨⟨a, b, c⟩, g⟩ := y
      (try dsimp only at hy2 ⊢)
      rw [m_cut_49_e]
      simp (disch := omega) only [↓reduceIte, zinT, wr_id, wrl_id, ltT, ltF, leT, leF, eqT, eqF, ne_eq, not_true_eq_false, not_false_eq_true, Option.bind_some, Ok_some, bi_0, bi_n0, bi_01]
      refine hnext ((_, _, _), _, _) ?_
      refine ⟨?_, hy2.2⟩
      rw [ctI_s (by omega), if_pos hk]
      exact hy2.1
    · obtain ⟨⟨a, b, c⟩, g⟩ := y
      (try dsimp only at hy2 ⊢)
      have ga := n_goAcross h (a := 0) (b := l - 1) (c := 0) (e := m - 1) (i := i) (j := j) (t := false) (by omega) (by omega) (by omega) (by omega) (by omega) (by omega) (by omega) (by omega)
      have ea : acr s 0 (l - 1) 0 (m - 1) i j false = ctS s l m i j := by
        unfold acr ctS
        rw [show l - 1 + 1 = l by omega, show m - 1 + 1 = m by omega]
        simp
      have b0 : bi false = 0 := rfl
      rw [ea, b0] at ga
      have cl := ctS_le (s := s) (l := l) (m := m) (i := i) (j := j) (by omega) (by omega) l1.2
      have es := ctJ_s (s := s) (l := l) (m := m) (i := i) (t := ctI s l m i) (n := j) (by omega)
      rw [← hy2.1] at es
      rw [m_cut_49_e]
      simp (disch := omega) only [↓reduceIte, zinT, wr_id, wrl_id, ltT, ltF, leT, leF, eqT, eqF, ne_eq, not_true_eq_false, not_false_eq_true, Option.bind_some, Ok_some, bi_0, bi_n0, bi_01, ga]
      by_cases c1 : ctS s l m i j < c
      · rw [if_pos c1]
        refine hnext2 ((i, j, ctS s l m i j), (0, ctS s l m i j)) ?_
        rw [if_pos ⟨hj, c1⟩] at es
        exact ⟨es.symm, by (try dsimp only); omega⟩
      · rw [if_neg c1]
        refine hnext2 ((_, _, _), _) ?_
        rw [if_neg (fun x => c1 x.2)] at es
        exact ⟨es.symm, hy2.2⟩
end
