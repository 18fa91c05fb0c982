/-! OVER: the model's row of said words. -/
section
variable {P : zP} {d t : zD P} {F : Nat → Int} {K B : Int → Int} {n kind : Int}
theorem n_row55 (hw : WF F) (h : qM t K B n) (hT : phT F kind K B n) {W : Int → Int} {L i len : Int} (hL8 : L ≤ 8) (hW : ∀ k, 0 ≤ k → k < L → t.m 155 (zix k) = W k ∧ 0 ≤ W k ∧ W k < 40) (i0 : 0 ≤ i) (l1 : 1 ≤ len) (l3 : len ≤ 3) (hl : i + len ≤ L) (g : zV) : m_putsOver_55 t i len 0 0 g = m_putsOver_84 t i len (rwW W i len) (rsK K B n (rwW W i len)) 0 := by
  have w0 := hW i i0 (by omega)
  have r := rwW_le (W := W) (fun k k0 k1 => (hW k k0 k1).2) i0 l1 l3 hl
  have fin : ∀ (x : Int) (g : zV), x = rwW W i len → m_putsOver_55 t i len x 3 g = m_putsOver_84 t i len (rwW W i len) (rsK K B n (rwW W i len)) 0 := fun x g hx => by
    rw [hx, m_putsOver_55_e]
    simp (disch := omega) only [↓reduceIte, zinT, wr_id, wrl_id, ltT, ltF, leT, leF, eqT, eqF, ne_eq, not_true_eq_false, not_false_eq_true, Option.bind_some, Ok_some, bi_0, bi_n0, bi_01, n_rowSum hw h hT r.1 r.2.1]
  rw [m_putsOver_55_e]
  simp (disch := omega) only [↓reduceIte, zinT, wr_id, wrl_id, ltT, ltF, leT, leF, eqT, eqF, ne_eq, not_true_eq_false, not_false_eq_true, Option.bind_some, Ok_some, bi_0, bi_n0, bi_01, show i + 0 = i by omega, w0.1]
  rw [m_putsOver_55_e]
  rcases (by omega : len = 1 ∨ len = 2 ∨ len = 3) with rfl | rfl | rfl
  · simp (disch := omega) only [↓reduceIte, zinT, wr_id, wrl_id, ltT, ltF, leT, leF, eqT, eqF, ne_eq, not_true_eq_false, not_false_eq_true, Option.bind_some, Ok_some, bi_0, bi_n0, bi_01, show (0 + 1 : Int) = 1 by omega]
    rw [m_putsOver_55_e]
    simp (disch := omega) only [↓reduceIte, zinT, wr_id, wrl_id, ltT, ltF, leT, leF, eqT, eqF, ne_eq, not_true_eq_false, not_false_eq_true, Option.bind_some, Ok_some, bi_0, bi_n0, bi_01, show (1 + 1 : Int) = 2 by omega]
    refine fin _ _ ?_
    unfold rwW
    rw [if_neg (by decide), if_neg (by decide)]
    omega
  · have w1 := hW (i + 1) (by omega) (by omega)
    simp (disch := omega) only [↓reduceIte, zinT, wr_id, wrl_id, ltT, ltF, leT, leF, eqT, eqF, ne_eq, not_true_eq_false, not_false_eq_true, Option.bind_some, Ok_some, bi_0, bi_n0, bi_01, show (0 + 1 : Int) = 1 by omega, w1.1]
    rw [m_putsOver_55_e]
    simp (disch := omega) only [↓reduceIte, zinT, wr_id, wrl_id, ltT, ltF, leT, leF, eqT, eqF, ne_eq, not_true_eq_false, not_false_eq_true, Option.bind_some, Ok_some, bi_0, bi_n0, bi_01, show (1 + 1 : Int) = 2 by omega]
    refine fin _ _ ?_
    unfold rwW
    rw [if_pos (by decide), if_neg (by decide)]
    omega
  · have w1 := hW (i + 1) (by omega) (by omega)
    have w2 := hW (i + 2) (by omega) (by omega)
    simp (disch := omega) only [↓reduceIte, zinT, wr_id, wrl_id, ltT, ltF, leT, leF, eqT, eqF, ne_eq, not_true_eq_false, not_false_eq_true, Option.bind_some, Ok_some, bi_0, bi_n0, bi_01, show (0 + 1 : Int) = 1 by omega, w1.1]
    rw [m_putsOver_55_e]
    simp (disch := omega) only [↓reduceIte, zinT, wr_id, wrl_id, ltT, ltF, leT, leF, eqT, eqF, ne_eq, not_true_eq_false, not_false_eq_true, Option.bind_some, Ok_some, bi_0, bi_n0, bi_01, show (1 + 1 : Int) = 2 by omega, w2.1]
    refine fin _ _ ?_
    unfold rwW
    rw [if_pos (by decide), if_pos (by decide)]
    omega
end
