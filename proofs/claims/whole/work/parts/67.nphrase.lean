/-! PHRASES: the model's phrase. -/
section
variable {P : zP} {d t : zD P} {F : Nat → Int} {K B : Int → Int} {n kind : Int}
theorem n_phRow (hw : WF F) (b : qM t K B n) (hT : phT F kind K B n) {a s i : Int} (a0 : 0 ≤ a) (a1 : a < n) (hs0 : 0 ≤ s) (hs1 : s < 2) (i0 : 0 ≤ i) (i1 : i < 3) : (m_rowOf t a s).bind (fun q1 => (m_wordIn q1.2 q1.1 i).bind fun q2 => if 0 ≤ wr q2.1 then some (q2.1, q2.2) else some (-4, q2.2)) = some (if 0 ≤ wdK (rwK (K a) s) i then wdK (rwK (K a) s) i else -4, t) := by
  have le := phT_le hw hT a0 a1
  have r := rwK_le (s := s) le.2.2.2.2.1 le.2.2.2.2.2
  have wl := wdK_le (i := i) r.1 r.2
  rw [n_rowOf b hT.1 a0 a1 hs0 hs1]
  simp (disch := omega) only [↓reduceIte, zinT, wr_id, wrl_id, ltT, ltF, leT, leF, eqT, eqF, ne_eq, not_true_eq_false, not_false_eq_true, Option.bind_some, Ok_some, bi_0, bi_n0, bi_01, n_wordIn r.1 r.2 i0 i1]
  by_cases c2 : 0 ≤ wdK (rwK (K a) s) i
  · rw [if_pos c2, if_pos c2]
  · rw [if_neg c2, if_neg c2]
/-- the equation's inner part -/
noncomputable def nphB (d : zD P) (a1 a2 a3 : Int) : Option (Int × zD P) := ((m_findsPhrases d a1).bind fun q3 => (if wr a2 < wr ((q3.2.m 132 30)) then ((m_rowOf q3.2 a2 0).bind fun q4 => ((m_boxesWith q4.2 q4.1).bind fun q5 => (if wr a3 < wr 10 then (if wr a3 = 0 then (if zin a2 5400 then some ((q5.2.m 154 (zix a2)), q5.2) else none) else (if wr a3 = 1 then ((m_rowOf q5.2 a2 0).bind fun q6 => ((m_longRow q6.2 q6.1).bind fun q7 => some (q7.1, q7.2))) else (if wr a3 = 2 then ((m_rowOf q5.2 a2 1).bind fun q8 => ((m_longRow q8.2 q8.1).bind fun q9 => some (q9.1, q9.2))) else (if wr a3 = 3 then some (q5.1, q5.2) else ((m_costOf q5.2 a2 q5.1).bind fun q10 => some (q10.1, q10.2)))))) else (if wr 20 ≤ wr a3 then ((m_rowOf q5.2 a2 1).bind fun q11 => ((m_wordIn q11.2 q11.1 ((zdiv 1 a3 10))).bind fun q12 => (if 0 ≤ wr q12.1 then some (q12.1, q12.2) else some ((-4), q12.2)))) else ((m_rowOf q5.2 a2 0).bind fun q13 => ((m_wordIn q13.2 q13.1 ((zdiv 1 a3 10))).bind fun q14 => (if 0 ≤ wr q14.1 then some (q14.1, q14.2) else some ((-4), q14.2)))))))) else some ((-1), q3.2)))
noncomputable def nphC (d : zD P) (x a1 a2 a3 : Int) : Option (Int × zD P) := (m_isKind d a1).bind fun q2 => if wr q2.1 = 0 then some (-1, q2.2) else if wr a2 < 0 then some (-1, q2.2) else if wr x ≠ 0 then nphB q2.2 a1 a2 a3 else some (-1, q2.2)
theorem n_phrase_C {a1 a2 a3 : Int} : m_phrase d a1 a2 a3 = (m_in d a3 0 4).bind fun q1 => if wr q1.1 ≠ 0 then nphC q1.2 1 a1 a2 a3 else (m_in q1.2 a3 10 12).bind fun q15 => if wr q15.1 ≠ 0 then nphC q15.2 1 a1 a2 a3 else (m_in q15.2 a3 20 22).bind fun q29 => if wr q29.1 = 0 then nphC q29.2 0 a1 a2 a3 else nphC q29.2 1 a1 a2 a3 := m_phrase_e
def okW (w : Int) : Prop := 0 ≤ w ∧ w ≤ 4 ∨ 10 ≤ w ∧ w ≤ 12 ∨ 20 ≤ w ∧ w ≤ 22
theorem n_phB (hF : d.m 133 = F) (hw : WF F) {kind a w : Int} (ck : 0 ≤ kind ∧ kind ≤ 5) (ca : 0 ≤ a) (hI : I32 a) (cw : okW w) : Ok (nphB d kind a w) (fun v t => FrP d t ∧ phW F kind a w v) := by
  have hI' := hI
  unfold I32 at hI'
  unfold nphB
  refine Ok_bind (n_findsPhrases hF hw ck.1 ck.2) (fun v t f => ?_)
  obtain ⟨f1, K, B, n, a1, b, e⟩ := f
  have hT : phT F kind K B n := ⟨a1, e⟩
  have n0 := e.1
  (try dsimp only)
  rw [b.1]
  by_cases c : a < n
  · rw [if_pos (by rw [wr_id (by omega), wr_id (by omega)]; exact c)]
    have le := phT_le hw hT ca c
    have r0 := rwK_le (s := 0) le.2.2.2.2.1 le.2.2.2.2.2
    have r1 := rwK_le (s := 1) le.2.2.2.2.1 le.2.2.2.2.2
    have o0 := n_rowOf b a1 ca c (s := 0) (by omega) (by omega)
    have o1 := n_rowOf b a1 ca c (s := 1) (by omega) (by omega)
    have res : ∀ v, v = phV K B n a w → FrP d t ∧ phW F kind a w v := fun v hv => ⟨f1, phW_y ⟨ck, ca, cw⟩ ⟨K, B, n, hT, by rw [if_pos c]; exact hv⟩⟩
    rw [o0, Option.bind_some, n_boxesWith hw b hT ca c, Option.bind_some]
    (try dsimp only)
    rcases cw with cw | cw | cw
    · rw [if_pos (by rw [wr_id (by omega), wr_id (by omega)]; omega)]
      rcases (by omega : w = 0 ∨ w = 1 ∨ w = 2 ∨ w = 3 ∨ w = 4) with rfl | rfl | rfl | rfl | rfl
      · simp (disch := omega) only [↓reduceIte, zinT, wr_id, wrl_id, ltT, ltF, leT, leF, eqT, eqF, ne_eq, not_true_eq_false, not_false_eq_true, Option.bind_some, Ok_some, bi_0, bi_n0, bi_01, b.2.2 a ca c]
        exact res _ rfl
      · simp (disch := omega) only [↓reduceIte, zinT, wr_id, wrl_id, ltT, ltF, leT, leF, eqT, eqF, ne_eq, not_true_eq_false, not_false_eq_true, Option.bind_some, Ok_some, bi_0, bi_n0, bi_01, o0, n_longRow r0.1 r0.2]
        exact res _ rfl
      · simp (disch := omega) only [↓reduceIte, zinT, wr_id, wrl_id, ltT, ltF, leT, leF, eqT, eqF, ne_eq, not_true_eq_false, not_false_eq_true, Option.bind_some, Ok_some, bi_0, bi_n0, bi_01, o1, n_longRow r1.1 r1.2]
        exact res _ rfl
      · simp (disch := omega) only [↓reduceIte, zinT, wr_id, wrl_id, ltT, ltF, leT, leF, eqT, eqF, ne_eq, not_true_eq_false, not_false_eq_true, Option.bind_some, Ok_some, bi_0, bi_n0, bi_01]
        exact res _ rfl
      · simp (disch := omega) only [↓reduceIte, zinT, wr_id, wrl_id, ltT, ltF, leT, leF, eqT, eqF, ne_eq, not_true_eq_false, not_false_eq_true, Option.bind_some, Ok_some, bi_0, bi_n0, bi_01, n_costOf hw b hT ca c]
        exact res _ rfl
    · have z1 := zdiv1 (a := w) (b := 10) (by omega)
      have pv : phV K B n a w = if 0 ≤ wdK (rwK (K a) 0) (w % 10) then wdK (rwK (K a) 0) (w % 10) else -4 := by
        unfold phV
        rw [if_neg (by omega), if_neg (by omega), if_neg (by omega), if_neg (by omega), if_neg (by omega), if_pos (show w < 20 by omega)]
      rw [if_neg (by rw [wr_id (by omega), wr_id (by omega)]; omega), if_neg (by rw [wr_id (by omega), wr_id (by omega)]; omega), z1]
      have g := n_phRow hw b hT ca c (s := 0) (i := w % 10) (by omega) (by omega) (by omega) (by omega)
      (try dsimp only at g)
      exact Ok_of g (res _ pv.symm)
    · have z1 := zdiv1 (a := w) (b := 10) (by omega)
      have pv : phV K B n a w = if 0 ≤ wdK (rwK (K a) 1) (w % 10) then wdK (rwK (K a) 1) (w % 10) else -4 := by
        unfold phV
        rw [if_neg (by omega), if_neg (by omega), if_neg (by omega), if_neg (by omega), if_neg (by omega), if_neg (show ¬ w < 20 by omega)]
      rw [if_neg (by rw [wr_id (by omega), wr_id (by omega)]; omega), if_pos (by rw [wr_id (by omega), wr_id (by omega)]; omega), z1]
      have g := n_phRow hw b hT ca c (s := 1) (i := w % 10) (by omega) (by omega) (by omega) (by omega)
      (try dsimp only at g)
      exact Ok_of g (res _ pv.symm)
  · rw [if_neg (by rw [wr_id (by omega), wr_id (by omega)]; exact c)]
    exact Ok_ret ⟨f1, phW_y ⟨ck, ca, cw⟩ ⟨K, B, n, hT, by rw [if_neg c]⟩⟩
theorem n_phC (hF : d.m 133 = F) (hw : WF F) {kind a w x : Int} (hk : I32 kind) (hI : I32 a) (hx : (x = 1 ∧ okW w) ∨ (x = 0 ∧ ¬ okW w)) : Ok (nphC d x kind a w) (fun v t => FrP d t ∧ phW F kind a w v) := by
  have hI' := hI
  unfold I32 at hI'
  unfold nphC
  rw [n_isKind hk]
  by_cases ck : 0 ≤ kind ∧ kind ≤ 5
  · rw [bi_t ck]
    by_cases ca : 0 ≤ a
    · rcases hx with ⟨rfl, cw⟩ | ⟨rfl, cw⟩
      · simp (disch := omega) only [↓reduceIte, zinT, wr_id, wrl_id, ltT, ltF, leT, leF, eqT, eqF, ne_eq, not_true_eq_false, not_false_eq_true, Option.bind_some, Ok_some, bi_0, bi_n0, bi_01]
        exact n_phB hF hw ck ca hI cw
      · simp (disch := omega) only [↓reduceIte, zinT, wr_id, wrl_id, ltT, ltF, leT, leF, eqT, eqF, ne_eq, not_true_eq_false, not_false_eq_true, Option.bind_some, Ok_some, bi_0, bi_n0, bi_01]
        exact ⟨FrP.rf, phW_n (fun h => cw h.2.2)⟩
    · simp (disch := omega) only [↓reduceIte, zinT, wr_id, wrl_id, ltT, ltF, leT, leF, eqT, eqF, ne_eq, not_true_eq_false, not_false_eq_true, Option.bind_some, Ok_some, bi_0, bi_n0, bi_01]
      exact ⟨FrP.rf, phW_n (fun h => ca h.2.1)⟩
  · rw [bi_f ck]
    simp (disch := omega) only [↓reduceIte, zinT, wr_id, wrl_id, ltT, ltF, leT, leF, eqT, eqF, ne_eq, not_true_eq_false, not_false_eq_true, Option.bind_some, Ok_some, bi_0, bi_n0, bi_01]
    exact ⟨FrP.rf, phW_n (fun h => ck h.1)⟩
theorem n_phrase (hF : d.m 133 = F) (hw : WF F) {kind a w : Int} (hk : I32 kind) (hI : I32 a) (hW : I32 w) : Ok (m_phrase d kind a w) (fun v t => FrP d t ∧ phW F kind a w v) := by
  rw [n_phrase_C, n_in ⟨hW, by unfold I32; omega, by unfold I32; omega⟩]
  by_cases c1 : 0 ≤ w ∧ w ≤ 4
  · rw [bi_t c1]
    simp (disch := omega) only [↓reduceIte, zinT, wr_id, wrl_id, ltT, ltF, leT, leF, eqT, eqF, ne_eq, not_true_eq_false, not_false_eq_true, Option.bind_some, Ok_some, bi_0, bi_n0, bi_01]
    exact n_phC hF hw hk hI (Or.inl ⟨rfl, Or.inl c1⟩)
  · rw [bi_f c1]
    simp (disch := omega) only [↓reduceIte, zinT, wr_id, wrl_id, ltT, ltF, leT, leF, eqT, eqF, ne_eq, not_true_eq_false, not_false_eq_true, Option.bind_some, Ok_some, bi_0, bi_n0, bi_01]
    rw [n_in ⟨hW, by unfold I32; omega, by unfold I32; omega⟩]
    by_cases c2 : 10 ≤ w ∧ w ≤ 12
    · rw [bi_t c2]
      simp (disch := omega) only [↓reduceIte, zinT, wr_id, wrl_id, ltT, ltF, leT, leF, eqT, eqF, ne_eq, not_true_eq_false, not_false_eq_true, Option.bind_some, Ok_some, bi_0, bi_n0, bi_01]
      exact n_phC hF hw hk hI (Or.inl ⟨rfl, Or.inr (Or.inl c2)⟩)
    · rw [bi_f c2]
      simp (disch := omega) only [↓reduceIte, zinT, wr_id, wrl_id, ltT, ltF, leT, leF, eqT, eqF, ne_eq, not_true_eq_false, not_false_eq_true, Option.bind_some, Ok_some, bi_0, bi_n0, bi_01]
      rw [n_in ⟨hW, by unfold I32; omega, by unfold I32; omega⟩]
      by_cases c3 : 20 ≤ w ∧ w ≤ 22
      · rw [bi_t c3]
        simp (disch := omega) only [↓reduceIte, zinT, wr_id, wrl_id, ltT, ltF, leT, leF, eqT, eqF, ne_eq, not_true_eq_false, not_false_eq_true, Option.bind_some, Ok_some, bi_0, bi_n0, bi_01]
        exact n_phC hF hw hk hI (Or.inl ⟨rfl, Or.inr (Or.inr c3)⟩)
      · rw [bi_f c3]
        simp (disch := omega) only [↓reduceIte, zinT, wr_id, wrl_id, ltT, ltF, leT, leF, eqT, eqF, ne_eq, not_true_eq_false, not_false_eq_true, Option.bind_some, Ok_some, bi_0, bi_n0, bi_01]
        exact n_phC hF hw hk hI (Or.inr ⟨rfl, fun h => by unfold okW at h; omega⟩)
end
