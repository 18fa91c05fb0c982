/-! OVER: the model's rows. -/
noncomputable def rsK (K B : Int → Int) (n r : Int) : Int := sm n (fun k => if rwK (K k) 0 = r then B k else 0)
theorem rsK_rb {K B : Int → Int} {n a : Int} : rsK K B n (rwK (K a) 0) = rbK K B n a := rfl
theorem rwW_le {W : Int → Int} {L i len : Int} (hW : ∀ k, 0 ≤ k → k < L → 0 ≤ W k ∧ W k < 40) (i0 : 0 ≤ i) (l1 : 1 ≤ len) (l3 : len ≤ 3) (hl : i + len ≤ L) : 0 ≤ rwW W i len ∧ rwW W i len < 68921 ∧ wsK (rwW W i len) = len := by
  have w0 := hW i i0 (by omega)
  rcases (by omega : len = 1 ∨ len = 2 ∨ len = 3) with rfl | rfl | rfl
  · unfold wsK rwW wdK
    rw [if_neg (by decide), if_neg (by decide)]
    refine ⟨by omega, by omega, ?_⟩
    rw [if_neg (by rw [if_neg (by decide), if_pos rfl]; omega)]
  · have w1 := hW (i + 1) (by omega) (by omega)
    unfold wsK rwW wdK
    rw [if_pos (by decide), if_neg (by decide)]
    refine ⟨by omega, by omega, ?_⟩
    rw [if_pos (by rw [if_neg (by decide), if_pos rfl]; omega), if_neg (by rw [if_neg (by decide), if_neg (by decide)]; omega)]
  · have w1 := hW (i + 1) (by omega) (by omega)
    have w2 := hW (i + 2) (by omega) (by omega)
    unfold wsK rwW wdK
    rw [if_pos (by decide), if_pos (by decide)]
    refine ⟨by omega, by omega, ?_⟩
    rw [if_pos (by rw [if_neg (by decide), if_pos rfl]; omega), if_pos (by rw [if_neg (by decide), if_neg (by decide)]; omega)]
section
variable {P : zP} {d t : zD P} {F : Nat → Int} {K B : Int → Int} {n kind : Int}
theorem n_rowSum (hw : WF F) (h : qM t K B n) (hT : phT F kind K B n) {r : Int} (r0 : 0 ≤ r) (r1 : r < 68921) : m_boxesWith t r = some (rsK K B n r, t) := by
  have hn := hT.1
  have hn0 := hT.2.1
  rw [m_boxesWith_e]
  refine Ok_eq (lpM (fun k s (y : Int) => m_boxesWith_4 s r y k) (fun k s y => s = t ∧ y = sm k (fun k => if rwK (K k) 0 = r then B k else 0)) 0 n hn0 t 0 ⟨rfl, rfl⟩ (fun s y hi => ?_) (fun k s y k0 k1 hi hnext => ?_))
  · obtain ⟨rfl, hv⟩ := hi
    (try dsimp only)
    rw [m_boxesWith_4_e, h.1]
    simp (disch := omega) only [↓reduceIte, zinT, wr_id, wrl_id, ltT, ltF, leT, leF, eqT, eqF, ne_eq, not_true_eq_false, not_false_eq_true, Option.bind_some, Ok_some, bi_0, bi_n0, bi_01]
    exact ⟨hv, trivial⟩
  · obtain ⟨rfl, hv⟩ := hi
    have kk := h.2.1 k k0 k1
    have bk := h.2.2 k k0 k1
    have rk := rwK_le (s := 0) kk.2.1 kk.2.2
    (try dsimp only)
    rw [m_boxesWith_4_e, h.1, n_rowOf h hn k0 k1 (by omega) (by omega)]
    simp (disch := omega) only [↓reduceIte, zinT, wr_id, wrl_id, ltT, ltF, leT, leF, eqT, eqF, ne_eq, not_true_eq_false, not_false_eq_true, Option.bind_some, Ok_some, bi_0, bi_n0, bi_01, bk]
    by_cases c : rwK (K k) 0 = r
    · rw [if_neg (fun hc => hc c)]
      refine hnext _ _ ⟨rfl, ?_⟩
      rw [sm_s _ k0, if_pos c, hv]
    · rw [if_pos c]
      refine hnext _ _ ⟨rfl, ?_⟩
      rw [sm_s _ k0, if_neg c]
      omega
theorem rsK_le {F : Nat → Int} (hw : WF F) {kind : Int} (hT : phT F kind K B n) {r : Int} : 0 ≤ rsK K B n r ∧ rsK K B n r ≤ 29160000 ∧ ∀ k, 0 ≤ k → k < n → rwK (K k) 0 = r → 1 ≤ rsK K B n r := by
  have hn := hT.1
  have g : ∀ k, 0 ≤ k → k < n → 0 ≤ (fun k => if rwK (K k) 0 = r then B k else 0) k ∧ (fun k => if rwK (K k) 0 = r then B k else 0) k ≤ 5400 := fun k k0 k1 => by
    have := phT_le hw hT k0 k1
    (try dsimp only)
    split <;> omega
  have u := sm_le hT.2.1 g
  refine ⟨u.1, Int.le_trans u.2 (by omega), fun k k0 k1 e => ?_⟩
  have t := (sm_term (g := fun k => if rwK (K k) 0 = r then B k else 0) hT.2.1 (fun k k0 k1 => (g k k0 k1).1)).2 k k0 k1
  (try dsimp only at t)
  rw [if_pos e] at t
  have := phT_le hw hT k0 k1
  unfold rsK
  omega
end
