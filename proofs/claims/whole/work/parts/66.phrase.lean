/-! PHRASES: the class's phrase, the model's answers. -/
section
variable {P : zP} {d t : zD P} {F : Nat → Int} {K B : Int → Int} {n kind : Int}
theorem k_ph18 (hc : CI d F) {kind a w x : Int} (hk : I32 kind) (hI : I32 a) (hW : I32 w) (hp : (x = 1 ∧ 10 ≤ w ∧ w ≤ 12) ∨ (x = 0 ∧ ¬ (10 ≤ w ∧ w ≤ 12) ∧ ¬ (20 ≤ w ∧ w ≤ 22))) (g5 g6 : zV) : Ok (wl_phrase_18 d kind a w x g5 g6) (fun v t => Fr 115 125 d t ∧ phW F kind a w v) := by
  have hI' := hI
  have hW' := hW
  unfold I32 at hI' hW'
  rw [wl_phrase_18_e, kw_isKind hk]
  by_cases c : 0 ≤ kind ∧ kind ≤ 5
  · rw [bi_t c]
    by_cases c2 : 0 ≤ a
    · rcases hp with ⟨rfl, w0, w1⟩ | ⟨rfl, w0, w1⟩
      · simp (disch := omega) only [↓reduceIte, zinT, wr_id, wrl_id, ltT, ltF, leT, leF, eqT, eqF, ne_eq, not_true_eq_false, not_false_eq_true, Option.bind_some, Ok_some, bi_0, bi_n0, bi_01]
        exact k_ph36 hc c c2 hI (by unfold pick; omega) _
      · by_cases c3 : w < 0
        · simp (disch := omega) only [↓reduceIte, zinT, wr_id, wrl_id, ltT, ltF, leT, leF, eqT, eqF, ne_eq, not_true_eq_false, not_false_eq_true, Option.bind_some, Ok_some, bi_0, bi_n0, bi_01, wl_phrase_34_e]
          exact ⟨Fr.rf, phW_n (by omega)⟩
        · by_cases c4 : w ≤ 4
          · simp (disch := omega) only [↓reduceIte, zinT, wr_id, wrl_id, ltT, ltF, leT, leF, eqT, eqF, ne_eq, not_true_eq_false, not_false_eq_true, Option.bind_some, Ok_some, bi_0, bi_n0, bi_01]
            exact k_ph36 hc c c2 hI (by unfold pick; omega) _
          · simp (disch := omega) only [↓reduceIte, zinT, wr_id, wrl_id, ltT, ltF, leT, leF, eqT, eqF, ne_eq, not_true_eq_false, not_false_eq_true, Option.bind_some, Ok_some, bi_0, bi_n0, bi_01, wl_phrase_34_e]
            exact ⟨Fr.rf, phW_n (by omega)⟩
    · simp (disch := omega) only [↓reduceIte, zinT, wr_id, wrl_id, ltT, ltF, leT, leF, eqT, eqF, ne_eq, not_true_eq_false, not_false_eq_true, Option.bind_some, Ok_some, bi_0, bi_n0, bi_01, wl_phrase_34_e]
      exact ⟨Fr.rf, phW_n (by omega)⟩
  · rw [bi_f c]
    simp (disch := omega) only [↓reduceIte, zinT, wr_id, wrl_id, ltT, ltF, leT, leF, eqT, eqF, ne_eq, not_true_eq_false, not_false_eq_true, Option.bind_some, Ok_some, bi_0, bi_n0, bi_01, wl_phrase_34_e]
    exact ⟨Fr.rf, phW_n (by omega)⟩
theorem k_ph8 (hc : CI d F) {kind a w : Int} (hk : I32 kind) (hI : I32 a) (hW : I32 w) (hp : ¬ (10 ≤ w ∧ w ≤ 12)) (g4 g5 g6 : zV) : Ok (wl_phrase_8 d kind a w g4 g5 g6) (fun v t => Fr 115 125 d t ∧ phW F kind a w v) := by
  have hI' := hI
  have hW' := hW
  unfold I32 at hI' hW'
  rw [wl_phrase_8_e]
  rcases (by omega : w < 20 ∨ 23 ≤ w ∨ (20 ≤ w ∧ w ≤ 22)) with c | c | c0
  · simp (disch := omega) only [↓reduceIte, zinT, wr_id, wrl_id, ltT, ltF, leT, leF, eqT, eqF, ne_eq, not_true_eq_false, not_false_eq_true, Option.bind_some, Ok_some, bi_0, bi_n0, bi_01]
    exact k_ph18 hc hk hI hW (by omega) _ _
  · simp (disch := omega) only [↓reduceIte, zinT, wr_id, wrl_id, ltT, ltF, leT, leF, eqT, eqF, ne_eq, not_true_eq_false, not_false_eq_true, Option.bind_some, Ok_some, bi_0, bi_n0, bi_01]
    exact k_ph18 hc hk hI hW (by omega) _ _
  · simp (disch := omega) only [↓reduceIte, zinT, wr_id, wrl_id, ltT, ltF, leT, leF, eqT, eqF, ne_eq, not_true_eq_false, not_false_eq_true, Option.bind_some, Ok_some, bi_0, bi_n0, bi_01]
    rw [kw_isKind hk]
    by_cases c : 0 ≤ kind ∧ kind ≤ 5
    · rw [bi_t c]
      by_cases c2 : 0 ≤ a
      · simp (disch := omega) only [↓reduceIte, zinT, wr_id, wrl_id, ltT, ltF, leT, leF, eqT, eqF, ne_eq, not_true_eq_false, not_false_eq_true, Option.bind_some, Ok_some, bi_0, bi_n0, bi_01]
        exact k_ph36 hc c c2 hI (by unfold pick; omega) _
      · simp (disch := omega) only [↓reduceIte, zinT, wr_id, wrl_id, ltT, ltF, leT, leF, eqT, eqF, ne_eq, not_true_eq_false, not_false_eq_true, Option.bind_some, Ok_some, bi_0, bi_n0, bi_01, wl_phrase_34_e]
        exact ⟨Fr.rf, phW_n (by omega)⟩
    · rw [bi_f c]
      simp (disch := omega) only [↓reduceIte, zinT, wr_id, wrl_id, ltT, ltF, leT, leF, eqT, eqF, ne_eq, not_true_eq_false, not_false_eq_true, Option.bind_some, Ok_some, bi_0, bi_n0, bi_01, wl_phrase_34_e]
      exact ⟨Fr.rf, phW_n (by omega)⟩
theorem k_phrase (hc : CI d F) {kind a w : Int} (hk : I32 kind) (hI : I32 a) (hW : I32 w) : Ok (wl_phrase d kind a w) (fun v t => Fr 115 125 d t ∧ phW F kind a w v) := by
  have hW' := hW
  unfold I32 at hW'
  rw [wl_phrase_e]
  rcases (by omega : w < 10 ∨ 13 ≤ w ∨ (10 ≤ w ∧ w ≤ 12)) with c | c | c
  · simp (disch := omega) only [↓reduceIte, zinT, wr_id, wrl_id, ltT, ltF, leT, leF, eqT, eqF, ne_eq, not_true_eq_false, not_false_eq_true, Option.bind_some, Ok_some, bi_0, bi_n0, bi_01]
    exact k_ph8 hc hk hI hW (by omega) _ _ _
  · simp (disch := omega) only [↓reduceIte, zinT, wr_id, wrl_id, ltT, ltF, leT, leF, eqT, eqF, ne_eq, not_true_eq_false, not_false_eq_true, Option.bind_some, Ok_some, bi_0, bi_n0, bi_01]
    exact k_ph8 hc hk hI hW (by omega) _ _ _
  · simp (disch := omega) only [↓reduceIte, zinT, wr_id, wrl_id, ltT, ltF, leT, leF, eqT, eqF, ne_eq, not_true_eq_false, not_false_eq_true, Option.bind_some, Ok_some, bi_0, bi_n0, bi_01]
    exact k_ph18 hc hk hI hW (by omega) _ _
/-! the model -/
theorem n_rowOf (h : qM t K B n) (hn : n ≤ 5400) {a s : Int} (a0 : 0 ≤ a) (a1 : a < n) (hs0 : 0 ≤ s) (hs1 : s < 2) : m_rowOf t a s = some (rwK (K a) s, t) := by
  have ha := h.2.1 a a0 a1
  have e0 := zldiv0 (a := K a) (b := 68921) (by omega)
  have e1 := zldiv1 (a := K a) (b := 68921) (by omega)
  rw [m_rowOf_e, ha.1]
  rcases (by omega : s = 0 ∨ s = 1) with rfl | rfl
  · simp (disch := omega) only [↓reduceIte, zinT, wr_id, wrl_id, ltT, ltF, leT, leF, eqT, eqF, ne_eq, not_true_eq_false, not_false_eq_true, Option.bind_some, Ok_some, bi_0, bi_n0, bi_01, e0]
    rfl
  · simp (disch := omega) only [↓reduceIte, zinT, wr_id, wrl_id, ltT, ltF, leT, leF, eqT, eqF, ne_eq, not_true_eq_false, not_false_eq_true, Option.bind_some, Ok_some, bi_0, bi_n0, bi_01, e1]
    rfl
theorem n_wordIn {r i : Int} (h0 : 0 ≤ r) (h1 : r < 68921) (hi0 : 0 ≤ i) (hi1 : i < 3) : m_wordIn d r i = some (wdK r i, d) := by
  have e0 := zdiv0 (a := r) (b := 1681) (by omega)
  have e1 := zdiv0 (a := r) (b := 41) (by omega)
  have e2 := zdiv1 (a := r) (b := 41) (by omega)
  have e3 := zdiv1 (a := r / 41) (b := 41) (by omega)
  rw [m_wordIn_e]
  rcases (by omega : i = 0 ∨ i = 1 ∨ i = 2) with rfl | rfl | rfl
  · simp (disch := omega) only [↓reduceIte, zinT, wr_id, wrl_id, ltT, ltF, leT, leF, eqT, eqF, ne_eq, not_true_eq_false, not_false_eq_true, Option.bind_some, Ok_some, bi_0, bi_n0, bi_01, e0]
    rfl
  · simp (disch := omega) only [↓reduceIte, zinT, wr_id, wrl_id, ltT, ltF, leT, leF, eqT, eqF, ne_eq, not_true_eq_false, not_false_eq_true, Option.bind_some, Ok_some, bi_0, bi_n0, bi_01, e1, e3]
    rfl
  · simp (disch := omega) only [↓reduceIte, zinT, wr_id, wrl_id, ltT, ltF, leT, leF, eqT, eqF, ne_eq, not_true_eq_false, not_false_eq_true, Option.bind_some, Ok_some, bi_0, bi_n0, bi_01, e2]
    rfl
theorem n_longRow {r : Int} (h0 : 0 ≤ r) (h1 : r < 68921) : m_longRow d r = some (wsK r, d) := by
  have w1 := wdK_le (i := 1) h0 h1
  have w2 := wdK_le (i := 2) h0 h1
  rw [m_longRow_e, n_wordIn h0 h1 (by omega) (by omega)]
  unfold wsK
  by_cases c1 : 0 ≤ wdK r 1
  · by_cases c2 : 0 ≤ wdK r 2
    · rw [if_pos c1, if_pos c2]
      simp (disch := omega) only [↓reduceIte, zinT, wr_id, wrl_id, ltT, ltF, leT, leF, eqT, eqF, ne_eq, not_true_eq_false, not_false_eq_true, Option.bind_some, Ok_some, bi_0, bi_n0, bi_01, n_wordIn h0 h1 (i := 2)]
    · rw [if_pos c1, if_neg c2]
      simp (disch := omega) only [↓reduceIte, zinT, wr_id, wrl_id, ltT, ltF, leT, leF, eqT, eqF, ne_eq, not_true_eq_false, not_false_eq_true, Option.bind_some, Ok_some, bi_0, bi_n0, bi_01, n_wordIn h0 h1 (i := 2)]
  · rw [if_neg c1]
    simp (disch := omega) only [↓reduceIte, zinT, wr_id, wrl_id, ltT, ltF, leT, leF, eqT, eqF, ne_eq, not_true_eq_false, not_false_eq_true, Option.bind_some, Ok_some, bi_0, bi_n0, bi_01]
theorem n_boxesWith (hw : WF F) (h : qM t K B n) (hT : phT F kind K B n) {a : Int} (a0 : 0 ≤ a) (a1 : a < n) : m_boxesWith t (rwK (K a) 0) = some (rbK K B n a, t) := by
  have hn := hT.1
  have hn0 := hT.2.1
  have ka := h.2.1 a a0 a1
  have ra := rwK_le (s := 0) ka.2.1 ka.2.2
  rw [m_boxesWith_e]
  refine Ok_eq (lpM (fun k s (y : Int) => m_boxesWith_4 s (rwK (K a) 0) y k) (fun k s y => s = t ∧ y = sm k (fun k => if rwK (K k) 0 = rwK (K a) 0 then B k else 0)) 0 n hn0 t 0 ⟨rfl, rfl⟩ (fun s y hi => ?_) (fun k s y k0 k1 hi hnext => ?_))
  · obtain ⟨rfl, hv⟩ := hi
    (try dsimp only)
    rw [m_boxesWith_4_e, h.1]
    simp (disch := omega) only [↓reduceIte, zinT, wr_id, wrl_id, ltT, ltF, leT, leF, eqT, eqF, ne_eq, not_true_eq_false, not_false_eq_true, Option.bind_some, Ok_some, bi_0, bi_n0, bi_01]
    exact ⟨hv, trivial⟩
  · obtain ⟨rfl, hv⟩ := hi
    have kk := h.2.1 k k0 k1
    have bk := h.2.2 k k0 k1
    have rk := rwK_le (s := 0) kk.2.1 kk.2.2
    (try dsimp only)
    rw [m_boxesWith_4_e, h.1, n_rowOf h hn k0 k1 (by omega) (by omega)]
    simp (disch := omega) only [↓reduceIte, zinT, wr_id, wrl_id, ltT, ltF, leT, leF, eqT, eqF, ne_eq, not_true_eq_false, not_false_eq_true, Option.bind_some, Ok_some, bi_0, bi_n0, bi_01, bk]
    by_cases c : rwK (K k) 0 = rwK (K a) 0
    · rw [if_neg (fun hc => hc c)]
      refine hnext _ _ ⟨rfl, ?_⟩
      rw [sm_s _ k0, if_pos c, hv]
    · rw [if_pos c]
      refine hnext _ _ ⟨rfl, ?_⟩
      rw [sm_s _ k0, if_neg c]
      omega
theorem n_costOf (hw : WF F) (h : qM t K B n) (hT : phT F kind K B n) {a : Int} (a0 : 0 ≤ a) (a1 : a < n) : m_costOf t a (rbK K B n a) = some (1050 - 1000 * B a / rbK K B n a, t) := by
  have hn := hT.1
  have le := phT_le hw hT a0 a1
  have rl := rbK_le hw hT a0 a1
  have ba := h.2.2 a a0 a1
  have e := zdiv0 (a := 1000 * B a) (b := rbK K B n a) (by omega)
  rw [m_costOf_e]
  simp (disch := omega) only [↓reduceIte, zinT, wr_id, wrl_id, ltT, ltF, leT, leF, eqT, eqF, ne_eq, not_true_eq_false, not_false_eq_true, Option.bind_some, Ok_some, bi_0, bi_n0, bi_01, ba, e]
theorem n_phrases (hF : d.m 133 = F) (hw : WF F) {kind : Int} (hk : I32 kind) : Ok (m_phrases d kind) (fun v t => FrP d t ∧ phN F kind v) := by
  rw [m_phrases_e, n_isKind hk]
  by_cases c : 0 ≤ kind ∧ kind ≤ 5
  · rw [bi_t c]
    simp (disch := omega) only [↓reduceIte, zinT, wr_id, wrl_id, ltT, ltF, leT, leF, eqT, eqF, ne_eq, not_true_eq_false, not_false_eq_true, Option.bind_some, Ok_some, bi_0, bi_n0, bi_01]
    refine Ok_bind (n_findsPhrases hF hw c.1 c.2) (fun v t f => ?_)
    obtain ⟨f1, K, B, n, a, b, e⟩ := f
    refine Ok_ret ⟨f1, phN_y c ⟨K, B, ?_⟩⟩
    rw [b.1]
    exact ⟨a, e⟩
  · rw [bi_f c]
    simp (disch := omega) only [↓reduceIte, zinT, wr_id, wrl_id, ltT, ltF, leT, leF, eqT, eqF, ne_eq, not_true_eq_false, not_false_eq_true, Option.bind_some, Ok_some, bi_0, bi_n0, bi_01]
    exact ⟨FrP.rf, phN_n c⟩
end
