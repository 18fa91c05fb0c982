/-! PHRASES: the class's answers. -/
def phN (F : Nat → Int) (kind v : Int) : Prop := if 0 ≤ kind ∧ kind ≤ 5 then ∃ K B, phT F kind K B v else v = -1
def phW (F : Nat → Int) (kind a w v : Int) : Prop := if (0 ≤ kind ∧ kind ≤ 5) ∧ 0 ≤ a ∧ (0 ≤ w ∧ w ≤ 4 ∨ 10 ≤ w ∧ w ≤ 12 ∨ 20 ≤ w ∧ w ≤ 22) then ∃ K B n, phT F kind K B n ∧ v = (if a < n then phV K B n a w else -1) else v = -1
theorem phN_uni {F : Nat → Int} {kind v v' : Int} (h : phN F kind v) (h' : phN F kind v') : v = v' := by
  unfold phN at h h'
  split at h
  · rename_i c
    rw [if_pos c] at h'
    obtain ⟨K, B, h⟩ := h
    obtain ⟨K', B', h'⟩ := h'
    exact (Tab_uni h.2 h'.2).1
  · rename_i c
    rw [if_neg c] at h'
    rw [h, h']
theorem phW_uni {F : Nat → Int} {kind a w v v' : Int} (h : phW F kind a w v) (h' : phW F kind a w v') : v = v' := by
  unfold phW at h h'
  split at h
  · rename_i c
    rw [if_pos c] at h'
    obtain ⟨K, B, n, h, e⟩ := h
    obtain ⟨K', B', n', h', e'⟩ := h'
    have u := phV_uni (w := w) h h' c.2.1
    rw [e, e', ← u.1]
    split
    · rename_i c2
      rw [u.2 c2, u.1]
    · rfl
  · rename_i c
    rw [if_neg c] at h'
    rw [h, h']
section
variable {P : zP} {d t : zD P} {F : Nat → Int} {K B : Int → Int} {n kind : Int}
theorem k_rowBoxes (hw : WF F) (h : pM t K B n) (hT : phT F kind K B n) {a : Int} (a0 : 0 ≤ a) (a1 : a < n) : ph_rowBoxes t a = some (rbK K B n a, t) := by
  have hn := hT.1
  have hn0 := hT.2.1
  have ka := h.2.1 a a0 a1
  rw [ph_rowBoxes_e]
  simp (disch := omega) only [↓reduceIte, zinT, wr_id, wrl_id, ltT, ltF, leT, leF, eqT, eqF, ne_eq, not_true_eq_false, not_false_eq_true, Option.bind_some, Ok_some, bi_0, bi_n0, bi_01, ka.1]
  refine Ok_eq (lpM (fun k s (y : zV × Int) => ph_rowBoxes_11 s (0, a) (zlsh 1 (ph6 (K a)) 18) y.1 y.2 k) (fun k s y => s = t ∧ y.2 = sm k (fun k => if rwK (K k) 0 = rwK (K a) 0 then B k else 0)) 0 n hn0 t ((3, 0), 0) ⟨rfl, rfl⟩ (fun s y hi => ?_) (fun k s y k0 k1 hi hnext => ?_))
  · obtain ⟨g, v⟩ := y
    obtain ⟨rfl, hv⟩ := hi
    (try dsimp only at hv)
    (try dsimp only)
    rw [ph_rowBoxes_11_e, h.1]
    simp (disch := omega) only [↓reduceIte, zinT, wr_id, wrl_id, ltT, ltF, leT, leF, eqT, eqF, ne_eq, not_true_eq_false, not_false_eq_true, Option.bind_some, Ok_some, bi_0, bi_n0, bi_01]
    exact ⟨hv, trivial⟩
  · obtain ⟨g, v⟩ := y
    obtain ⟨rfl, hv⟩ := hi
    (try dsimp only at hv)
    have kk := h.2.1 k k0 k1
    have bk := h.2.2 k k0 k1
    have rr := ph6_row kk.2.1 kk.2.2 ka.2.1 ka.2.2
    have ra := ph6_row ka.2.1 ka.2.2 ka.2.1 ka.2.2
    (try dsimp only)
    rw [ph_rowBoxes_11_e, h.1, kk.1, bk, rr.1, ra.1]
    simp (disch := omega) only [↓reduceIte, zinT, wr_id, wrl_id, ltT, ltF, leT, leF, eqT, eqF, ne_eq, not_true_eq_false, not_false_eq_true, Option.bind_some, Ok_some, bi_0, bi_n0, bi_01]
    by_cases c : rwK (K k) 0 = rwK (K a) 0
    · rw [if_neg (fun hc => hc (rr.2.mpr c))]
      refine hnext _ (_, _) ⟨rfl, ?_⟩
      rw [sm_s _ k0, if_pos c]
      (try dsimp only)
      rw [hv]
    · rw [if_pos (fun hc => c (rr.2.mp hc))]
      refine hnext _ (_, _) ⟨rfl, ?_⟩
      rw [sm_s _ k0, if_neg c]
      (try dsimp only)
      omega
theorem k_costOf (hw : WF F) (h : pM t K B n) (hT : phT F kind K B n) {a : Int} (a0 : 0 ≤ a) (a1 : a < n) : ph_costOf t a = some (1050 - 1000 * B a / rbK K B n a, t) := by
  have hn := hT.1
  have le := phT_le hw hT a0 a1
  have rl := rbK_le hw hT a0 a1
  have ba := h.2.2 a a0 a1
  have e := zdiv0 (a := 1000 * B a) (b := rbK K B n a) (by omega)
  rw [ph_costOf_e, k_rowBoxes hw h hT a0 a1]
  simp (disch := omega) only [↓reduceIte, zinT, wr_id, wrl_id, ltT, ltF, leT, leF, eqT, eqF, ne_eq, not_true_eq_false, not_false_eq_true, Option.bind_some, Ok_some, bi_0, bi_n0, bi_01, ba, e]
theorem phN_y {F : Nat → Int} {kind v : Int} (c : 0 ≤ kind ∧ kind ≤ 5) (h : ∃ K B, phT F kind K B v) : phN F kind v := by
  unfold phN
  rw [if_pos c]
  exact h
theorem phN_n {F : Nat → Int} {kind : Int} (c : ¬ (0 ≤ kind ∧ kind ≤ 5)) : phN F kind (-1) := by
  unfold phN
  rw [if_neg c]
theorem phW_y {F : Nat → Int} {kind a w v : Int} (c : (0 ≤ kind ∧ kind ≤ 5) ∧ 0 ≤ a ∧ (0 ≤ w ∧ w ≤ 4 ∨ 10 ≤ w ∧ w ≤ 12 ∨ 20 ≤ w ∧ w ≤ 22)) (h : ∃ K B n, phT F kind K B n ∧ v = (if a < n then phV K B n a w else -1)) : phW F kind a w v := by
  unfold phW
  rw [if_pos c]
  exact h
theorem phW_n {F : Nat → Int} {kind a w : Int} (c : ¬ ((0 ≤ kind ∧ kind ≤ 5) ∧ 0 ≤ a ∧ (0 ≤ w ∧ w ≤ 4 ∨ 10 ≤ w ∧ w ≤ 12 ∨ 20 ≤ w ∧ w ≤ 22))) : phW F kind a w (-1) := by
  unfold phW
  rw [if_neg c]
theorem kw_isKind {a : Int} (h : I32 a) : wl_isKind d a = some (bi (decide (0 ≤ a ∧ a ≤ 5)), d) := by
  unfold I32 at h
  rw [wl_isKind_e]
  rcases (by omega : a < 0 ∨ (0 ≤ a ∧ a ≤ 5) ∨ 5 < a) with c | c | c
  · rw [bi_f (by omega)]
    simp (disch := omega) only [↓reduceIte, zinT, wr_id, wrl_id, ltT, ltF, leT, leF, eqT, eqF, ne_eq, not_true_eq_false, not_false_eq_true, Option.bind_some, Ok_some, bi_0, bi_n0, bi_01]
  · rw [bi_t c]
    simp (disch := omega) only [↓reduceIte, zinT, wr_id, wrl_id, ltT, ltF, leT, leF, eqT, eqF, ne_eq, not_true_eq_false, not_false_eq_true, Option.bind_some, Ok_some, bi_0, bi_n0, bi_01]
  · rw [bi_f (by omega)]
    simp (disch := omega) only [↓reduceIte, zinT, wr_id, wrl_id, ltT, ltF, leT, leF, eqT, eqF, ne_eq, not_true_eq_false, not_false_eq_true, Option.bind_some, Ok_some, bi_0, bi_n0, bi_01]
theorem k_phrases (hc : CI d F) {kind : Int} (hk : I32 kind) : Ok (wl_phrases d kind) (fun v t => Fr 115 125 d t ∧ phN F kind v) := by
  rw [wl_phrases_e, kw_isKind hk]
  by_cases c : 0 ≤ kind ∧ kind ≤ 5
  · rw [bi_t c]
    simp (disch := omega) only [↓reduceIte, zinT, wr_id, wrl_id, ltT, ltF, leT, leF, eqT, eqF, ne_eq, not_true_eq_false, not_false_eq_true, Option.bind_some, Ok_some, bi_0, bi_n0, bi_01]
    refine Ok_bind (k_phFill hc c.1 c.2) (fun v t f => ?_)
    obtain ⟨f1, K, B, n, a, b, e⟩ := f
    refine Ok_ret ⟨f1, phN_y c ⟨K, B, ?_⟩⟩
    rw [b.1]
    exact ⟨a, e⟩
  · rw [bi_f c]
    simp (disch := omega) only [↓reduceIte, zinT, wr_id, wrl_id, ltT, ltF, leT, leF, eqT, eqF, ne_eq, not_true_eq_false, not_false_eq_true, Option.bind_some, Ok_some, bi_0, bi_n0, bi_01]
    exact ⟨Fr.rf, phN_n c⟩
/-- which answer is asked for -/
def pick (w x y : Int) : Prop := (0 ≤ w ∧ w ≤ 4 ∧ x = 0 ∧ y = 0) ∨ (10 ≤ w ∧ w ≤ 12 ∧ x = 1 ∧ y = 0) ∨ (20 ≤ w ∧ w ≤ 22 ∧ x = 0 ∧ y = 1)
theorem k_ph36 (hc : CI d F) {kind a w x y : Int} (hk : 0 ≤ kind ∧ kind ≤ 5) (ha : 0 ≤ a) (hI : I32 a) (hp : pick w x y) (g : zV) : Ok (wl_phrase_36 d kind a w x y g) (fun v t => Fr 115 125 d t ∧ phW F kind a w v) := by
  unfold I32 at hI
  rw [wl_phrase_36_e]
  refine Ok_bind (k_phFill hc hk.1 hk.2) (fun v t f => ?_)
  obtain ⟨f1, K, B, n, a1, b, e⟩ := f
  have hT : phT F kind K B n := ⟨a1, e⟩
  have hw := hc.ca.wf
  have n0 := e.1
  (try dsimp only)
  rw [b.1]
  by_cases c : a < n
  · simp (disch := omega) only [↓reduceIte, zinT, wr_id, wrl_id, ltT, ltF, leT, leF, eqT, eqF, ne_eq, not_true_eq_false, not_false_eq_true, Option.bind_some, Ok_some, bi_0, bi_n0, bi_01]
    have q : (0 ≤ kind ∧ kind ≤ 5) ∧ 0 ≤ a ∧ (0 ≤ w ∧ w ≤ 4 ∨ 10 ≤ w ∧ w ≤ 12 ∨ 20 ≤ w ∧ w ≤ 22) := by
      unfold pick at hp
      exact ⟨hk, ha, by omega⟩
    have res : ∀ v, v = phV K B n a w → phW F kind a w v := fun v hv => phW_y q ⟨K, B, n, hT, by rw [if_pos c]; exact hv⟩
    have le := phT_le hw hT ha c
    rcases hp with ⟨w0, w1, rfl, rfl⟩ | ⟨w0, w1, rfl, rfl⟩ | ⟨w0, w1, rfl, rfl⟩
    · rcases (by omega : w = 0 ∨ w = 1 ∨ w = 2 ∨ w = 3 ∨ w = 4) with rfl | rfl | rfl | rfl | rfl
      · simp (disch := omega) only [↓reduceIte, zinT, wr_id, wrl_id, ltT, ltF, leT, leF, eqT, eqF, ne_eq, not_true_eq_false, not_false_eq_true, Option.bind_some, Ok_some, bi_0, bi_n0, bi_01, b.2.2 a ha c]
        exact ⟨f1, res _ rfl⟩
      · simp (disch := omega) only [↓reduceIte, zinT, wr_id, wrl_id, ltT, ltF, leT, leF, eqT, eqF, ne_eq, not_true_eq_false, not_false_eq_true, Option.bind_some, Ok_some, bi_0, bi_n0, bi_01, k_wordsOf hw b hT ha c (s := 0)]
        exact ⟨f1, res _ rfl⟩
      · simp (disch := omega) only [↓reduceIte, zinT, wr_id, wrl_id, ltT, ltF, leT, leF, eqT, eqF, ne_eq, not_true_eq_false, not_false_eq_true, Option.bind_some, Ok_some, bi_0, bi_n0, bi_01, k_wordsOf hw b hT ha c (s := 1)]
        exact ⟨f1, res _ rfl⟩
      · simp (disch := omega) only [↓reduceIte, zinT, wr_id, wrl_id, ltT, ltF, leT, leF, eqT, eqF, ne_eq, not_true_eq_false, not_false_eq_true, Option.bind_some, Ok_some, bi_0, bi_n0, bi_01, k_rowBoxes hw b hT ha c]
        exact ⟨f1, res _ rfl⟩
      · simp (disch := omega) only [↓reduceIte, zinT, wr_id, wrl_id, ltT, ltF, leT, leF, eqT, eqF, ne_eq, not_true_eq_false, not_false_eq_true, Option.bind_some, Ok_some, bi_0, bi_n0, bi_01, k_costOf hw b hT ha c]
        exact ⟨f1, res _ rfl⟩
    · have z1 := zdiv1 (a := w) (b := 10) (by omega)
      have r := rwK_le (s := 0) le.2.2.2.2.1 le.2.2.2.2.2
      have wl := wdK_le (i := w % 10) r.1 r.2
      have pv : phV K B n a w = if 0 ≤ wdK (rwK (K a) 0) (w % 10) then wdK (rwK (K a) 0) (w % 10) else -4 := by
        unfold phV
        rw [if_neg (by omega), if_neg (by omega), if_neg (by omega), if_neg (by omega), if_neg (by omega), if_pos (show w < 20 by omega)]
      simp (disch := omega) only [↓reduceIte, zinT, wr_id, wrl_id, ltT, ltF, leT, leF, eqT, eqF, ne_eq, not_true_eq_false, not_false_eq_true, Option.bind_some, Ok_some, bi_0, bi_n0, bi_01]
      rw [wl_phrase_55_e]
      simp (disch := omega) only [↓reduceIte, zinT, wr_id, wrl_id, ltT, ltF, leT, leF, eqT, eqF, ne_eq, not_true_eq_false, not_false_eq_true, Option.bind_some, Ok_some, bi_0, bi_n0, bi_01, z1, k_wordOf b a1 ha c (s := 0)]
      by_cases c2 : 0 ≤ wdK (rwK (K a) 0) (w % 10)
      · rw [if_pos c2] at pv ⊢
        exact Ok_ret ⟨f1, res _ pv.symm⟩
      · rw [if_neg c2] at pv ⊢
        exact Ok_ret ⟨f1, res _ pv.symm⟩
    · have z1 := zdiv1 (a := w) (b := 10) (by omega)
      have r := rwK_le (s := 1) le.2.2.2.2.1 le.2.2.2.2.2
      have wl := wdK_le (i := w % 10) r.1 r.2
      have pv : phV K B n a w = if 0 ≤ wdK (rwK (K a) 1) (w % 10) then wdK (rwK (K a) 1) (w % 10) else -4 := by
        unfold phV
        rw [if_neg (by omega), if_neg (by omega), if_neg (by omega), if_neg (by omega), if_neg (by omega), if_neg (show ¬ w < 20 by omega)]
      simp (disch := omega) only [↓reduceIte, zinT, wr_id, wrl_id, ltT, ltF, leT, leF, eqT, eqF, ne_eq, not_true_eq_false, not_false_eq_true, Option.bind_some, Ok_some, bi_0, bi_n0, bi_01]
      rw [wl_phrase_55_e]
      simp (disch := omega) only [↓reduceIte, zinT, wr_id, wrl_id, ltT, ltF, leT, leF, eqT, eqF, ne_eq, not_true_eq_false, not_false_eq_true, Option.bind_some, Ok_some, bi_0, bi_n0, bi_01, z1, k_wordOf b a1 ha c (s := 1)]
      by_cases c2 : 0 ≤ wdK (rwK (K a) 1) (w % 10)
      · rw [if_pos c2] at pv ⊢
        exact Ok_ret ⟨f1, res _ pv.symm⟩
      · rw [if_neg c2] at pv ⊢
        exact Ok_ret ⟨f1, res _ pv.symm⟩
  · simp (disch := omega) only [↓reduceIte, zinT, wr_id, wrl_id, ltT, ltF, leT, leF, eqT, eqF, ne_eq, not_true_eq_false, not_false_eq_true, Option.bind_some, Ok_some, bi_0, bi_n0, bi_01]
    unfold pick at hp
    exact ⟨f1, phW_y ⟨hk, ha, by omega⟩ ⟨K, B, n, hT, by rw [if_neg c]⟩⟩
end
