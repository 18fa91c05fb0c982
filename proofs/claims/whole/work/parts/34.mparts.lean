/-! ONE PARTED: the model. -/
section
variable {P : zP} {d : zD P}
theorem n_parts86 {n l : Int} {r : Int → Int} {Q : Int → zD P → Prop} (h0 : 1 ≤ n) (h40 : n ≤ 40) (hr : ∀ k, 0 ≤ k → k < n → d.m 144 (zix k) = r k) (hb : ∀ k, 0 ≤ k → k < n → -1 ≤ r k ∧ r k ≤ 9223372036854775807) (g2 g3 : zV) (hq : ∀ g3 g5 g6 : zV, Ok (m_parts_80 ((d.up 145 (zix (amx n r)) (d.m 145 (zix (amx n r)) + 1)).up 144 (zix (amx n r)) (-1)) n g2 g3 (l + -1) g5 g6) Q) : Ok (m_parts_86 d n g2 g3 l 0 1) Q := by
  have ha := amx_le (r := r) h0
  refine lpQ (fun k (t : Int) => m_parts_86 d n g2 g3 l t k) (fun k t => t = fo k 0 (fun k b => if r b < r k then k else b) ∧ 0 ≤ t ∧ t < n) 1 n h0 0 ⟨?_, by omega, by omega⟩ (fun t hi => ?_) (fun k t hk hk2 hi hnext => ?_)
  · have e := fo_s (0 : Int) (fun k b => if r b < r k then k else b) (Int.le_refl 0)
    rw [show (1 : Int) = 0 + 1 from rfl, e, fo_0, if_neg (by omega)]
  · have e : t = amx n r := hi.1
    subst e
    (try dsimp only)
    rw [m_parts_86_e]
    simp (disch := omega) only [↓reduceIte, zinT, wr_id, wrl_id, ltT, ltF, leT, leF, eqT, eqF, ne_eq, not_true_eq_false, not_false_eq_true, Option.bind_some, Ok_some, bi_0, bi_n0, bi_01]
    exact hq _ _ _
  · have b1 := hb k (by omega) hk2
    have b2 := hb t hi.2.1 hi.2.2
    (try dsimp only)
    rw [m_parts_86_e]
    simp (disch := omega) only [↓reduceIte, zinT, wr_id, wrl_id, ltT, ltF, leT, leF, eqT, eqF, ne_eq, not_true_eq_false, not_false_eq_true, Option.bind_some, Ok_some, bi_0, bi_n0, bi_01, hr]
    have e := fo_s (0 : Int) (fun k b => if r b < r k then k else b) (k := k) (by omega)
    by_cases c : r k ≤ r t
    · rw [if_pos c]
      refine hnext _ ⟨?_, hi.2⟩
      rw [e, ← hi.1, if_neg (by omega)]
    · rw [if_neg c]
      refine hnext _ ⟨?_, by omega, hk2⟩
      rw [e, ← hi.1, if_pos (by omega)]
theorem n_parts80 {n m : Int} {g r : Int → Int} {A : Int} (h0 : 1 ≤ n) (h40 : n ≤ 40) (hm : m ≤ 100000) (hm2 : -4000000 ≤ m) (hg : ∀ k, 0 ≤ k → k < n → d.m 145 (zix k) = g k) (hr : ∀ k, 0 ≤ k → k < n → d.m 144 (zix k) = r k) (hA : A ≤ 9223372036854775807) (hb : ∀ q, 0 ≤ q → ∀ k, 0 ≤ k → k < n → -1 ≤ (fo q (g, r) (fun _ t => ptS n t)).2 k ∧ (fo q (g, r) (fun _ t => ptS n t)).2 k < A) (g2 g3 g5 g6 : zV) : Ok (m_parts_80 d n g2 g3 m g5 g6) (fun _ d' => Fr 144 146 d d' ∧ ∀ k, 0 ≤ k → k < n → d'.m 145 (zix k) = (fo m (g, r) (fun _ t => ptS n t)).1 k) := by
  by_cases hneg : m < 0
  · rw [m_parts_80_e, fo_neg (by omega)]
    simp (disch := omega) only [↓reduceIte, zinT, wr_id, wrl_id, ltT, ltF, leT, leF, eqT, eqF, ne_eq, not_true_eq_false, not_false_eq_true, Option.bind_some, Ok_some, bi_0, bi_n0, bi_01]
    exact ⟨Fr.rf, hg⟩
  · have key := lpM (Q := fun _ d' => Fr 144 146 d d' ∧ ∀ k, 0 ≤ k → k < n → d'.m 145 (zix k) = (fo m (g, r) (fun _ t => ptS n t)).1 k) (fun k t (y : zV × zV × zV) => m_parts_80 t n g2 y.1 (m - k) y.2.1 y.2.2) (fun k t _ => Fr 144 146 d t ∧ (∀ i, 0 ≤ i → i < n → t.m 145 (zix i) = (fo k (g, r) (fun _ t => ptS n t)).1 i) ∧ (∀ i, 0 ≤ i → i < n → t.m 144 (zix i) = (fo k (g, r) (fun _ t => ptS n t)).2 i)) 0 m (by omega) d (g3, g5, g6) ⟨Fr.rf, hg, hr⟩ (fun t y hi => ?_) (fun k t y hk hk2 hi hnext => ?_)
    · (try dsimp only at key)
      rw [show m - 0 = m by omega] at key
      exact key
    · (try dsimp only)
      rw [m_parts_80_e]
      simp (disch := omega) only [↓reduceIte, zinT, wr_id, wrl_id, ltT, ltF, leT, leF, eqT, eqF, ne_eq, not_true_eq_false, not_false_eq_true, Option.bind_some, Ok_some, bi_0, bi_n0, bi_01]
      exact ⟨hi.1, hi.2.1⟩
    · obtain ⟨g3, g5, g6⟩ := y
      (try dsimp only at hi ⊢)
      have hb' := hb k hk
      have ha := amx_le (n := n) (r := (fo k (g, r) (fun _ t => ptS n t)).2) h0
      rw [m_parts_80_e]
      simp (disch := omega) only [↓reduceIte, zinT, wr_id, wrl_id, ltT, ltF, leT, leF, eqT, eqF, ne_eq, not_true_eq_false, not_false_eq_true, Option.bind_some, Ok_some, bi_0, bi_n0, bi_01]
      refine n_parts86 h0 h40 hi.2.2 (fun i a b => ⟨(hb' i a b).1, by have := (hb' i a b).2; omega⟩) _ _ (fun g3 g5 g6 => ?_)
      have e : m - k + -1 = m - (k + 1) := by omega
      rw [e]
      refine hnext _ (g3, g5, g6) ?_
      refine ⟨(hi.1.up (by omega) (by omega)).up (by omega) (by omega), fun i a b => ?_, fun i a b => ?_⟩
      · (try dsimp only)
        rw [up_ne (by omega), u_145, zfu_z (by omega), fo_s _ _ hk, hi.2.1 _ ha.1 ha.2, hi.2.1 i a b]
        show _ = if i = amx n (fo k (g, r) (fun _ t => ptS n t)).2 then (fo k (g, r) (fun _ t => ptS n t)).1 i + 1 else (fo k (g, r) (fun _ t => ptS n t)).1 i
        by_cases c : i = amx n (fo k (g, r) (fun _ t => ptS n t)).2
        · rw [if_pos c, if_pos c, ← c]
        · rw [if_neg c, if_neg c]
      · (try dsimp only)
        rw [u_144, zfu_z (by omega), up_ne (by omega), fo_s _ _ hk, hi.2.2 i a b]
        rfl
theorem n_parts43 {n A : Int} {w : Int → Int} (h0 : 1 ≤ n) (h40 : n ≤ 40) (hw : ∀ k, 0 ≤ k → k < n → d.m 143 (zix k) = w k) (hA : 1 ≤ A ∧ A ≤ 1600000000000) (hb : ∀ k, 0 ≤ k → k < n → 0 ≤ w k ∧ w k ≤ A ∧ w k ≤ 40000000000) (g3 g6 : zV) : Ok (m_parts_43 d n A g3 100000 0 g6) (fun _ d' => Fr 144 146 d d' ∧ ∀ k, 0 ≤ k → k < n → d'.m 145 (zix k) = (ptF n A w (ptL n A w)).1 k) := by
  have hb2 : ∀ k, 0 ≤ k → k < n → 0 ≤ w k ∧ w k ≤ A := fun k a b => ⟨(hb k a b).1, (hb k a b).2.1⟩
  have hL := ptL_le (by omega) h40 hA.1 hb2
  refine lpM (fun k t (y : Int × zV) => m_parts_43 t n A y.2 y.1 k g6) (fun k t y => Fr 144 146 d t ∧ (∀ i, 0 ≤ i → i < k → t.m 145 (zix i) = 100000 * w i / A) ∧ (∀ i, 0 ≤ i → i < k → t.m 144 (zix i) = 100000 * w i % A) ∧ y.1 = 100000 - sm k (fun k => 100000 * w k / A)) 0 n (by omega) d (100000, g3) ⟨Fr.rf, fun i _ _ => by omega, fun i _ _ => by omega, rfl⟩ (fun t y hi => ?_) (fun k t y hk hk2 hi hnext => ?_)
  · obtain ⟨l, g3⟩ := y
    (try dsimp only at hi ⊢)
    obtain ⟨i1, i2, i3, i4⟩ := hi
    have i4' : l = ptL n A w := i4
    subst i4'
    rw [m_parts_43_e]
    simp (disch := omega) only [↓reduceIte, zinT, wr_id, wrl_id, ltT, ltF, leT, leF, eqT, eqF, ne_eq, not_true_eq_false, not_false_eq_true, Option.bind_some, Ok_some, bi_0, bi_n0, bi_01]
    refine Ok_mono (n_parts80 (A := A) h0 h40 (by omega) (by omega) i2 i3 (by omega) (fun q hq k a b => ?_) _ _ _ _) (fun v d' h => ⟨i1.tr h.1, h.2⟩)
    have := ptF_le (m := q) hA.1 hb2 hq k a b
    exact ⟨this.2.2.1, this.2.2.2⟩
  · obtain ⟨l, g3⟩ := y
    (try dsimp only at hi ⊢)
    obtain ⟨i1, i2, i3, i4⟩ := hi
    have hw' : t.m 143 (zix k) = w k := by rw [i1 143 (by omega)]; exact hw k hk hk2
    have q1 := hb k hk hk2
    have q2 := g0_le hA.1 q1.1 q1.2.1
    rw [m_parts_43_e]
    simp (disch := omega) only [↓reduceIte, zinT, wr_id, wrl_id, ltT, ltF, leT, leF, eqT, eqF, ne_eq, not_true_eq_false, not_false_eq_true, Option.bind_some, Ok_some, bi_0, bi_n0, bi_01, up_ne, hw', zldiv0, zldiv1, u_145, u_144, zfu_z, if_true]
    refine hnext _ (_, _) ?_
    refine ⟨(i1.up (by omega) (by omega)).up (by omega) (by omega), ?_, ?_, ?_⟩
    · (try dsimp only)
      rw [up_ne (by omega), u_145]
      exact zfu_next (g := fun i => 100000 * w i / A) i2 hk (by omega)
    · (try dsimp only)
      rw [u_144, up_ne (by omega)]
      exact zfu_next (g := fun i => 100000 * w i % A) i3 hk (by omega)
    · (try dsimp only)
      rw [sm_s _ hk]
      omega
theorem n_parts0 {m : Int} (hm : m ≤ 100000) (hm2 : 0 ≤ m) (g2 g3 g5 g6 : zV) : Ok (m_parts_80 d 0 g2 g3 m g5 g6) (fun _ d' => Fr 144 146 d d') := by
  have key := lpM (Q := fun _ d' => Fr 144 146 d d') (fun k t (y : zV × zV × zV) => m_parts_80 t 0 g2 y.1 (m - k) y.2.1 y.2.2) (fun k t _ => Fr 144 146 d t) 0 m (by omega) d (g3, g5, g6) Fr.rf (fun t y hi => ?_) (fun k t y hk hk2 hi hnext => ?_)
  · (try dsimp only at key)
    rw [show m - 0 = m by omega] at key
    exact key
  · (try dsimp only)
    rw [m_parts_80_e]
    simp (disch := omega) only [↓reduceIte, zinT, wr_id, wrl_id, ltT, ltF, leT, leF, eqT, eqF, ne_eq, not_true_eq_false, not_false_eq_true, Option.bind_some, Ok_some, bi_0, bi_n0, bi_01]
    exact hi
  · obtain ⟨g3, g5, g6⟩ := y
    (try dsimp only at hi ⊢)
    rw [m_parts_80_e]
    simp (disch := omega) only [↓reduceIte, zinT, wr_id, wrl_id, ltT, ltF, leT, leF, eqT, eqF, ne_eq, not_true_eq_false, not_false_eq_true, Option.bind_some, Ok_some, bi_0, bi_n0, bi_01]
    rw [m_parts_86_e]
    simp (disch := omega) only [↓reduceIte, zinT, wr_id, wrl_id, ltT, ltF, leT, leF, eqT, eqF, ne_eq, not_true_eq_false, not_false_eq_true, Option.bind_some, Ok_some, bi_0, bi_n0, bi_01]
    have e : m - k + -1 = m - (k + 1) := by omega
    rw [e]
    refine hnext _ (_, _, _) ?_
    exact ((hi.up (by omega) (by omega)).up (by omega) (by omega))
theorem n_parts {n : Int} {w : Int → Int} (h0 : 0 ≤ n) (h40 : n ≤ 40) (hw : ∀ k, 0 ≤ k → k < n → d.m 143 (zix k) = w k) (hb : wOK n w) : Ok (m_parts d n) (fun _ d' => Fr 143 146 d d' ∧ ∀ k, 0 ≤ k → k < n → d'.m 145 (zix k) = pt n w k) := by
  have hs := sm_le (g := w) (n := n) (B := 40000000000) h0 hb
  have key := lpS (fun k t => m_parts_4 d n t (3, 0) k (3, 0) (3, 0)) w n h0 (fun k t hk hk2 _ => by
    (try dsimp only)
    rw [m_parts_4_e]
    simp (disch := omega) only [↓reduceIte, zinT, wr_id, wrl_id, ltT, ltF, leT, leF, eqT, eqF, ne_eq, not_true_eq_false, not_false_eq_true, Option.bind_some, Ok_some, bi_0, bi_n0, bi_01, hw])
  (try dsimp only at key)
  rw [m_parts_e, key, m_parts_4_e]
  simp (disch := omega) only [↓reduceIte, zinT, wr_id, wrl_id, ltT, ltF, leT, leF, eqT, eqF, ne_eq, not_true_eq_false, not_false_eq_true, Option.bind_some, Ok_some, bi_0, bi_n0, bi_01]
  by_cases hz : n = 0
  · subst hz
    have e : sm 0 w = 0 := rfl
    rw [e, m_parts_18_e]
    simp (disch := omega) only [↓reduceIte, zinT, wr_id, wrl_id, ltT, ltF, leT, leF, eqT, eqF, ne_eq, not_true_eq_false, not_false_eq_true, Option.bind_some, Ok_some, bi_0, bi_n0, bi_01]
    rw [m_parts_43_e]
    simp (disch := omega) only [↓reduceIte, zinT, wr_id, wrl_id, ltT, ltF, leT, leF, eqT, eqF, ne_eq, not_true_eq_false, not_false_eq_true, Option.bind_some, Ok_some, bi_0, bi_n0, bi_01]
    exact Ok_mono (n_parts0 (by omega) (by omega) _ _ _ _) (fun v d' h => ⟨h.mo (by omega) (by omega), fun k a b => by omega⟩)
  · obtain ⟨hA, hA2, hW⟩ := pt_W (n := n) (by omega) hb
    by_cases e : sm n w = 0
    · have eA : ptA n w = n := if_pos e
      have eW : ptW n w = fun _ => 1 := if_pos e
      rw [e]
      refine lpM (fun k t (y : zV) => m_parts_18 t n 0 y k (3, 0) (3, 0)) (fun k t _ => Fr 143 146 d t ∧ ∀ i, 0 ≤ i → i < k → t.m 143 (zix i) = 1) 0 n h0 d _ ⟨Fr.rf, fun i _ _ => by omega⟩ (fun t g3 hi => ?_) (fun k t g3 hk hk2 hi hnext => ?_)
      · (try dsimp only at hi ⊢)
        rw [m_parts_18_e]
        simp (disch := omega) only [↓reduceIte, zinT, wr_id, wrl_id, ltT, ltF, leT, leF, eqT, eqF, ne_eq, not_true_eq_false, not_false_eq_true, Option.bind_some, Ok_some, bi_0, bi_n0, bi_01]
        refine Ok_mono (n_parts43 (w := fun _ => 1) (by omega) h40 hi.2 (by omega) (fun k a b => by (try dsimp only); omega) _ _) (fun v d'' h2 => ⟨hi.1.tr (h2.1.mo (by omega) (by omega)), fun k a b => ?_⟩)
        unfold pt
        rw [eA, eW]
        exact h2.2 k a b
      · (try dsimp only at hi ⊢)
        rw [m_parts_18_e]
        simp (disch := omega) only [↓reduceIte, zinT, wr_id, wrl_id, ltT, ltF, leT, leF, eqT, eqF, ne_eq, not_true_eq_false, not_false_eq_true, Option.bind_some, Ok_some, bi_0, bi_n0, bi_01]
        refine hnext _ _ ?_
        refine ⟨hi.1.up (by omega) (by omega), ?_⟩
        (try dsimp only)
        rw [u_143]
        exact zfu_next (g := fun _ => 1) hi.2 hk (by omega)
    · have eA : ptA n w = sm n w := if_neg e
      have eW : ptW n w = w := if_neg e
      rw [eA] at hA hW
      rw [eW] at hW
      rw [m_parts_18_e]
      simp (disch := omega) only [↓reduceIte, zinT, wr_id, wrl_id, ltT, ltF, leT, leF, eqT, eqF, ne_eq, not_true_eq_false, not_false_eq_true, Option.bind_some, Ok_some, bi_0, bi_n0, bi_01]
      refine Ok_mono (n_parts43 (w := w) (by omega) h40 hw (by omega) hW _ _) (fun v d'' h2 => ⟨h2.1.mo (by omega) (by omega), fun k a b => ?_⟩)
      unfold pt
      rw [eA, eW]
      exact h2.2 k a b
end
