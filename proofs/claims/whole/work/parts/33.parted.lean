/-! ONE PARTED by weights: what both tell. -/
theorem fo_neg {α : Type} {n : Int} {s : α} {f : Int → α → α} (h : n ≤ 0) : fo n s f = s := by
  unfold fo
  rw [show n.toNat = 0 by omega]
  rfl
def ptW (n : Int) (w : Int → Int) : Int → Int := if sm n w = 0 then fun _ => 1 else w
def ptA (n : Int) (w : Int → Int) : Int := if sm n w = 0 then n else sm n w
def amx (n : Int) (r : Int → Int) : Int := fo n 0 (fun k b => if r b < r k then k else b)
def ptS (n : Int) (t : (Int → Int) × (Int → Int)) : (Int → Int) × (Int → Int) := (fun k => if k = amx n t.2 then t.1 k + 1 else t.1 k, fun k => if k = amx n t.2 then -1 else t.2 k)
def ptF (n A : Int) (w : Int → Int) (m : Int) : (Int → Int) × (Int → Int) := fo m (fun k => 100000 * w k / A, fun k => 100000 * w k % A) (fun _ t => ptS n t)
def ptL (n A : Int) (w : Int → Int) : Int := 100000 - sm n (fun k => 100000 * w k / A)
def pt (n : Int) (w : Int → Int) : Int → Int := (ptF n (ptA n w) (ptW n w) (ptL n (ptA n w) (ptW n w))).1
def wOK (n : Int) (w : Int → Int) : Prop := ∀ k, 0 ≤ k → k < n → 0 ≤ w k ∧ w k ≤ 40000000000
theorem amx_le {n : Int} {r : Int → Int} (h : 1 ≤ n) : 0 ≤ amx n r ∧ amx n r < n := by
  have := fo_ind (s := (0 : Int)) (f := fun k b => if r b < r k then k else b) (n := n) (I := fun k b => 0 ≤ b ∧ (b < k ∨ b = 0)) (by omega) (by simp) (fun k t h0 h1 hi => by
    (try dsimp only)
    split <;> omega)
  unfold amx
  omega
theorem pt_W {n : Int} {w : Int → Int} (hn : 1 ≤ n) (hw : wOK n w) : 1 ≤ ptA n w ∧ ptA n w ≤ n * 40000000000 ∧ ∀ k, 0 ≤ k → k < n → 0 ≤ ptW n w k ∧ ptW n w k ≤ ptA n w ∧ ptW n w k ≤ 40000000000 := by
  have h1 := sm_term (g := w) (n := n) (by omega) (fun k a b => (hw k a b).1)
  have h2 := sm_le (g := w) (n := n) (B := 40000000000) (by omega) hw
  have h3 : n * 1 ≤ n * 40000000000 := Int.mul_le_mul_of_nonneg_left (by decide) (by omega)
  unfold ptA ptW
  by_cases e : sm n w = 0
  · rw [if_pos e, if_pos e]
    exact ⟨by omega, by omega, fun k a b => ⟨by decide, by (try dsimp only); omega, by decide⟩⟩
  · rw [if_neg e, if_neg e]
    exact ⟨by omega, by omega, fun k a b => ⟨(hw k a b).1, h1.2 k a b, (hw k a b).2⟩⟩
theorem g0_le {A x : Int} (hA : 1 ≤ A) (h0 : 0 ≤ x) (h1 : x ≤ A) : 0 ≤ 100000 * x / A ∧ 100000 * x / A ≤ 100000 ∧ 0 ≤ 100000 * x % A ∧ 100000 * x % A < A := by
  refine ⟨Int.ediv_nonneg (by omega) (by omega), ?_, Int.emod_nonneg _ (by omega), Int.emod_lt_of_pos _ (by omega)⟩
  have : 100000 * x / A ≤ 100000 * A / A := Int.ediv_le_ediv (by omega) (by omega)
  rw [Int.mul_ediv_cancel _ (by omega)] at this
  exact this
theorem ptF_le {n A : Int} {w : Int → Int} {m : Int} (hA : 1 ≤ A) (hw : ∀ k, 0 ≤ k → k < n → 0 ≤ w k ∧ w k ≤ A) (hm : 0 ≤ m) : ∀ k, 0 ≤ k → k < n → 0 ≤ (ptF n A w m).1 k ∧ (ptF n A w m).1 k ≤ 100000 + m ∧ -1 ≤ (ptF n A w m).2 k ∧ (ptF n A w m).2 k < A := by
  refine fo_ind (I := fun m (t : (Int → Int) × (Int → Int)) => ∀ k, 0 ≤ k → k < n → 0 ≤ t.1 k ∧ t.1 k ≤ 100000 + m ∧ -1 ≤ t.2 k ∧ t.2 k < A) hm (fun k h0 h1 => ?_) (fun m t h0 h1 hi k h2 h3 => ?_)
  · have := g0_le hA (hw k h0 h1).1 (hw k h0 h1).2
    (try dsimp only)
    omega
  · have := hi k h2 h3
    unfold ptS
    (try dsimp only)
    split <;> omega
theorem ptL_le {n A : Int} {w : Int → Int} (hn : 0 ≤ n) (hn2 : n ≤ 40) (hA : 1 ≤ A) (hw : ∀ k, 0 ≤ k → k < n → 0 ≤ w k ∧ w k ≤ A) : -4000000 ≤ ptL n A w ∧ ptL n A w ≤ 100000 := by
  have h := sm_le (g := fun k => 100000 * w k / A) (n := n) (B := 100000) hn (fun k h0 h1 => by
    have := g0_le hA (hw k h0 h1).1 (hw k h0 h1).2
    (try dsimp only)
    omega)
  unfold ptL
  omega
theorem pt_le {n : Int} {w : Int → Int} (hn : n ≤ 40) (hw : wOK n w) : ∀ k, 0 ≤ k → k < n → 0 ≤ pt n w k ∧ pt n w k ≤ 200000 := by
  intro k h0 h1
  obtain ⟨hA, -, hW⟩ := pt_W (by omega) hw
  have hW' : ∀ k, 0 ≤ k → k < n → 0 ≤ ptW n w k ∧ ptW n w k ≤ ptA n w := fun k a b => ⟨(hW k a b).1, (hW k a b).2.1⟩
  have hL := ptL_le (by omega) hn hA hW'
  unfold pt
  by_cases e : 0 ≤ ptL n (ptA n w) (ptW n w)
  · have := ptF_le hA hW' e k h0 h1
    omega
  · have e2 : ptF n (ptA n w) (ptW n w) (ptL n (ptA n w) (ptW n w)) = ptF n (ptA n w) (ptW n w) 0 := by
      unfold ptF
      rw [fo_neg (by omega), fo_0]
    rw [e2]
    have := ptF_le hA hW' (Int.le_refl 0) k h0 h1
    omega
section
variable {P : zP} {d : zD P}
/-! the class -/
theorem k_allWeights {n : Int} {w : Int → Int} (hn : d.m 109 3 = n) (h0 : 0 ≤ n) (h40 : n ≤ 40) (hw : ∀ k, 0 ≤ k → k < n → d.m 110 (zix k) = w k) : pa_allWeights d = some (sm n w, d) := by
  have key := lpS (fun k t => pa_allWeights_4 d t (3, 0) k) w n h0 (fun k t hk hk2 _ => by
    (try dsimp only)
    rw [pa_allWeights_4_e]
    simp (disch := omega) only [↓reduceIte, zinT, wr_id, wrl_id, ltT, ltF, leT, leF, eqT, eqF, ne_eq, not_true_eq_false, not_false_eq_true, Option.bind_some, Ok_some, bi_0, bi_n0, bi_01, hn, hw])
  (try dsimp only at key)
  rw [pa_allWeights_e, key, pa_allWeights_4_e]
  simp (disch := omega) only [↓reduceIte, zinT, wr_id, wrl_id, ltT, ltF, leT, leF, eqT, eqF, ne_eq, not_true_eq_false, not_false_eq_true, Option.bind_some, Ok_some, bi_0, bi_n0, bi_01, hn]
theorem k_fillJ {r n : Nat} {v : Int} (hr : zkd r = 21) (hn : zln P r = n) (hn2 : n ≤ 20000) : Ok (fl_fillJ d r v) (fun _ d' => Fr r (r + 1) d d' ∧ ∀ k, 0 ≤ k → k < (n : Int) → d'.m r (zix k) = v) := by
  rw [fl_fillJ_e hr hn]
  refine lpM (fun k t g => fl_fillJ_5 t r v g k n) (fun k t _ => Fr r (r + 1) d t ∧ ∀ i, 0 ≤ i → i < k → t.m r (zix i) = v) 0 n (by omega) d (3, 0) ⟨Fr.rf, fun i _ _ => by omega⟩ (fun t g hi => ?_) (fun k t g hk hk2 hi hnext => ?_)
  · (try dsimp only)
    rw [fl_fillJ_5_e hr hn]
    simp (disch := omega) only [↓reduceIte, zinT, wr_id, wrl_id, ltT, ltF, leT, leF, eqT, eqF, ne_eq, not_true_eq_false, not_false_eq_true, Option.bind_some, Ok_some, bi_0, bi_n0, bi_01]
    exact hi
  · (try dsimp only at hi ⊢)
    rw [fl_fillJ_5_e hr hn]
    simp (disch := omega) only [↓reduceIte, zinT, wr_id, wrl_id, ltT, ltF, leT, leF, eqT, eqF, ne_eq, not_true_eq_false, not_false_eq_true, Option.bind_some, Ok_some, bi_0, bi_n0, bi_01]
    refine hnext _ _ ?_
    refine ⟨hi.1.up (Nat.le_refl _) (Nat.lt_succ_self _), ?_⟩
    rw [up_ar (Or.inr (Or.inl hr))]
    exact zfu_next (g := fun _ => v) hi.2 hk (by omega)
theorem k_fill {r n : Nat} {v : Int} (hr : zkd r = 20) (hn : zln P r = n) (hn2 : n ≤ 20000) : Ok (fl_fill d r v) (fun _ d' => Fr r (r + 1) d d' ∧ ∀ k, 0 ≤ k → k < (n : Int) → d'.m r (zix k) = v) := by
  rw [fl_fill_e hr hn]
  refine lpD (fun k t => fl_fill_5 t r v k n) (fun k t => Fr r (r + 1) d t ∧ ∀ i, 0 ≤ i → i < k → t.m r (zix i) = v) 0 n (by omega) d ⟨Fr.rf, fun i _ _ => by omega⟩ (fun t hi => ?_) (fun k t hk hk2 hi hnext => ?_)
  · (try dsimp only)
    rw [fl_fill_5_e hr hn]
    simp (disch := omega) only [↓reduceIte, zinT, wr_id, wrl_id, ltT, ltF, leT, leF, eqT, eqF, ne_eq, not_true_eq_false, not_false_eq_true, Option.bind_some, Ok_some, bi_0, bi_n0, bi_01]
    exact hi
  · (try dsimp only at hi ⊢)
    rw [fl_fill_5_e hr hn]
    simp (disch := omega) only [↓reduceIte, zinT, wr_id, wrl_id, ltT, ltF, leT, leF, eqT, eqF, ne_eq, not_true_eq_false, not_false_eq_true, Option.bind_some, Ok_some, bi_0, bi_n0, bi_01]
    refine hnext _ ?_
    refine ⟨hi.1.up (Nat.le_refl _) (Nat.lt_succ_self _), ?_⟩
    rw [up_ar (Or.inl hr)]
    exact zfu_next (g := fun _ => v) hi.2 hk (by omega)
theorem k_dealOneMore {n : Int} {r : Int → Int} (hn : d.m 109 3 = n) (h0 : 1 ≤ n) (h40 : n ≤ 40) (hr : ∀ k, 0 ≤ k → k < n → d.m 111 (zix k) = r k) (hb : ∀ k, 0 ≤ k → k < n → -1 ≤ r k ∧ r k ≤ 9223372036854775807) : pa_dealOneMore d = some (0, (d.up 112 (zix (amx n r)) (d.m 112 (zix (amx n r)) + 1)).up 111 (zix (amx n r)) (-1)) := by
  have ha := amx_le (r := r) h0
  rw [pa_dealOneMore_e]
  refine Ok_eq (lpQ (fun k (t : Int) => pa_dealOneMore_4 d t k) (fun k t => t = fo k 0 (fun k b => if r b < r k then k else b) ∧ 0 ≤ t ∧ t < n) 1 n h0 0 ⟨?_, by omega, by omega⟩ (fun t hi => ?_) (fun k t hk hk2 hi hnext => ?_))
  · have e := fo_s (0 : Int) (fun k b => if r b < r k then k else b) (Int.le_refl 0)
    rw [show (1 : Int) = 0 + 1 from rfl, e, fo_0, if_neg (by omega)]
  · have e : t = amx n r := hi.1
    subst e
    (try dsimp only)
    rw [pa_dealOneMore_4_e]
    simp (disch := omega) only [↓reduceIte, zinT, wr_id, wrl_id, ltT, ltF, leT, leF, eqT, eqF, ne_eq, not_true_eq_false, not_false_eq_true, Option.bind_some, Ok_some, bi_0, bi_n0, bi_01, hn]
    exact ⟨trivial, trivial⟩
  · have b1 := hb k (by omega) hk2
    have b2 := hb t hi.2.1 hi.2.2
    (try dsimp only)
    rw [pa_dealOneMore_4_e]
    simp (disch := omega) only [↓reduceIte, zinT, wr_id, wrl_id, ltT, ltF, leT, leF, eqT, eqF, ne_eq, not_true_eq_false, not_false_eq_true, Option.bind_some, Ok_some, bi_0, bi_n0, bi_01, hn, hr]
    have e := fo_s (0 : Int) (fun k b => if r b < r k then k else b) (k := k) (by omega)
    by_cases c : r k ≤ r t
    · rw [if_pos c]
      refine hnext _ ⟨?_, hi.2⟩
      rw [e, ← hi.1, if_neg (by omega)]
    · rw [if_neg c]
      refine hnext _ ⟨?_, by omega, hk2⟩
      rw [e, ← hi.1, if_pos (by omega)]
theorem k_deal61 {n m : Int} {g r : Int → Int} {A : Int} (hn : d.m 109 3 = n) (h0 : 1 ≤ n) (h40 : n ≤ 40) (hm : m ≤ 100000) (hm2 : -4000000 ≤ m) (hg : ∀ k, 0 ≤ k → k < n → d.m 112 (zix k) = g k) (hr : ∀ k, 0 ≤ k → k < n → d.m 111 (zix k) = r k) (hA : A ≤ 9223372036854775807) (hb : ∀ q, 0 ≤ q → ∀ k, 0 ≤ k → k < n → -1 ≤ (fo q (g, r) (fun _ t => ptS n t)).2 k ∧ (fo q (g, r) (fun _ t => ptS n t)).2 k < A) (g1 g2 g5 g6 : zV) : Ok (pa_deal_61 d g1 g2 m 0 g5 g6) (fun _ d' => Fr 111 113 d d' ∧ ∀ k, 0 ≤ k → k < n → d'.m 112 (zix k) = (fo m (g, r) (fun _ t => ptS n t)).1 k) := by
  by_cases hneg : m < 0
  · rw [pa_deal_61_e, fo_neg (by omega)]
    simp (disch := omega) only [↓reduceIte, zinT, wr_id, wrl_id, ltT, ltF, leT, leF, eqT, eqF, ne_eq, not_true_eq_false, not_false_eq_true, Option.bind_some, Ok_some, bi_0, bi_n0, bi_01]
    exact ⟨Fr.rf, hg⟩
  · refine lpD (fun k t => pa_deal_61 t g1 g2 m k g5 g6) (fun k t => Fr 111 113 d t ∧ (∀ i, 0 ≤ i → i < n → t.m 112 (zix i) = (fo k (g, r) (fun _ t => ptS n t)).1 i) ∧ (∀ i, 0 ≤ i → i < n → t.m 111 (zix i) = (fo k (g, r) (fun _ t => ptS n t)).2 i)) 0 m (by omega) d ⟨Fr.rf, hg, hr⟩ (fun t hi => ?_) (fun k t hk hk2 hi hnext => ?_)
    · (try dsimp only)
      rw [pa_deal_61_e]
      simp (disch := omega) only [↓reduceIte, zinT, wr_id, wrl_id, ltT, ltF, leT, leF, eqT, eqF, ne_eq, not_true_eq_false, not_false_eq_true, Option.bind_some, Ok_some, bi_0, bi_n0, bi_01]
      exact ⟨hi.1, hi.2.1⟩
    · have hn' : t.m 109 3 = n := by rw [hi.1 109 (by omega)]; exact hn
      have hb' := hb k hk
      have ha := amx_le (n := n) (r := (fo k (g, r) (fun _ t => ptS n t)).2) h0
      have one := k_dealOneMore hn' h0 h40 hi.2.2 (fun i a b => ⟨(hb' i a b).1, by have := (hb' i a b).2; omega⟩)
      (try dsimp only)
      rw [pa_deal_61_e]
      simp (disch := omega) only [↓reduceIte, zinT, wr_id, wrl_id, ltT, ltF, leT, leF, eqT, eqF, ne_eq, not_true_eq_false, not_false_eq_true, Option.bind_some, Ok_some, bi_0, bi_n0, bi_01, one]
      refine hnext _ ?_
      refine ⟨(hi.1.up (by omega) (by omega)).up (by omega) (by omega), fun i a b => ?_, fun i a b => ?_⟩
      · rw [up_ne (by omega), u_112, zfu_z (by omega), fo_s _ _ hk, hi.2.1 _ ha.1 ha.2, hi.2.1 i a b]
        show _ = if i = amx n (fo k (g, r) (fun _ t => ptS n t)).2 then (fo k (g, r) (fun _ t => ptS n t)).1 i + 1 else (fo k (g, r) (fun _ t => ptS n t)).1 i
        by_cases c : i = amx n (fo k (g, r) (fun _ t => ptS n t)).2
        · rw [if_pos c, if_pos c, ← c]
        · rw [if_neg c, if_neg c]
      · rw [u_111, zfu_z (by omega), up_ne (by omega), fo_s _ _ hk, hi.2.2 i a b]
        rfl
theorem k_deal24 {n A : Int} {w : Int → Int} (hn : d.m 109 3 = n) (h0 : 1 ≤ n) (h40 : n ≤ 40) (hw : ∀ k, 0 ≤ k → k < n → d.m 110 (zix k) = w k) (hA : 1 ≤ A ∧ A ≤ 1600000000000) (hb : ∀ k, 0 ≤ k → k < n → 0 ≤ w k ∧ w k ≤ A ∧ w k ≤ 40000000000) (g2 g5 g6 : zV) : Ok (pa_deal_24 d A g2 100000 0 g5 g6) (fun _ d' => Fr 111 113 d d' ∧ ∀ k, 0 ≤ k → k < n → d'.m 112 (zix k) = (ptF n A w (ptL n A w)).1 k) := by
  have hb2 : ∀ k, 0 ≤ k → k < n → 0 ≤ w k ∧ w k ≤ A := fun k a b => ⟨(hb k a b).1, (hb k a b).2.1⟩
  have hL := ptL_le (by omega) h40 hA.1 hb2
  refine lpM (fun k t (y : Int × zV × zV × zV) => pa_deal_24 t A y.2.1 y.1 k y.2.2.1 y.2.2.2) (fun k t y => Fr 111 113 d t ∧ (∀ i, 0 ≤ i → i < k → t.m 112 (zix i) = 100000 * w i / A) ∧ (∀ i, 0 ≤ i → i < k → t.m 111 (zix i) = 100000 * w i % A) ∧ y.1 = 100000 - sm k (fun k => 100000 * w k / A)) 0 n (by omega) d (100000, g2, g5, g6) ⟨Fr.rf, fun i _ _ => by omega, fun i _ _ => by omega, rfl⟩ (fun t y hi => ?_) (fun k t y hk hk2 hi hnext => ?_)
  · obtain ⟨l, g2, g5, g6⟩ := y
    (try dsimp only at hi ⊢)
    obtain ⟨i1, i2, i3, i4⟩ := hi
    have hn' : t.m 109 3 = n := by rw [i1 109 (by omega)]; exact hn
    have i4' : l = ptL n A w := i4
    subst i4'
    rw [pa_deal_24_e]
    simp (disch := omega) only [↓reduceIte, zinT, wr_id, wrl_id, ltT, ltF, leT, leF, eqT, eqF, ne_eq, not_true_eq_false, not_false_eq_true, Option.bind_some, Ok_some, bi_0, bi_n0, bi_01, hn']
    refine Ok_mono (k_deal61 (A := A) hn' h0 h40 (by omega) (by omega) i2 i3 (by omega) (fun q hq k a b => ?_) _ _ _ _) (fun v d' h => ⟨i1.tr h.1, h.2⟩)
    have := ptF_le (m := q) hA.1 hb2 hq k a b
    exact ⟨this.2.2.1, this.2.2.2⟩
  · obtain ⟨l, g2, g5, g6⟩ := y
    (try dsimp only at hi ⊢)
    obtain ⟨i1, i2, i3, i4⟩ := hi
    have hn' : t.m 109 3 = n := by rw [i1 109 (by omega)]; exact hn
    have hw' : t.m 110 (zix k) = w k := by rw [i1 110 (by omega)]; exact hw k hk hk2
    have q1 := hb k hk hk2
    have q2 := g0_le hA.1 q1.1 q1.2.1
    rw [pa_deal_24_e]
    simp (disch := omega) only [↓reduceIte, zinT, wr_id, wrl_id, ltT, ltF, leT, leF, eqT, eqF, ne_eq, not_true_eq_false, not_false_eq_true, Option.bind_some, Ok_some, bi_0, bi_n0, bi_01, hn', hw', zldiv0, zldiv1, up_ne, u_112, u_111, zfu_z, if_true]
    refine hnext _ (_, _, _, _) ?_
    refine ⟨(i1.up (by omega) (by omega)).up (by omega) (by omega), ?_, ?_, ?_⟩
    · (try dsimp only)
      rw [up_ne (by omega), u_112]
      exact zfu_next (g := fun i => 100000 * w i / A) i2 hk (by omega)
    · (try dsimp only)
      rw [u_111, up_ne (by omega)]
      exact zfu_next (g := fun i => 100000 * w i % A) i3 hk (by omega)
    · (try dsimp only)
      rw [sm_s _ hk]
      omega
theorem k_deal {n : Int} {w : Int → Int} (hn : d.m 109 3 = n) (h0 : 0 ≤ n) (h40 : n ≤ 40) (hw : ∀ k, 0 ≤ k → k < n → d.m 110 (zix k) = w k) (hb : wOK n w) : Ok (pa_deal d) (fun _ d' => Fr 110 113 d d' ∧ ∀ k, 0 ≤ k → k < n → d'.m 112 (zix k) = pt n w k) := by
  have hs := sm_le (g := w) (n := n) (B := 40000000000) h0 hb
  rw [pa_deal_e]
  simp (disch := omega) only [↓reduceIte, zinT, wr_id, wrl_id, ltT, ltF, leT, leF, eqT, eqF, ne_eq, not_true_eq_false, not_false_eq_true, Option.bind_some, Ok_some, bi_0, bi_n0, bi_01, k_allWeights hn h0 h40 hw]
  by_cases hz : n = 0
  · subst hz
    have e : sm 0 w = 0 := rfl
    rw [if_neg (by omega)]
    refine Ok_bind (k_fillJ (r := 110) (n := 40) rfl rfl (by omega)) (fun v d' h => ?_)
    have hn' : d'.m 109 3 = 0 := by rw [h.1 109 (by omega)]; exact hn
    simp (disch := omega) only [↓reduceIte, zinT, wr_id, wrl_id, ltT, ltF, leT, leF, eqT, eqF, ne_eq, not_true_eq_false, not_false_eq_true, Option.bind_some, Ok_some, bi_0, bi_n0, bi_01, hn']
    exact ⟨h.1.mo (by omega) (by omega), fun k a b => by omega⟩
  · obtain ⟨hA, hA2, hW⟩ := pt_W (n := n) (by omega) hb
    by_cases e : sm n w = 0
    · rw [if_neg (by omega)]
      refine Ok_bind (k_fillJ (r := 110) (n := 40) rfl rfl (by omega)) (fun v d' h => ?_)
      have hn' : d'.m 109 3 = n := by rw [h.1 109 (by omega)]; exact hn
      have eA : ptA n w = n := if_pos e
      have eW : ptW n w = fun _ => 1 := if_pos e
      simp (disch := omega) only [↓reduceIte, zinT, wr_id, wrl_id, ltT, ltF, leT, leF, eqT, eqF, ne_eq, not_true_eq_false, not_false_eq_true, Option.bind_some, Ok_some, bi_0, bi_n0, bi_01, hn']
      refine Ok_mono (k_deal24 (w := fun _ => 1) hn' (by omega) h40 (fun k a b => h.2 k a (by omega)) (by omega) (fun k a b => by (try dsimp only); omega) _ _ _) (fun v d'' h2 => ⟨(h.1.mo (by omega) (by omega)).tr (h2.1.mo (by omega) (by omega)), fun k a b => ?_⟩)
      unfold pt
      rw [eA, eW]
      exact h2.2 k a b
    · rw [if_pos (by omega)]
      have eA : ptA n w = sm n w := if_neg e
      have eW : ptW n w = w := if_neg e
      rw [eA] at hA hW
      rw [eW] at hW
      skip
      refine Ok_mono (k_deal24 (w := w) hn (by omega) h40 hw (by omega) hW _ _ _) (fun v d'' h2 => ⟨h2.1.mo (by omega) (by omega), fun k a b => ?_⟩)
      unfold pt
      rw [eA, eW]
      exact h2.2 k a b
theorem k_weigh {n x : Int} (hn : d.m 109 3 = n) (h0 : 0 ≤ n) (h40 : n < 40) : pa_weigh d x = some (0, (d.up 110 (zix n) x).up 109 3 (n + 1)) := by
  rw [pa_weigh_e]
  simp (disch := omega) only [↓reduceIte, zinT, wr_id, wrl_id, ltT, ltF, leT, leF, eqT, eqF, ne_eq, not_true_eq_false, not_false_eq_true, Option.bind_some, Ok_some, bi_0, bi_n0, bi_01, hn, up_ne]
theorem k_got {n k : Int} (hn : d.m 109 3 = n) (h0 : 0 ≤ k) (h1 : k < n) (h40 : n ≤ 40) : pa_got d k = some (d.m 112 (zix k), d) := by
  rw [pa_got_e]
  simp (disch := omega) only [↓reduceIte, zinT, wr_id, wrl_id, ltT, ltF, leT, leF, eqT, eqF, ne_eq, not_true_eq_false, not_false_eq_true, Option.bind_some, Ok_some, bi_0, bi_n0, bi_01, hn]
end
