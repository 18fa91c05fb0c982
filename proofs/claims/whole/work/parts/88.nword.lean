/-! TEXTS: the model reads words; the number of the word at hand. -/
theorem kof_inj {n m : Int} {g h : Int → Int} (a : gOK n g) (b : gOK m h) (e : kof n g = kof m h) : n = m ∧ ∀ k, 0 ≤ k → k < n → g k = h k := by
  have c : ∀ k, 0 ≤ k → k < 7 → cg n g k = cg m h k := fun k k0 k1 => by
    have x := letter_at a k0 k1
    have y := letter_at b k0 k1
    rw [e, y] at x
    exact x.symm
  have an := a.1
  have bn := b.1
  have nm : n = m := by
    by_cases l : n < m
    · have q := c n an.1 (by omega)
      unfold cg at q
      rw [if_neg (by omega), if_pos l] at q
      have := b.2 n an.1 l
      omega
    · by_cases l2 : m < n
      · have q := c m bn.1 (by omega)
        unfold cg at q
        rw [if_pos l2, if_neg (by omega)] at q
        have := a.2 m bn.1 l2
        omega
      · omega
  refine ⟨nm, fun k k0 k1 => ?_⟩
  have q := c k k0 (by omega)
  unfold cg at q
  rw [if_pos k1, if_pos (by omega)] at q
  omega
theorem kof_co {n : Int} {g h : Int → Int} (n0 : 0 ≤ n) (e : ∀ k, 0 ≤ k → k < n → g k = h k) : kof n g = kof n h := sm_congr n0 (fun k k0 k1 => by (try dsimp only); rw [e k k0 k1])
/-- the words of a side are words -/
def VW (F : Nat → Int) (s : Int) : Prop := (0 ≤ wds F s ∧ wds F s ≤ 40) ∧ ∀ w, 0 ≤ w → w < wds F s → 1 ≤ ltn F s w ∧ gOK (ltn F s w) (fun k => ltr F s w k)
theorem WF.vw {F : Nat → Int} (h : WF F) {s : Int} (h0 : 0 ≤ s) (h1 : s < 2) : VW F s := ⟨h.wds_ h0 h1, fun w w0 w1 => by
  have l := h.ltn_ h0 h1 w0 w1
  exact ⟨l.1, by omega, fun k k0 k1 => h.ltr_ h0 h1 w0 w1 k0 k1⟩⟩
section
variable {P : zP} {d t : zD P}
/-- where the signs come from -/
def src (t : zD P) (H : Int → Int) (n : Int) : Prop := (t.m 132 8 = 0 ∧ ∀ k, 0 ≤ k → k < n → zbin 3 (t.m 134 (zix k)) 255 = H k) ∨ (t.m 132 8 = 1 ∧ n ≤ 200 ∧ ∀ k, 0 ≤ k → k < n → t.m 133 (zix (4345 + k)) = H k)
def mR (t : zD P) (H : Int → Int) (n q : Int) : Prop := (t.m 132 4 = q ∧ t.m 132 5 = n) ∧ src t H n ∧ sgn H n ∧ 0 ≤ q ∧ q ≤ n
/-- reading words touches but the place, the fault and the hand -/
def mX (t s : zD P) : Prop := (∀ r, r ≠ 132 → r ≠ 135 → s.m r = t.m r) ∧ ∀ k, k ≠ 4 → k ≠ 6 → s.m 132 k = t.m 132 k
theorem mX.rf : mX t t := ⟨fun _ _ _ => rfl, fun _ _ _ => rfl⟩
theorem mX.tr {a b c : zD P} (h : mX a b) (h2 : mX b c) : mX a c := ⟨fun r r1 r2 => (h2.1 r r1 r2).trans (h.1 r r1 r2), fun k k1 k2 => (h2.2 k k1 k2).trans (h.2 k k1 k2)⟩
theorem mX.up4 {s : zD P} {x : Int} (h : mX t s) : mX t (s.up 132 4 x) := ⟨fun r r1 r2 => by rw [up_ne r1]; exact h.1 r r1 r2, fun k k1 k2 => by rw [u_132_4, zfu_n, if_neg k1]; exact h.2 k k1 k2⟩
theorem mX.up6 {s : zD P} {x : Int} (h : mX t s) : mX t (s.up 132 6 x) := ⟨fun r r1 r2 => by rw [up_ne r1]; exact h.1 r r1 r2, fun k k1 k2 => by rw [u_132_6, zfu_n, if_neg k2]; exact h.2 k k1 k2⟩
theorem mX.upH {s : zD P} {a : Nat} {x : Int} (h : mX t s) : mX t (s.up 135 a x) := ⟨fun r r1 r2 => by rw [up_ne r2]; exact h.1 r r1 r2, fun k k1 k2 => by rw [up_ne (by decide)]; exact h.2 k k1 k2⟩
theorem src.fx {s : zD P} {H : Int → Int} {n : Int} (h : src t H n) (f : mX t s) : src s H n := by
  unfold src at h ⊢
  rw [f.2 8 (by decide) (by decide), f.1 134 (by decide) (by decide), f.1 133 (by decide) (by decide)]
  exact h
theorem mR.up4 {s : zD P} {H : Int → Int} {n q q' : Int} (h : mR s H n q) (q0 : 0 ≤ q') (q1 : q' ≤ n) : mR (s.up 132 4 q') H n q' := by
  refine ⟨⟨?_, ?_⟩, h.2.1.fx mX.rf.up4, h.2.2.1, q0, q1⟩
  · rw [u_132_4, zfu_n, if_pos rfl]
  · rw [u_132_4, zfu_n, if_neg (by decide)]; exact h.1.2
theorem mR.up6 {s : zD P} {H : Int → Int} {n q x : Int} (h : mR s H n q) : mR (s.up 132 6 x) H n q ∧ (s.up 132 6 x).m 132 6 = x := by
  refine ⟨⟨⟨?_, ?_⟩, h.2.1.fx mX.rf.up6, h.2.2⟩, ?_⟩
  · rw [u_132_6, zfu_n, if_neg (by decide)]; exact h.1.1
  · rw [u_132_6, zfu_n, if_neg (by decide)]; exact h.1.2
  · rw [u_132_6, zfu_n, if_pos rfl]
theorem mR.upH {s : zD P} {H : Int → Int} {n q x : Int} {a : Nat} (h : mR s H n q) : mR (s.up 135 a x) H n q := by
  refine ⟨?_, h.2.1.fx mX.rf.upH, h.2.2⟩
  rw [up_ne (by decide)]
  exact h.1
theorem n_here {H : Int → Int} {n q : Int} (h : mR t H n q) : m_here t = some (H q, t) := by
  obtain ⟨⟨a1, a2⟩, b, c, e⟩ := h
  have n240 := c.2.2
  rw [m_here_e]
  by_cases c1 : q < n
  · rcases b with ⟨b1, b2⟩ | ⟨b1, b2, b3⟩
    · simp (disch := omega) only [↓reduceIte, zinT, wr_id, wrl_id, ltT, ltF, leT, leF, eqT, eqF, ne_eq, not_true_eq_false, not_false_eq_true, Option.bind_some, Ok_some, bi_0, bi_n0, bi_01, a1, a2, b1, b2]
    · simp (disch := omega) only [↓reduceIte, zinT, wr_id, wrl_id, ltT, ltF, leT, leF, eqT, eqF, ne_eq, not_true_eq_false, not_false_eq_true, Option.bind_some, Ok_some, bi_0, bi_n0, bi_01, a1, a2, b1, b3]
  · simp (disch := omega) only [↓reduceIte, zinT, wr_id, wrl_id, ltT, ltF, leT, leF, eqT, eqF, ne_eq, not_true_eq_false, not_false_eq_true, Option.bind_some, Ok_some, bi_0, bi_n0, bi_01, a1, a2, c.2.1 q (by omega)]
theorem n_isL {x : Int} (h : -1 ≤ x ∧ x ≤ 255) : m_in t x 97 122 = some (bi (isL x), t) := n_in (by unfold I32; omega)
theorem n_wrong {a b : Int} : m_wrongAt t a b = some (0, t.up 132 6 (-1000 * a - b)) := by rw [m_wrongAt_e]
theorem n_sign {H : Int → Int} {n q x : Int} (h : mR t H n q) (x0 : 0 ≤ x ∧ x ≤ 255) : m_takesSign t x = if H q = x then some (1, t.up 132 4 (q + 1)) else some (0, t.up 132 6 (-1000 * 1 - q)) := by
  have l := H_le h.2.2.1 h.2.2.2.1
  rw [m_takesSign_e, n_here h]
  by_cases c : H q = x
  · rw [if_pos c]
    simp (disch := omega) only [↓reduceIte, zinT, wr_id, wrl_id, ltT, ltF, leT, leF, eqT, eqF, ne_eq, not_true_eq_false, not_false_eq_true, Option.bind_some, Ok_some, bi_0, bi_n0, bi_01, c, h.1.1]
  · rw [if_neg c]
    simp (disch := omega) only [↓reduceIte, zinT, wr_id, wrl_id, ltT, ltF, leT, leF, eqT, eqF, ne_eq, not_true_eq_false, not_false_eq_true, Option.bind_some, Ok_some, bi_0, bi_n0, bi_01, n_wrong, true_or, h.1.1]
/-- the word at hand -/
def hnd (t : zD P) (hn : Int) (hl : Int → Int) : Prop := t.m 135 (zix 0) = hn ∧ ∀ k, 0 ≤ k → k < hn → t.m 135 (zix (1 + k)) = hl k
def nwQ (t : zD P) (H : Int → Int) (n q v : Int) (s : zD P) : Prop := mX t s ∧ (wln H q = -1 → v = 0 ∧ mR s H n (q + 7) ∧ s.m 132 6 = -1000 * 2 - (q + 7)) ∧ (wln H q = 0 → v = 0 ∧ mR s H n q ∧ s.m 132 6 = -1000 * 1 - q) ∧ (1 ≤ wln H q → v = 1 ∧ mR s H n (q + wln H q) ∧ hnd s (wln H q) (fun k => H (q + k)))
theorem n_word {H : Int → Int} {n q : Int} (h : mR t H n q) : Ok (m_readsWord t) (nwQ t H n q) := by
  have sg := h.2.2.1
  have qq := h.2.2.2
  have wl := wln_le (H := H) (q := q)
  have w := sg.wl qq.1 qq.2
  have n240 := sg.2.2
  have W0 : 0 ≤ (if wln H q = -1 then 7 else wln H q) ∧ (if wln H q = -1 then 7 else wln H q) ≤ 7 := by split <;> omega
  rw [m_readsWord_e]
  refine lpD (fun k s => m_readsWord_2 s k) (fun k s => mX t s ∧ mR s H n (q + k) ∧ ∀ j, 0 ≤ j → j < k → s.m 135 (zix (1 + j)) = H (q + j)) 0 (if wln H q = -1 then 7 else wln H q) W0.1 t ⟨mX.rf, by rw [Int.add_zero]; exact h, fun j j0 j1 => by omega⟩ (fun s hi => ?_) (fun k s k0 k1 hi hnext => ?_)
  · obtain ⟨hf, hr, hh⟩ := hi
    have hl := H_le sg hr.2.2.2.1
    (try dsimp only)
    rw [m_readsWord_2_e, n_here hr]
    by_cases c : wln H q = -1
    · rw [if_pos c] at hr hl ⊢
      have L := wln_L (H := H) (q := q) (k := 7) (by omega) (by omega) (Or.inr c)
      have il : isL (H (q + 7)) = true := decide_eq_true L
      simp (disch := omega) only [↓reduceIte, zinT, wr_id, wrl_id, ltT, ltF, leT, leF, eqT, eqF, ne_eq, not_true_eq_false, not_false_eq_true, Option.bind_some, Ok_some, bi_0, bi_n0, bi_01, n_isL hl, il, reduceCtorEq]
      rw [n_wrong, Option.bind_some]
      (try dsimp only)
      rw [if_pos (Or.inl rfl), hr.1.1]
      refine Ok_ret ?_
      unfold nwQ
      exact ⟨hf.up6, fun _ => ⟨rfl, hr.up6.1, hr.up6.2⟩, fun hh => by first | exact hh.elim | omega, fun hh => by first | exact hh.elim | omega⟩
    · rw [if_neg c] at hr hl hh ⊢
      have L := wln_E (H := H) (q := q) c
      by_cases z : wln H q = 0
      · rw [z] at hr hl hh L ⊢
        have il : isL (H (q + 0)) = false := decide_eq_false L
        simp (disch := omega) only [↓reduceIte, zinT, wr_id, wrl_id, ltT, ltF, leT, leF, eqT, eqF, ne_eq, not_true_eq_false, not_false_eq_true, Option.bind_some, Ok_some, bi_0, bi_n0, bi_01, n_isL hl, il]
        rw [n_wrong, Option.bind_some]
        (try dsimp only)
        have e4 : ((s.up 135 (zix 0) 0).m 132 4) = q := by rw [up_ne (by decide), hr.1.1]; omega
        have r0 : mR s H n q := by have := hr; rw [Int.add_zero] at this; exact this
        rw [e4, if_pos (show wr 0 = 0 from rfl)]
        refine Ok_ret ?_
        unfold nwQ
        exact ⟨hf.upH.up6, fun hh => by first | exact hh.elim | omega, fun _ => ⟨rfl, r0.upH.up6.1, r0.upH.up6.2⟩, fun hh => by first | exact hh.elim | omega⟩
      · have il : isL (H (q + wln H q)) = false := decide_eq_false L
        simp (disch := omega) only [↓reduceIte, zinT, wr_id, wrl_id, ltT, ltF, leT, leF, eqT, eqF, ne_eq, not_true_eq_false, not_false_eq_true, Option.bind_some, Ok_some, bi_0, bi_n0, bi_01, n_isL hl, il]
        unfold nwQ
        refine ⟨hf.upH, fun hh => by first | exact hh.elim | omega, fun hh => by first | exact hh.elim | omega, fun _ => ⟨by trivial, hr.upH, ?_, fun k k0 k1 => ?_⟩⟩
        · rw [u_135, zfu_z (by omega), if_pos rfl]
        · rw [u_135, zfu_z (by omega), if_neg (by omega)]
          exact hh k k0 k1
  · obtain ⟨hf, hr, hh⟩ := hi
    have k7 : k < 7 := by omega
    have L := wln_L (H := H) (q := q) (k := k) k0 (by omega) (by
      by_cases c : wln H q = -1
      · exact Or.inr c
      · rw [if_neg c] at k1; exact Or.inl k1)
    have lt := sg.lt (k := q + k) (by omega)
    (try dsimp only)
    rw [m_readsWord_2_e, n_here hr]
    have il : isL (H (q + k)) = true := decide_eq_true L
    have hl := H_le sg hr.2.2.2.1
    simp (disch := omega) only [↓reduceIte, zinT, wr_id, wrl_id, ltT, ltF, leT, leF, eqT, eqF, ne_eq, not_true_eq_false, not_false_eq_true, Option.bind_some, Ok_some, bi_0, bi_n0, bi_01, n_isL hl, il, reduceCtorEq, n_here hr, up_ne (show (132 : Nat) ≠ 135 by decide), hr.1.1]
    refine hnext _ ?_
    refine ⟨hf.upH.up4, ?_, fun j j0 j1 => ?_⟩
    · rw [show q + (k + 1) = q + k + 1 by omega]
      exact hr.upH.up4 (by omega) (by omega)
    · rw [up_ne (by decide), u_135, zfu_z (by omega)]
      by_cases e : j = k
      · rw [if_pos (by omega), e]
      · rw [if_neg (by omega)]
        exact hh j j0 (by omega)
theorem n_isHand {F : Nat → Int} (hF : t.m 133 = F) {s w hn : Int} {hl : Int → Int} (s0 : 0 ≤ s) (s1 : s < 2) (hv : VW F s) (w0 : 0 ≤ w) (w1 : w < wds F s) (hh : hnd t hn hl) (n1 : 1 ≤ hn ∧ hn ≤ 7) (hb : ∀ k, 0 ≤ k → k < hn → 0 ≤ hl k ∧ hl k ≤ 255) : ∃ b : Bool, m_isHand t s w = some (bi b, t) ∧ (b = true ↔ (ltn F s w = hn ∧ ∀ k, 0 ≤ k → k < hn → ltr F s w k = hl k)) := by
  have vw := hv.2 w w0 w1
  have v40 := hv.1
  have ln := vw.2.1
  rw [m_isHand_e, n_lettersOf hF s0 s1 w0 (by omega)]
  by_cases c : ltn F s w = hn
  · have e : m_isHand_13 t s w 0 = some (bi (decide (first hn (fun k => decide (ltr F s w k ≠ hl k)) = -1)), t) := by
      refine lpF (fun k => m_isHand_13 t s w k) (fun v => some (bi (decide (v = -1)), t)) (fun k => decide (ltr F s w k ≠ hl k)) hn ?_ (fun k k0 k1 => ?_) (by omega)
      · (try dsimp only)
        rw [m_isHand_13_e, hh.1]
        simp (disch := omega) only [↓reduceIte, zinT, wr_id, wrl_id, ltT, ltF, leT, leF, eqT, eqF, ne_eq, not_true_eq_false, not_false_eq_true, Option.bind_some, Ok_some, bi_0, bi_n0, bi_01]
        rfl
      · have lk := vw.2.2 k k0 (by omega)
        have bk := hb k k0 k1
        (try dsimp only at lk ⊢)
        rw [m_isHand_13_e, hh.1]
        simp (disch := omega) only [↓reduceIte, zinT, wr_id, wrl_id, ltT, ltF, leT, leF, eqT, eqF, ne_eq, not_true_eq_false, not_false_eq_true, Option.bind_some, Ok_some, bi_0, bi_n0, bi_01, n_letterOf hF s0 s1 w0 (k := k), hh.2 k k0 k1]
        by_cases e : ltr F s w k = hl k
        · rw [if_pos e, decide_eq_false (fun z => z e)]
          rfl
        · rw [if_neg e, if_pos (show decide (ltr F s w k ≠ hl k) = true from decide_eq_true e)]
          rfl
    refine ⟨decide (first hn (fun k => decide (ltr F s w k ≠ hl k)) = -1), ?_, ?_⟩
    · simp (disch := omega) only [↓reduceIte, zinT, wr_id, wrl_id, ltT, ltF, leT, leF, eqT, eqF, ne_eq, not_true_eq_false, not_false_eq_true, Option.bind_some, Ok_some, bi_0, bi_n0, bi_01, hh.1, c]
      exact e
    · rw [decide_eq_true_iff]
      constructor
      · intro z
        refine ⟨c, fun k k0 k1 => ?_⟩
        have := first_before k0 k1 (Or.inr z)
        exact Classical.byContradiction (fun q => absurd this (by rw [decide_eq_true q]; decide))
      · rintro ⟨-, z⟩
        rcases first_range (p := fun k => decide (ltr F s w k ≠ hl k)) (n := hn) (by omega) with q | q
        · exact q
        · have := of_decide_eq_true q.2.2
          exact absurd (z _ q.1 q.2.1) this
  · refine ⟨false, ?_, ?_⟩
    · simp (disch := omega) only [↓reduceIte, zinT, wr_id, wrl_id, ltT, ltF, leT, leF, eqT, eqF, ne_eq, not_true_eq_false, not_false_eq_true, Option.bind_some, Ok_some, bi_0, bi_n0, bi_01, hh.1]
      rfl
    · constructor
      · intro z; exact absurd z (by decide)
      · intro z; exact absurd z.1 c
theorem n_hand {F : Nat → Int} (hF : t.m 133 = F) {s w hn : Int} {hl : Int → Int} (s0 : 0 ≤ s) (s1 : s < 2) (hv : VW F s) (w0 : 0 ≤ w) (w1 : w < wds F s) (hh : hnd t hn hl) (n1 : 1 ≤ hn) (ok : gOK hn hl) : m_isHand t s w = some (bi (decide (key F s w = kof hn hl)), t) := by
  obtain ⟨b, e, hb⟩ := n_isHand hF s0 s1 hv w0 w1 hh ⟨n1, ok.1.2⟩ (fun k k0 k1 => by have := ok.2 k k0 k1; omega)
  have vw := hv.2 w w0 w1
  rw [e]
  have : b = decide (key F s w = kof hn hl) := by
    by_cases c : key F s w = kof hn hl
    · rw [decide_eq_true c]
      exact hb.mpr (kof_inj vw.2 ok c |> fun x => ⟨x.1, fun k k0 k1 => x.2 k k0 (by omega)⟩)
    · rw [decide_eq_false c]
      refine Bool.eq_false_iff.mpr (fun hbt => c ?_)
      have x := hb.mp hbt
      unfold key
      rw [x.1]
      exact kof_co (by omega) (fun k k0 k1 => x.2 k k0 k1)
  rw [this]
theorem n_numHand {F : Nat → Int} (hF : t.m 133 = F) {s hn : Int} {hl : Int → Int} (s0 : 0 ≤ s) (s1 : s < 2) (hv : VW F s) (hh : hnd t hn hl) (n1 : 1 ≤ hn) (ok : gOK hn hl) : m_numberOfHand t s = some (first (wds F s) (fun w => decide (key F s w = kof hn hl)), t) := by
  have v40 := hv.1
  rw [m_numberOfHand_e]
  refine lpF (fun k => m_numberOfHand_2 t s k) (fun v => some (v, t)) (fun w => decide (key F s w = kof hn hl)) (wds F s) ?_ (fun k k0 k1 => ?_) v40.1
  · (try dsimp only)
    rw [m_numberOfHand_2_e, n_words hF s0 s1]
    simp (disch := omega) only [↓reduceIte, zinT, wr_id, wrl_id, ltT, ltF, leT, leF, eqT, eqF, ne_eq, not_true_eq_false, not_false_eq_true, Option.bind_some, Ok_some, bi_0, bi_n0, bi_01]
  · (try dsimp only)
    rw [m_numberOfHand_2_e, n_words hF s0 s1]
    simp (disch := omega) only [↓reduceIte, zinT, wr_id, wrl_id, ltT, ltF, leT, leF, eqT, eqF, ne_eq, not_true_eq_false, not_false_eq_true, Option.bind_some, Ok_some, bi_0, bi_n0, bi_01, n_hand hF s0 s1 hv k0 k1 hh n1 ok]
    by_cases c : key F s k = kof hn hl
    · rw [decide_eq_true c]
      simp (disch := omega) only [↓reduceIte, zinT, wr_id, wrl_id, ltT, ltF, leT, leF, eqT, eqF, ne_eq, not_true_eq_false, not_false_eq_true, Option.bind_some, Ok_some, bi_0, bi_n0, bi_01, reduceCtorEq]
    · rw [decide_eq_false c]
      simp (disch := omega) only [↓reduceIte, zinT, wr_id, wrl_id, ltT, ltF, leT, leF, eqT, eqF, ne_eq, not_true_eq_false, not_false_eq_true, Option.bind_some, Ok_some, bi_0, bi_n0, bi_01, reduceCtorEq]
end
