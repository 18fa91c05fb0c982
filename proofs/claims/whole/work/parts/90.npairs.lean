/-! TEXTS: the model reads pairs, without laying. -/
/-- one clause: fault, place -/
def prp (H : Int → Int) (k : Int) : Int × Int × Int := if (sen H 6 0 (sst H 0 k)).1 ≠ 0 then sen H 6 0 (sst H 0 k) else if H (sen H 6 0 (sst H 0 k)).2.1 ≠ 61 then (1, (sen H 6 0 (sst H 0 k)).2.1, k) else sen H 6 0 (sst H 1 k)
theorem prd_p {H : Int → Int} {n k : Int} {m : Nat} : prd H n (m + 1) k = if (prp H k).1 ≠ 0 then ((prp H k).1, (prp H k).2.1, k) else if (prp H k).2.1 = n then (0, n, k + 1) else if H (prp H k).2.1 ≠ 59 then (1, (prp H k).2.1, k) else prd H n m (k + 1) := by
  rw [prd]
  unfold prp
  by_cases c1 : (sen H 6 0 (sst H 0 k)).1 ≠ 0
  · rw [if_pos c1, if_pos c1, if_pos c1]
  · rw [if_neg c1, if_neg c1]
    by_cases c2 : H (sen H 6 0 (sst H 0 k)).2.1 ≠ 61
    · rw [if_pos c2, if_pos c2, if_pos (show (1 : Int) ≠ 0 by decide)]
    · rw [if_neg c2, if_neg c2]
section
variable {P : zP} {d t : zD P}
def mY (t s : zD P) : Prop := (∀ r, r ≠ 132 → r ≠ 135 → s.m r = t.m r) ∧ ∀ k, k ≠ 4 → k ≠ 5 → k ≠ 6 → k ≠ 7 → s.m 132 k = t.m 132 k
theorem mY.rf : mY t t := ⟨fun _ _ _ => rfl, fun _ _ _ _ _ => rfl⟩
theorem mY.tr {a b c : zD P} (h : mY a b) (h2 : mY b c) : mY a c := ⟨fun r r1 r2 => (h2.1 r r1 r2).trans (h.1 r r1 r2), fun k k1 k2 k3 k4 => (h2.2 k k1 k2 k3 k4).trans (h.2 k k1 k2 k3 k4)⟩
theorem mX.y {a b : zD P} (h : mX a b) : mY a b := ⟨h.1, fun k k1 _ k3 _ => h.2 k k1 k3⟩
theorem mY.up7 {s : zD P} {x : Int} (h : mY t s) : mY t (s.up 132 7 x) := ⟨fun r r1 r2 => by rw [up_ne r1]; exact h.1 r r1 r2, fun k k1 k2 k3 k4 => by rw [u_132_7, zfu_n, if_neg k4]; exact h.2 k k1 k2 k3 k4⟩
theorem mY.up5 {s : zD P} {x : Int} (h : mY t s) : mY t (s.up 132 5 x) := ⟨fun r r1 r2 => by rw [up_ne r1]; exact h.1 r r1 r2, fun k k1 k2 k3 k4 => by rw [u_132_5, zfu_n, if_neg k2]; exact h.2 k k1 k2 k3 k4⟩
theorem src.fy {s : zD P} {H : Int → Int} {n : Int} (h : src t H n) (f : mY t s) : src s H n := by
  unfold src at h ⊢
  rw [f.2 8 (by decide) (by decide) (by decide) (by decide), f.1 134 (by decide) (by decide), f.1 133 (by decide) (by decide)]
  exact h
theorem mR.up7 {s : zD P} {H : Int → Int} {n q x : Int} (h : mR s H n q) : mR (s.up 132 7 x) H n q := by
  refine ⟨⟨?_, ?_⟩, h.2.1.fy mY.rf.up7, h.2.2⟩
  · rw [u_132_7, zfu_n, if_neg (by decide)]; exact h.1.1
  · rw [u_132_7, zfu_n, if_neg (by decide)]; exact h.1.2
def npQ (t : zD P) (H : Int → Int) (n : Int) (o : Int × Int × Int) (v : Int) (s : zD P) : Prop := mY t s ∧ mR s H n o.2.1 ∧ (o.1 ≠ 0 → v = 0 ∧ s.m 132 6 = -1000 * o.1 - o.2.1) ∧ (o.1 = 0 → v = 1)
theorem n_pair0 {H : Int → Int} {n k : Int} (k0 : 0 ≤ k) (k12 : k < 12) (hr : mR t H n (sst H 0 k)) (h7 : t.m 132 7 = k) : Ok (m_readsPair t 0) (fun v s => npQ t H n (prp H k) v s ∧ s.m 132 7 = k + 1) := by
  have sg := hr.2.2.1
  have e7 : (t.up 132 7 (k + 1)).m 132 7 = k + 1 := by rw [u_132_7, zfu_n, if_pos rfl]
  have y7 : mY t (t.up 132 7 (k + 1)) := mY.rf.up7
  have hr7 : mR (t.up 132 7 (k + 1)) H n (sst H 0 k) := hr.up7
  have es : (sen H 6 0 (sst H 0 k)).2.1 + 1 = sst H 1 k := rfl
  have s0 := sen_0 sg 6 hr.2.2.2.1 hr.2.2.2.2
  rw [m_readsPair_e, h7, if_pos (by rw [wr_id (by omega), wr_id (by omega)]; omega)]
  generalize t.up 132 7 (k + 1) = u at e7 y7 hr7 ⊢
  rw [m_readsPair_18_e, if_neg (by rw [wr_id (by omega), wr_id (by omega)]; omega), if_pos (show wr 0 = 0 from rfl)]
  have zz : wr 0 = 0 := rfl
  have oz : ¬ wr 1 = 0 := by rw [wr_id (by omega)]; omega
  refine Ok_bind (n_sentence0 hr7) (fun v s f => ?_)
  have ff := f.2.2.2.choose_spec
  have s7 : s.m 132 7 = k + 1 := by rw [ff.2 7 (by decide) (by decide)]; exact e7
  (try dsimp only)
  unfold prp
  by_cases c1 : (sen H 6 0 (sst H 0 k)).1 ≠ 0
  · have f2 := f.2.1 c1
    rw [if_pos c1, f2.1, if_pos zz, if_pos zz]
    exact Ok_ret ⟨⟨y7.tr ff.y, f.1, fun _ => ⟨rfl, f2.2⟩, fun hh => absurd hh c1⟩, s7⟩
  have c1' : (sen H 6 0 (sst H 0 k)).1 = 0 := Classical.byContradiction c1
  have f2 := f.2.2.1 c1'
  rw [if_neg c1, f2.1, if_neg oz, n_sign f.1 (by omega)]
  by_cases c2 : H (sen H 6 0 (sst H 0 k)).2.1 ≠ 61
  · rw [if_pos c2, if_neg c2, Option.bind_some]
    (try dsimp only)
    rw [if_pos zz, if_pos zz]
    refine Ok_ret ⟨⟨y7.tr (ff.up6.y), f.1.up6.1, fun _ => ⟨rfl, f.1.up6.2⟩, fun hh => by simp at hh⟩, ?_⟩
    rw [u_132_6, zfu_n, if_neg (by decide)]
    exact s7
  have c2' : H (sen H 6 0 (sst H 0 k)).2.1 = 61 := Classical.byContradiction c2
  have lt1 := sg.lt (k := (sen H 6 0 (sst H 0 k)).2.1) (by omega)
  rw [if_neg c2, if_pos c2', Option.bind_some, es]
  (try dsimp only)
  rw [if_neg oz]
  have hr4 : mR (s.up 132 4 (sst H 1 k)) H n (sst H 1 k) := f.1.up4 (by rw [← es]; omega) (by rw [← es]; omega)
  have y4 : mY t (s.up 132 4 (sst H 1 k)) := y7.tr ff.up4.y
  have w7 : (s.up 132 4 (sst H 1 k)).m 132 7 = k + 1 := by rw [u_132_4, zfu_n, if_neg (by decide)]; exact s7
  generalize s.up 132 4 (sst H 1 k) = w at hr4 y4 w7 ⊢
  refine Ok_bind (n_sentence0 hr4) (fun v' s' g => ?_)
  have gg := g.2.2.2.choose_spec
  have x7 : s'.m 132 7 = k + 1 := by rw [gg.2 7 (by decide) (by decide)]; exact w7
  (try dsimp only)
  by_cases c3 : (sen H 6 0 (sst H 1 k)).1 ≠ 0
  · have g2 := g.2.1 c3
    rw [g2.1, if_pos zz, if_pos zz]
    exact Ok_ret ⟨⟨y4.tr gg.y, g.1, fun _ => ⟨rfl, g2.2⟩, fun hh => absurd hh c3⟩, x7⟩
  · have c3' : (sen H 6 0 (sst H 1 k)).1 = 0 := Classical.byContradiction c3
    have g2 := g.2.2.1 c3'
    rw [g2.1, if_neg oz, if_neg oz, if_pos zz]
    exact Ok_ret ⟨⟨y4.tr gg.y, g.1, fun hh => absurd c3' hh, fun _ => rfl⟩, x7⟩
/-- behind a clause -/
theorem n_all0 {H : Int → Int} {n : Int} : ∀ (m : Nat) (k : Int) (t : zD P) (g : zV), 0 ≤ k → k + m = 12 → 1 ≤ m → ∀ s : zD P, npQ t H n (prp H k) (if (prp H k).1 = 0 then 1 else 0) s → s.m 132 7 = k + 1 → Ok (m_readsAll_13 s g 0 (if (prp H k).1 = 0 then 1 else 0)) (fun v s' => npQ t H n (prd H n m k) v s' ∧ ((prd H n m k).1 = 0 → s'.m 132 7 = (prd H n m k).2.2))
  | 0, k, t, g, k0, km, m1 => by omega
  | m + 1, k, t, g, k0, km, m1 => by
    intro s h h7
    have zz : wr 0 = 0 := rfl
    have oz : ¬ wr 1 = 0 := by rw [wr_id (by omega)]; omega
    have sg := h.2.1.2.2.1
    have n240 := sg.2.2
    have qq := h.2.1.2.2.2
    rw [m_readsAll_13_e, prd_p]
    by_cases c1 : (prp H k).1 ≠ 0
    · have h2 := h.2.2.1 c1
      rw [if_neg c1] at h h2 ⊢
      rw [if_pos zz, if_pos (Or.inl rfl), if_pos c1]
      exact Ok_ret ⟨⟨h.1, h.2.1, fun _ => ⟨rfl, h2.2⟩, fun hh => absurd hh c1⟩, fun hh => absurd hh c1⟩
    have c1' : (prp H k).1 = 0 := Classical.byContradiction c1
    rw [if_pos c1'] at h ⊢
    rw [if_neg oz, h.2.1.1.1, h.2.1.1.2, wr_id (by omega), wr_id (by omega), if_neg c1]
    by_cases c2 : (prp H k).2.1 = n
    · rw [if_pos (by omega), if_pos (Or.inr rfl), if_pos c2]
      refine Ok_ret ⟨⟨h.1, ?_, fun hh => absurd rfl hh, fun _ => rfl⟩, fun _ => h7⟩
      have z := h.2.1
      rw [c2] at z
      exact z
    · rw [if_neg (by omega), if_neg c2, n_sign h.2.1 (by omega)]
      by_cases c3 : H (prp H k).2.1 ≠ 59
      · rw [if_pos c3, if_neg c3, Option.bind_some]
        (try dsimp only)
        rw [if_pos zz, m_readsAll_13_e, if_pos zz, if_pos (Or.inl rfl)]
        exact Ok_ret ⟨⟨h.1.tr mX.rf.up6.y, h.2.1.up6.1, fun _ => ⟨rfl, h.2.1.up6.2⟩, fun hh => by simp at hh⟩, fun hh => by simp at hh⟩
      have c3' : H (prp H k).2.1 = 59 := Classical.byContradiction c3
      have lt1 := sg.lt (k := (prp H k).2.1) (by omega)
      have ep : (prp H k).2.1 + 1 = cst H (k + 1) := by
        rw [cst_s k0]
        unfold prp at c1' ⊢
        by_cases d1 : (sen H 6 0 (sst H 0 k)).1 ≠ 0
        · rw [if_pos d1] at c1'
          exact absurd c1' d1
        · rw [if_neg d1] at c1' ⊢
          by_cases d2 : H (sen H 6 0 (sst H 0 k)).2.1 ≠ 61
          · rw [if_pos d2] at c1'
            simp at c1'
          · rw [if_neg d2]
      rw [if_neg c3, if_pos c3', Option.bind_some, ep]
      (try dsimp only)
      rw [if_neg oz]
      have hr4 : mR (s.up 132 4 (cst H (k + 1))) H n (cst H (k + 1)) := h.2.1.up4 (by rw [← ep]; omega) (by rw [← ep]; omega)
      have y4 : mY t (s.up 132 4 (cst H (k + 1))) := h.1.tr mX.rf.up4.y
      have w7 : (s.up 132 4 (cst H (k + 1))).m 132 7 = k + 1 := by rw [u_132_4, zfu_n, if_neg (by decide)]; exact h7
      generalize s.up 132 4 (cst H (k + 1)) = w at hr4 y4 w7 ⊢
      by_cases e12 : k + 1 = 12
      · have em : m = 0 := by omega
        subst em
        rw [m_readsPair_e, w7, if_neg (by rw [wr_id (by omega), wr_id (by omega)]; omega), n_wrong, Option.bind_some]
        (try dsimp only)
        rw [if_pos (Or.inl rfl), Option.bind_some]
        (try dsimp only)
        rw [if_pos zz, m_readsAll_13_e, if_pos zz, if_pos (Or.inl rfl), hr4.1.1]
        unfold prd
        exact Ok_ret ⟨⟨y4.tr mX.rf.up6.y, hr4.up6.1, fun _ => ⟨rfl, hr4.up6.2⟩, fun hh => by simp at hh⟩, fun hh => by simp at hh⟩
      · refine Ok_bind (n_pair0 (k := k + 1) (by omega) (by omega) hr4 w7) (fun v s' f => ?_)
        (try dsimp only)
        have nx := n_all0 (H := H) (n := n) m (k + 1) t g (by omega) (by omega) (by omega) s'
        by_cases c4 : (prp H (k + 1)).1 = 0
        · rw [if_pos c4] at nx
          have f1 := f.1.2.2.2 c4
          rw [f1, if_neg oz]
          exact nx ⟨y4.tr f.1.1, f.1.2.1, f.1.2.2.1 |> fun q hh => absurd c4 hh, fun _ => rfl⟩ f.2
        · rw [if_neg c4] at nx
          have f1 := f.1.2.2.1 c4
          rw [f1.1, if_pos zz]
          exact nx ⟨y4.tr f.1.1, f.1.2.1, fun _ => ⟨rfl, f1.2⟩, fun hh => absurd hh c4⟩ f.2
theorem n_readsAll0 {H : Int → Int} {n : Int} (hs : src t H n) (sg : sgn H n) : Ok (m_readsAll t n 0) (fun v s => npQ t H n (prd H n 12 0) v s ∧ ((prd H n 12 0).1 = 0 → s.m 132 7 = (prd H n 12 0).2.2)) := by
  have zz : wr 0 = 0 := rfl
  have oz : ¬ wr 1 = 0 := by rw [wr_id (by omega)]; omega
  have y : mY t (((t.up 132 4 0).up 132 5 n).up 132 7 0) := (mX.rf.up4.y.up5).up7
  have hr : mR (((t.up 132 4 0).up 132 5 n).up 132 7 0) H n (sst H 0 0) := by
    refine ⟨⟨?_, ?_⟩, hs.fy y, sg, Int.le_refl _, sg.2.2.1⟩
    · rw [u_132_7, zfu_n, if_neg (by decide), u_132_5, zfu_n, if_neg (by decide), u_132_4, zfu_n, if_pos rfl]; rfl
    · rw [u_132_7, zfu_n, if_neg (by decide), u_132_5, zfu_n, if_pos rfl]
  have e7 : (((t.up 132 4 0).up 132 5 n).up 132 7 0).m 132 7 = 0 := by rw [u_132_7, zfu_n, if_pos rfl]
  rw [m_readsAll_e]
  generalize ((t.up 132 4 0).up 132 5 n).up 132 7 0 = u at y hr e7 ⊢
  refine Ok_bind (n_pair0 (k := 0) (by omega) (by omega) hr e7) (fun v s f => ?_)
  (try dsimp only)
  have nx := n_all0 (H := H) (n := n) 12 0 t (0, n) (by omega) (by omega) (by omega) s
  by_cases c4 : (prp H 0).1 = 0
  · rw [if_pos c4] at nx
    have f1 := f.1.2.2.2 c4
    rw [f1]
    exact nx ⟨y.tr f.1.1, f.1.2.1, fun hh => absurd c4 hh, fun _ => rfl⟩ f.2
  · rw [if_neg c4] at nx
    have f1 := f.1.2.2.1 c4
    rw [f1.1]
    exact nx ⟨y.tr f.1.1, f.1.2.1, fun _ => ⟨rfl, f1.2⟩, fun hh => absurd hh c4⟩ f.2
end
