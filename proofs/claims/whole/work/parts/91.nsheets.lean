/-! TEXTS: the model reads sheets. -/
section
variable {P : zP} {d t : zD P}
def mZ (side : Int) (t s : zD P) : Prop := (∀ r, r ≠ 132 → r ≠ 135 → r ≠ 136 → r ≠ 137 → r ≠ 140 → s.m r = t.m r) ∧ (∀ k, k ≠ 4 → k ≠ 6 → s.m 132 k = t.m 132 k) ∧ (∀ i, 0 ≤ i → i < 16 → ¬ (8 * side ≤ i ∧ i < 8 * side + 8) → s.m 136 (zix i) = t.m 136 (zix i) ∧ s.m 137 (zix i) = t.m 137 (zix i)) ∧ ∀ j, 0 ≤ j → j < 2 → j ≠ side → s.m 140 (zix j) = t.m 140 (zix j)
theorem mZ.tr {side : Int} {a b c : zD P} (h : mZ side a b) (h2 : mZ side b c) : mZ side a c := ⟨fun r r1 r2 r3 r4 r5 => (h2.1 r r1 r2 r3 r4 r5).trans (h.1 r r1 r2 r3 r4 r5), fun k k1 k2 => (h2.2.1 k k1 k2).trans (h.2.1 k k1 k2), fun i i0 i1 i2 => ⟨((h2.2.2.1 i i0 i1 i2).1).trans (h.2.2.1 i i0 i1 i2).1, ((h2.2.2.1 i i0 i1 i2).2).trans (h.2.2.1 i i0 i1 i2).2⟩, fun j j0 j1 j2 => (h2.2.2.2 j j0 j1 j2).trans (h.2.2.2 j j0 j1 j2)⟩
theorem mX.z {side : Int} {a b : zD P} (h : mX a b) : mZ side a b := ⟨fun r r1 r2 _ _ _ => h.1 r r1 r2, h.2, fun i i0 i1 i2 => by rw [h.1 136 (by decide) (by decide), h.1 137 (by decide) (by decide)]; exact ⟨rfl, rfl⟩, fun j j0 j1 j2 => by rw [h.1 140 (by decide) (by decide)]⟩
theorem mZ.u136 {side k x : Int} {a : zD P} (s0 : 0 ≤ side ∧ side < 2) (k0 : 0 ≤ k ∧ k < 8) : mZ side a (a.up 136 (zix (8 * side + k)) x) := by
  refine ⟨fun r r1 r2 r3 r4 r5 => by rw [up_ne r3], fun k k1 k2 => by rw [up_ne (by decide)], fun i i0 i1 i2 => ?_, fun j j0 j1 j2 => by rw [up_ne (by decide)]⟩
  rw [u_136, zfu_z (by omega), if_neg (by omega), up_ne (by decide)]
  exact ⟨rfl, rfl⟩
theorem mZ.u137 {side k x : Int} {a : zD P} (s0 : 0 ≤ side ∧ side < 2) (k0 : 0 ≤ k ∧ k < 8) : mZ side a (a.up 137 (zix (8 * side + k)) x) := by
  refine ⟨fun r r1 r2 r3 r4 r5 => by rw [up_ne r4], fun k k1 k2 => by rw [up_ne (by decide)], fun i i0 i1 i2 => ?_, fun j j0 j1 j2 => by rw [up_ne (by decide)]⟩
  rw [u_137, zfu_z (by omega), if_neg (by omega), up_ne (by decide)]
  exact ⟨rfl, rfl⟩
theorem mZ.u140 {side x : Int} {a : zD P} (s0 : 0 ≤ side ∧ side < 2) : mZ side a (a.up 140 (zix side) x) := by
  refine ⟨fun r r1 r2 r3 r4 r5 => by rw [up_ne r5], fun k k1 k2 => by rw [up_ne (by decide)], fun i i0 i1 i2 => ?_, fun j j0 j1 j2 => ?_⟩
  · rw [up_ne (by decide), up_ne (by decide)]
    exact ⟨rfl, rfl⟩
  · rw [u_140, zfu_z (by omega), if_neg j2]
theorem src.fz {side : Int} {s : zD P} {H : Int → Int} {n : Int} (h : src t H n) (f : mZ side t s) : src s H n := by
  unfold src at h ⊢
  rw [f.2.1 8 (by decide) (by decide), f.1 134 (by decide) (by decide) (by decide) (by decide) (by decide), f.1 133 (by decide) (by decide) (by decide) (by decide) (by decide)]
  exact h
theorem mR.ot {s : zD P} {H : Int → Int} {n q x : Int} {r a : Nat} (h : mR s H n q) (hr : r = 136 ∨ r = 137 ∨ r = 140) : mR (s.up r a x) H n q := by
  have e : ∀ r' : Nat, r' ≠ 136 → r' ≠ 137 → r' ≠ 140 → (s.up r a x).m r' = s.m r' := fun r' a1 a2 a3 => up_ne (by omega)
  refine ⟨?_, ?_, h.2.2⟩
  · rw [e 132 (by decide) (by decide) (by decide)]; exact h.1
  · have hs := h.2.1
    unfold src at hs ⊢
    rw [e 132 (by decide) (by decide) (by decide), e 134 (by decide) (by decide) (by decide), e 133 (by decide) (by decide) (by decide)]
    exact hs
/-- sentences of a sheet noted by now -/
def nshI (s : zD P) (H : Int → Int) (side q k : Int) : Prop := s.m 140 (zix side) = k ∧ ∀ i, 0 ≤ i → i < k → s.m 136 (zix (8 * side + i)) = shst H q i ∧ s.m 137 (zix (8 * side + i)) = (sen H 6 0 (shst H q i)).2.1
def nshQ (t : zD P) (H : Int → Int) (n side q : Int) (o : Int × Int × Int) (v : Int) (s : zD P) : Prop := mZ side t s ∧ mR s H n o.2.1 ∧ (o.1 ≠ 0 → v = 0 ∧ s.m 132 6 = -1000 * o.1 - o.2.1) ∧ (o.1 = 0 → v = 1 ∧ nshI s H side q o.2.2)
theorem n_shS {H : Int → Int} {n side q k : Int} (s0 : 0 ≤ side ∧ side < 2) (k0 : 0 ≤ k) (k8 : k < 8) (hr : mR t H n (shst H q k)) (hi : nshI t H side q k) : Ok (m_readsSheetSentence t side) (nshQ t H n side q ((sen H 6 0 (shst H q k)).1, (sen H 6 0 (shst H q k)).2.1, k + 1)) := by
  have zz : wr 0 = 0 := rfl
  have oz : ¬ wr 1 = 0 := by rw [wr_id (by omega)]; omega
  have z2 : zin side 2 := of_eq_true (zinT (by omega))
  have z16 : zin (8 * side + k) 16 := of_eq_true (zinT (by omega))
  rw [m_readsSheetSentence_e, hi.1, if_pos z2, if_pos z2, if_pos (by rw [wr_id (by omega), wr_id (by omega)]; omega), if_pos z16, hr.1.1]
  have hr1 := hr.ot (a := zix (8 * side + k)) (x := shst H q k) (Or.inl rfl)
  have y1 : mZ side t (t.up 136 (zix (8 * side + k)) (shst H q k)) := mZ.u136 s0 ⟨k0, k8⟩
  have hi1 : (t.up 136 (zix (8 * side + k)) (shst H q k)).m 140 (zix side) = k ∧ (t.up 136 (zix (8 * side + k)) (shst H q k)).m 136 (zix (8 * side + k)) = shst H q k ∧ ∀ i, 0 ≤ i → i < k → (t.up 136 (zix (8 * side + k)) (shst H q k)).m 136 (zix (8 * side + i)) = shst H q i ∧ (t.up 136 (zix (8 * side + k)) (shst H q k)).m 137 (zix (8 * side + i)) = (sen H 6 0 (shst H q i)).2.1 := by
    rw [up_ne (show (140 : Nat) ≠ 136 by decide), up_ne (show (137 : Nat) ≠ 136 by decide), u_136]
    refine ⟨hi.1, by rw [zfu_z (by omega), if_pos rfl], fun i i0 i1 => ?_⟩
    rw [zfu_z (by omega), if_neg (by omega)]
    exact hi.2 i i0 i1
  generalize t.up 136 (zix (8 * side + k)) (shst H q k) = u at hr1 y1 hi1 ⊢
  refine Ok_bind (n_sentence0 hr1) (fun v s f => ?_)
  have ff := f.2.2.2.choose_spec
  (try dsimp only)
  by_cases c1 : (sen H 6 0 (shst H q k)).1 ≠ 0
  · have f2 := f.2.1 c1
    rw [f2.1, if_neg (fun hh => hh zz)]
    exact Ok_ret ⟨y1.tr ff.z, f.1, fun _ => ⟨rfl, f2.2⟩, fun hh => absurd hh c1⟩
  · have c1' : (sen H 6 0 (shst H q k)).1 = 0 := Classical.byContradiction c1
    have f2 := f.2.2.1 c1'
    have e136 := ff.1 136 (by decide) (by decide)
    have e137 := ff.1 137 (by decide) (by decide)
    have e140 := ff.1 140 (by decide) (by decide)
    rw [f2.1, if_pos oz, if_pos z16, if_pos z2, if_pos z2, f.1.1.1, up_ne (show (140 : Nat) ≠ 137 by decide), e140, hi1.1]
    refine Ok_ret ⟨((y1.tr ff.z).tr (mZ.u137 s0 ⟨k0, k8⟩)).tr (mZ.u140 s0), (f.1.ot (Or.inr (Or.inl rfl))).ot (Or.inr (Or.inr rfl)), fun hh => absurd c1' hh, fun _ => ⟨rfl, ?_, fun i i0 i1 => ?_⟩⟩
    · rw [u_140, zfu_z (by omega), if_pos rfl]
    · have i1' : i < k + 1 := i1
      rw [up_ne (by decide), up_ne (by decide), up_ne (by decide), u_137, e136, e137, zfu_z (by omega)]
      by_cases e : i = k
      · rw [e, if_pos rfl]
        exact ⟨hi1.2.1, rfl⟩
      · rw [if_neg (by omega)]
        exact hi1.2.2 i i0 (by omega)
theorem n_sh11 {H : Int → Int} {n side q : Int} (s0 : 0 ≤ side ∧ side < 2) : ∀ (m : Nat) (k : Int) (s : zD P), 0 ≤ k → k + m = 8 → 1 ≤ m → 0 ≤ shst H q k → (sen H 6 0 (shst H q k)).1 = 0 → mZ side t s → mR s H n (sen H 6 0 (shst H q k)).2.1 → nshI s H side q (k + 1) → Ok (m_readsSheet_11 s side) (nshQ t H n side q (shd H q m k))
  | 0, k, s, k0, km, m1, _, _, _, _, _ => by omega
  | m + 1, k, s, k0, km, m1, q0, c1, y, hr, hi => by
    have zz : wr 0 = 0 := rfl
    have oz : ¬ wr 1 = 0 := by rw [wr_id (by omega)]; omega
    have sg := hr.2.2.1
    have hl := H_le sg hr.2.2.2.1
    have qq := hr.2.2.2
    have es := shst_s (H := H) (q := q) k0
    unfold shd
    rw [if_neg (fun hh => hh c1), m_readsSheet_11_e, n_here hr, Option.bind_some]
    (try dsimp only)
    rw [wr_id (by omega), wr_id (by omega)]
    by_cases c2 : H (sen H 6 0 (shst H q k)).2.1 = 44
    · have lt := sg.lt (k := (sen H 6 0 (shst H q k)).2.1) (by omega)
      rw [if_neg (fun hh => hh c2), if_pos c2, hr.1.1, ← es]
      have hr4 : mR (s.up 132 4 (shst H q (k + 1))) H n (shst H q (k + 1)) := hr.up4 (by rw [es]; omega) (by rw [es]; omega)
      have y4 : mZ side t (s.up 132 4 (shst H q (k + 1))) := y.tr mX.rf.up4.z
      have hi4 : nshI (s.up 132 4 (shst H q (k + 1))) H side q (k + 1) := by
        unfold nshI
        rw [up_ne (by decide), up_ne (by decide), up_ne (by decide)]
        exact hi
      generalize s.up 132 4 (shst H q (k + 1)) = u at hr4 y4 hi4 ⊢
      by_cases e8 : k + 1 = 8
      · have em : m = 0 := by omega
        subst em
        have z2 : zin side 2 := of_eq_true (zinT (by omega))
        rw [m_readsSheetSentence_e, hi4.1, if_pos z2, if_pos z2, if_neg (by rw [wr_id (by omega), wr_id (by omega)]; omega), n_wrong, Option.bind_some]
        (try dsimp only)
        rw [if_pos (Or.inl rfl), Option.bind_some]
        (try dsimp only)
        rw [if_neg (fun hh => hh zz), hr4.1.1]
        unfold shd
        exact Ok_ret ⟨y4.tr mX.rf.up6.z, hr4.up6.1, fun _ => ⟨rfl, hr4.up6.2⟩, fun hh => by simp at hh⟩
      · refine Ok_bind (n_shS (k := k + 1) s0 (by omega) (by omega) hr4 hi4) (fun v s' f => ?_)
        obtain ⟨fa, fb, fc, fd⟩ := f
        (try dsimp only at fb fc fd ⊢)
        by_cases c3 : (sen H 6 0 (shst H q (k + 1))).1 ≠ 0
        · obtain ⟨m', rfl⟩ : ∃ m', m = m' + 1 := ⟨m - 1, by omega⟩
          have f2 := fc c3
          unfold shd
          rw [f2.1, if_neg (fun hh => hh zz), if_pos c3]
          exact Ok_ret ⟨y4.tr fa, fb, fun _ => ⟨rfl, f2.2⟩, fun hh => absurd hh c3⟩
        · have c3' : (sen H 6 0 (shst H q (k + 1))).1 = 0 := Classical.byContradiction c3
          have f2 := fd c3'
          rw [f2.1, if_pos oz]
          exact n_sh11 s0 m (k + 1) s' (by omega) (by omega) (by omega) (by omega) c3' (y4.tr fa) fb f2.2
    · rw [if_pos c2, if_neg c2]
      exact Ok_ret ⟨y, hr, fun hh => absurd rfl hh, fun _ => ⟨rfl, hi⟩⟩
theorem n_sheet {H : Int → Int} {n side q : Int} (s0 : 0 ≤ side ∧ side < 2) (hr : mR t H n q) : Ok (m_readsSheet t side) (nshQ t H n side q (shd H q 8 0)) := by
  have zz : wr 0 = 0 := rfl
  have oz : ¬ wr 1 = 0 := by rw [wr_id (by omega)]; omega
  have z2 : zin side 2 := of_eq_true (zinT (by omega))
  have w0 : shst H q 0 = q := shst_0
  have hr1 : mR (t.up 140 (zix side) 0) H n (shst H q 0) := by rw [w0]; exact hr.ot (Or.inr (Or.inr rfl))
  have y1 : mZ side t (t.up 140 (zix side) 0) := mZ.u140 s0
  have i1 : nshI (t.up 140 (zix side) 0) H side q 0 := ⟨by rw [u_140, zfu_z (by omega), if_pos rfl], fun i i0 i1 => by omega⟩
  rw [m_readsSheet_e, if_pos z2]
  generalize t.up 140 (zix side) 0 = u at hr1 y1 i1 ⊢
  refine Ok_bind (n_shS (k := 0) s0 (by omega) (by omega) hr1 i1) (fun v s f => ?_)
  obtain ⟨fa, fb, fc, fd⟩ := f
  (try dsimp only at fb fc fd ⊢)
  by_cases c3 : (sen H 6 0 (shst H q 0)).1 ≠ 0
  · have f2 := fc c3
    unfold shd
    rw [f2.1, if_neg (fun hh => hh zz), if_pos c3]
    exact Ok_ret ⟨y1.tr fa, fb, fun _ => ⟨rfl, f2.2⟩, fun hh => absurd hh c3⟩
  · have c3' : (sen H 6 0 (shst H q 0)).1 = 0 := Classical.byContradiction c3
    have f2 := fd c3'
    rw [f2.1, if_pos oz]
    exact n_sh11 s0 8 0 s (by omega) (by omega) (by omega) (by rw [w0]; exact hr.2.2.2.1) c3' (y1.tr fa) fb f2.2
/-- what reading sheets touches -/
def mW (t s : zD P) : Prop := (∀ r, r ≠ 132 → r ≠ 135 → r ≠ 136 → r ≠ 137 → r ≠ 140 → s.m r = t.m r) ∧ ∀ k, k ≠ 4 → k ≠ 5 → k ≠ 6 → s.m 132 k = t.m 132 k
theorem mW.tr {a b c : zD P} (h : mW a b) (h2 : mW b c) : mW a c := ⟨fun r r1 r2 r3 r4 r5 => (h2.1 r r1 r2 r3 r4 r5).trans (h.1 r r1 r2 r3 r4 r5), fun k k1 k2 k3 => (h2.2 k k1 k2 k3).trans (h.2 k k1 k2 k3)⟩
theorem mZ.w {side : Int} {a b : zD P} (h : mZ side a b) : mW a b := ⟨h.1, fun k k1 _ k3 => h.2.1 k k1 k3⟩
def nssQ (t : zD P) (H : Int → Int) (n v : Int) (s : zD P) : Prop := mW t s ∧ ((shs H n).1 ≠ 0 → v = 0 ∧ s.m 132 6 = -1000 * (shs H n).1 - (shs H n).2) ∧ ((shs H n).1 = 0 → v = 1 ∧ nshI s H 0 (shq H 0) (shn H 0) ∧ nshI s H 1 (shq H 1) (shn H 1))
theorem n_readsSheets {H : Int → Int} {n : Int} (hs : src t H n) (sg : sgn H n) : Ok (m_readsSheets t n) (nssQ t H n) := by
  have zz : wr 0 = 0 := rfl
  have oz : ¬ wr 1 = 0 := by rw [wr_id (by omega)]; omega
  have n240 := sg.2.2
  have y : mW t ((t.up 132 4 0).up 132 5 n) := by
    refine ⟨fun r r1 r2 r3 r4 r5 => by rw [up_ne r1, up_ne r1], fun k k1 k2 k3 => ?_⟩
    rw [u_132_5, zfu_n, if_neg k2, u_132_4, zfu_n, if_neg k1]
  have hr : mR ((t.up 132 4 0).up 132 5 n) H n 0 := by
    refine ⟨⟨?_, ?_⟩, ?_, sg, Int.le_refl _, sg.2.2.1⟩
    · rw [u_132_5, zfu_n, if_neg (by decide), u_132_4, zfu_n, if_pos rfl]
    · rw [u_132_5, zfu_n, if_pos rfl]
    · unfold src at hs ⊢
      rw [y.2 8 (by decide) (by decide) (by decide), y.1 134 (by decide) (by decide) (by decide) (by decide) (by decide), y.1 133 (by decide) (by decide) (by decide) (by decide) (by decide)]
      exact hs
  rw [m_readsSheets_e]
  generalize (t.up 132 4 0).up 132 5 n = u at y hr ⊢
  have p0 := shd_ok (q := 0) sg 8 0 (Int.le_refl _) (by rw [shst_0]; omega) (by rw [shst_0]; exact sg.2.2.1)
  have eq1 : shq H 1 = (shd H 0 8 0).2.1 + 1 := rfl
  refine Ok_bind (n_sheet (side := 0) (by omega) hr) (fun v s f => ?_)
  obtain ⟨fa, fb, fc, fd⟩ := f
  (try dsimp only)
  unfold nssQ shs
  by_cases c1 : (shd H 0 8 0).1 ≠ 0
  · have f2 := fc c1
    rw [if_pos c1, f2.1, if_pos zz, if_pos zz]
    exact Ok_ret ⟨y.tr fa.w, fun _ => ⟨rfl, f2.2⟩, fun hh => absurd hh c1⟩
  have c1' : (shd H 0 8 0).1 = 0 := Classical.byContradiction c1
  have f2 := fd c1'
  rw [if_neg c1, f2.1, if_neg oz, n_sign fb (by omega)]
  by_cases c2 : H (shd H 0 8 0).2.1 ≠ 124
  · rw [if_pos c2, if_neg c2, Option.bind_some]
    (try dsimp only)
    rw [if_pos zz, if_pos zz]
    exact Ok_ret ⟨y.tr (fa.tr mX.rf.up6.z).w, fun _ => ⟨rfl, fb.up6.2⟩, fun hh => by simp at hh⟩
  have c2' : H (shd H 0 8 0).2.1 = 124 := Classical.byContradiction c2
  have lt1 := sg.lt (k := (shd H 0 8 0).2.1) (by omega)
  rw [if_neg c2, if_pos c2', Option.bind_some, ← eq1]
  (try dsimp only)
  rw [if_neg oz]
  have hr1 : mR (s.up 132 4 (shq H 1)) H n (shq H 1) := fb.up4 (by rw [eq1]; omega) (by rw [eq1]; omega)
  have y1 : mW t (s.up 132 4 (shq H 1)) := y.tr (fa.tr mX.rf.up4.z).w
  have i1 : nshI (s.up 132 4 (shq H 1)) H 0 (shq H 0) (shn H 0) := by
    unfold nshI
    rw [up_ne (by decide), up_ne (by decide), up_ne (by decide)]
    exact f2.2
  generalize s.up 132 4 (shq H 1) = w at hr1 y1 i1 ⊢
  refine Ok_bind (n_sheet (side := 1) (by omega) hr1) (fun v' s' g => ?_)
  obtain ⟨ga, gb, gc, gd⟩ := g
  (try dsimp only)
  by_cases c3 : (shd H (shq H 1) 8 0).1 ≠ 0
  · have g2 := gc c3
    rw [if_pos c3, g2.1, if_pos zz, if_pos zz]
    exact Ok_ret ⟨y1.tr ga.w, fun _ => ⟨rfl, g2.2⟩, fun hh => absurd hh c3⟩
  have c3' : (shd H (shq H 1) 8 0).1 = 0 := Classical.byContradiction c3
  have g2 := gd c3'
  have pl := gb.2.2.2
  have i0' : nshI s' H 0 (shq H 0) (shn H 0) := by
    refine ⟨(ga.2.2.2 0 (by omega) (by omega) (by omega)).trans i1.1, fun i i0 i1' => ?_⟩
    have sh8 : shn H 0 ≤ 8 := by have := (p0.2 c1').1; show (shd H 0 8 0).2.2 ≤ 8; omega
    have e := ga.2.2.1 (8 * 0 + i) (by omega) (by omega) (by omega)
    rw [e.1, e.2]
    exact i1.2 i i0 i1'
  rw [if_neg c3, g2.1, if_neg oz, if_neg oz, gb.1.1, gb.1.2, wr_id (x := (shd H (shq H 1) 8 0).2.1) (by omega), wr_id (x := n) (by omega)]
  by_cases c4 : (shd H (shq H 1) 8 0).2.1 = n
  · rw [if_pos c4, if_pos c4]
    exact Ok_ret ⟨y1.tr ga.w, fun hh => absurd rfl hh, fun _ => ⟨rfl, i0', g2.2⟩⟩
  · rw [if_neg c4, if_neg c4, n_wrong, Option.bind_some]
    (try dsimp only)
    rw [if_pos zz]
    exact Ok_ret ⟨y1.tr (ga.tr mX.rf.up6.z).w, fun _ => ⟨rfl, gb.up6.2⟩, fun hh => by simp at hh⟩
end
