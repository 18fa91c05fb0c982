/-! THE MODEL LAYS A JOINED SIDE. -/
theorem cut_wln {H : Int → Int} {p e : Int} (p0 : 0 ≤ p) (w0 : 0 ≤ wln H p) (he : p + wln H p ≤ e) : wln (cutB H e) p = wln H p ∧ ∀ k, 0 ≤ k → k < wln H p → cutB H e (p + k) = H (p + k) := by
  have wl := wln_le (H := H) (q := p)
  have inn : ∀ k, 0 ≤ k → k < wln H p → cutB H e (p + k) = H (p + k) := fun k k0 k1 => by
    unfold cutB
    rw [if_pos (by omega)]
  refine ⟨?_, inn⟩
  show first 8 (fun k => !isL (cutB H e (p + k))) = wln H p
  refine first_at w0 (by omega) ?_ (fun j j0 j1 => ?_)
  · have E := wln_E (H := H) (q := p) (by omega)
    have : isL (cutB H e (p + wln H p)) = false := by
      refine decide_eq_false ?_
      unfold cutB
      split
      · exact E
      · omega
    (try dsimp only)
    rw [this]
    rfl
  · (try dsimp only)
    rw [inn j j0 j1]
    have := wln_L (H := H) (q := p) j0 (by omega) (Or.inl j1)
    rw [show isL (H (p + j)) = true from decide_eq_true this]
    rfl
theorem cut_s {H : Int → Int} {n e : Int} (sg : sgn H n) (e0 : 0 ≤ e) (e1 : e ≤ n) : sgn (cutB H e) e := by
  have n240 := sg.2.2
  refine ⟨fun k k0 k1 => ?_, fun k k0 => ?_, by omega⟩
  · unfold cutB
    rw [if_pos (by omega)]
    exact sg.1 k k0 (by omega)
  · unfold cutB
    rw [if_neg (by omega)]
theorem sen_at {H : Int → Int} {n q : Int} (sg : sgn H n) (q0 : 0 ≤ q) (qn : q ≤ n) (hs : (sen H 6 0 q).1 = 0) {i : Int} (i0 : 0 ≤ i) (i1 : i < (sen H 6 0 q).2.2) : (0 ≤ wst H q i ∧ wst H q i + wln H (wst H q i) ≤ (sen H 6 0 q).2.1) ∧ 1 ≤ wln H (wst H q i) ∧ wln H (wst H q i) ≤ 7 := by
  obtain ⟨-, s2⟩ := sen_0 sg 6 q0 qn
  obtain ⟨a1, a2, a3, -⟩ := s2 hs
  have w := a2 i i0 i1
  refine ⟨⟨w.1.1, ?_⟩, w.2⟩
  have key : ∀ j : Nat, i + j < (sen H 6 0 q).2.2 → wst H q i + wln H (wst H q i) ≤ wst H q (i + j) + wln H (wst H q (i + j)) := by
    intro j
    induction j with
    | zero => intro _; rw [show i + ((0 : Nat) : Int) = i by omega]; exact Int.le_refl _
    | succ j ih =>
      intro hj
      have b := ih (by omega)
      have c := a2 (i + ((j + 1 : Nat) : Int)) (by omega) hj
      have e : wst H q (i + ((j + 1 : Nat) : Int)) = wst H q (i + j) + wln H (wst H q (i + j)) + 1 := by
        rw [show i + ((j + 1 : Nat) : Int) = (i + j) + 1 by omega, wst_s (by omega)]
      omega
  have k := key ((sen H 6 0 q).2.2 - 1 - i).toNat (by omega)
  rw [show i + ((((sen H 6 0 q).2.2 - 1 - i).toNat : Nat) : Int) = (sen H 6 0 q).2.2 - 1 by omega, ← a3] at k
  exact k
theorem jk_at {H : Int → Int} {w p x i : Int} (x0 : 0 ≤ x) (x1 : x < 2) (i0 : 0 ≤ i) (i1 : i < hln H (shq H w) (p + x)) : hky H (shq H w) (p + x) i = jkF H w p (jlF H w p x + i) := by
  rcases (by omega : x = 0 ∨ x = 1) with rfl | rfl
  · have z : jlF H w p 0 = 0 := rfl
    rw [z, Int.zero_add, Int.add_zero] at *
    unfold jkF
    rw [if_pos i1]
  · have z : jlF H w p 1 = hln H (shq H w) p := by
      have := jlF_s (H := H) (w := w) (p := p) (m := 0) (by omega)
      rw [Int.add_zero] at this
      rw [show (1 : Int) = 0 + 1 from rfl, this]
      show 0 + _ = _
      omega
    rw [z]
    unfold jkF
    rw [if_neg (by omega)]
    exact congrArg _ (by omega)
theorem jl_mono {H : Int → Int} {n w p m : Int} (sg : sgn H n) (h : (shs H n).1 = 0) (w0 : 0 ≤ w) (w1 : w < 2) (p0 : 0 ≤ p) (m2 : m ≤ 2) (hp : p + m ≤ shn H w) {x : Int} (x0 : 0 ≤ x) (x1 : x < m) : 0 ≤ jlF H w p x ∧ jlF H w p x + hln H (shq H w) (p + x) ≤ jlF H w p m := by
  have js := jlF_s (H := H) (w := w) (p := p) x0
  have l := hln_r sg h w0 w1 (r := p + x) (by omega) (by omega)
  have jx : 0 ≤ jlF H w p x ∧ jlF H w p x ≤ x * 6 := sm_le x0 (fun z z0 z1 => by
    have := hln_r sg h w0 w1 (r := p + z) (by omega) (by omega)
    (try dsimp only)
    omega)
  refine ⟨jx.1, ?_⟩
  rcases (by omega : m = x + 1 ∨ m = x + 2) with rfl | rfl
  · omega
  · have js2 := jlF_s (H := H) (w := w) (p := p) (m := x + 1) (by omega)
    have l2 := hln_r sg h w0 w1 (r := p + (x + 1)) (by omega) (by omega)
    rw [show x + 2 = x + 1 + 1 by omega, js2]
    omega
section
variable {P : zP} {d t : zD P} {F : Nat → Int} {ln : Int → Int → Int} {ky : Int → Int → Int → Int}
/-- what laying joined rows touches -/
def lJ (t s : zD P) : Prop := (∀ r, r ≠ 132 → r ≠ 133 → r ≠ 135 → s.m r = t.m r) ∧ ∀ k, k ≠ 4 → k ≠ 5 → k ≠ 6 → k ≠ 10 → s.m 132 k = t.m 132 k
theorem lJ.rf : lJ t t := ⟨fun _ _ _ _ => rfl, fun _ _ _ _ _ => rfl⟩
theorem lJ.tr {a b c : zD P} (h : lJ a b) (h2 : lJ b c) : lJ a c := ⟨fun r r1 r2 r3 => (h2.1 r r1 r2 r3).trans (h.1 r r1 r2 r3), fun k k1 k2 k3 k4 => (h2.2 k k1 k2 k3 k4).trans (h.2 k k1 k2 k3 k4)⟩
theorem lX.j {a b : zD P} (h : lX a b) : lJ a b := ⟨h.1, fun k k1 _ k3 k4 => h.2 k k1 k3 k4⟩
theorem lJ.up5 {s : zD P} {x : Int} (h : lJ t s) : lJ t (s.up 132 5 x) := ⟨fun r r1 r2 r3 => by rw [up_ne r1]; exact h.1 r r1 r2 r3, fun k k1 k2 k3 k4 => by rw [u_132_5, zfu_n, if_neg k2]; exact h.2 k k1 k2 k3 k4⟩
theorem lJ.up4 {s : zD P} {x : Int} (h : lJ t s) : lJ t (s.up 132 4 x) := ⟨fun r r1 r2 r3 => by rw [up_ne r1]; exact h.1 r r1 r2 r3, fun k k1 k2 k3 k4 => by rw [u_132_4, zfu_n, if_neg k1]; exact h.2 k k1 k2 k3 k4⟩
/-- how far a pair is laid, no matter from where -/
theorem SI.mv {R r side kk : Int} {u u' : zD P} (h : SI t F ln ky R r side kk u) (e10 : u'.m 132 10 = u.m 132 10) (e : u'.m 133 = u.m 133) : SI u' F ln ky R r side kk u' := by
  refine ⟨lX.rf, ?_⟩
  rw [e10, e]
  exact h.2
theorem lay_hand (hF : WFc F) {R r side kk hn : Int} {hl : Int → Int} {s : zD P} (r0 : 0 ≤ r) (r1 : r < R) (l6 : ∀ s q, 0 ≤ s → s < 2 → 0 ≤ q → q < R → 1 ≤ ln s q ∧ ln s q ≤ 6) (s0 : 0 ≤ side) (s1 : side < 2) (k0 : 0 ≤ kk) (k1 : kk < ln side r) (hh : hnd s hn hl) (n1 : 1 ≤ hn) (ok : gOK hn hl) (hK : kof hn hl = ky side r kk) (hr : s.m 132 10 = 1) (h : SI t F ln ky R r side kk s) : Ok (m_laysHand s side kk) (fun v u => (v = 0 ∨ v = 1) ∧ Fx (fun r => r = 133) s u ∧ SI (u.up 132 10 v) F ln ky R r side (kk + 1) (u.up 132 10 v)) := by
  have lm := fun x q x0 x1 q0 (q1 : q < r) => (l6 x q x0 x1 q0 (by omega)).2
  have ek : KF ln side r kk side = kk := if_pos rfl
  have l6r := l6 side r s0 s1 r0 r1
  have vd : vad (VR F ln ky r (KF ln side r kk) side) (ky side r kk) = vrw (ky side) r (kk + 1) (vall (ln side) (ky side) r (vF F side)) := by
    unfold VR
    rw [ek, vrw_s k0]
  rcases h.2 with ⟨-, hq⟩ | ⟨hroom, -⟩
  · have L := n_laysHand hF r0 lm rfl hq s0 s1 (by rw [ek]; omega) hh n1 ok (by rw [ek]; exact hK)
    rw [ek] at L
    refine Ok_mono L (fun v u f => ?_)
    rcases f with ⟨rfl, fx, hq'⟩ | ⟨rfl, eu, hov⟩
    · have e10 : (u.up 132 10 1).m 132 10 = 1 := by rw [u_132_10, zfu_n, if_pos rfl]
      have e133 : (u.up 132 10 1).m 133 = u.m 133 := up_ne (by decide)
      refine ⟨Or.inr rfl, fx, lX.rf, Or.inl ⟨e10, ?_⟩⟩
      rw [e133]
      refine LQ_co hq' (fun x x0 x1 => ?_) (fun x x0 x1 => ?_)
      · unfold KF
        by_cases c : x = side
        · rw [if_pos c, if_pos c]
        · rw [if_neg c, if_neg c, if_neg c]
      · by_cases c : x = side
        · rw [if_pos c, vd, c]
          unfold VR
          rw [show KF ln side r (kk + 1) side = kk + 1 from if_pos rfl]
        · rw [if_neg c]
          unfold VR KF
          rw [if_neg c, if_neg c]
    · rw [eu]
      have e10 : (s.up 132 10 0).m 132 10 = 0 := by rw [u_132_10, zfu_n, if_pos rfl]
      have e133 : (s.up 132 10 0).m 133 = s.m 133 := up_ne (by decide)
      refine ⟨Or.inl rfl, Fx.rf, lX.rf, Or.inr ⟨e10, ?_, ?_, ?_⟩⟩
      · rw [vd] at hov
        have hl0 : ∀ q, 0 ≤ q → q < R → 0 ≤ ln side q := fun q q0 q1 => by have := l6 side q s0 s1 q0 q1; omega
        have x1 := vx_rw (ky := ky side) (r := r) (v := vall (ln side) (ky side) r (vF F side)) (a := kk + 1) (b := ln side r) (by omega) (by omega)
        rw [← vall_s r0] at x1
        have x2 := vx_all (ky := ky side) (v := vF F side) hl0 (a := r + 1) (b := R) (by omega) (by omega) (Int.le_refl R)
        have x3 := (vx_tr x1 x2).1
        have x4 : 40 < (vG F ln ky R side).1 := Int.lt_of_lt_of_le hov x3
        rcases (by omega : side = 0 ∨ side = 1) with e | e
        · rw [e] at x4; exact Or.inl x4
        · rw [e] at x4; exact Or.inr x4
      · rw [e133]; exact hq.1.1
      · rw [e133]; exact hq.1.2.2.2.2.2.2.2
  · rw [hroom] at hr
    exact absurd hr (by decide)
theorem n_joinsSide {H : Int → Int} {n R r w p m a : Int} (hF : WFc F) (sg : sgn H n) (h : (shs H n).1 = 0) (n200 : n ≤ 200) (r0 : 0 ≤ r) (r1 : r < R) (l6 : ∀ s q, 0 ≤ s → s < 2 → 0 ≤ q → q < R → 1 ≤ ln s q ∧ ln s q ≤ 6) (w0 : 0 ≤ w) (w1 : w < 2) (p0 : 0 ≤ p) (m0 : 0 ≤ m) (m2 : m ≤ 2) (hp : p + m ≤ shn H w) (ha : a = 8 * w + p) (el : ln w r = jlF H w p m) (ek : ∀ i, ky w r i = jkF H w p i) (fs : fsR d H) (cells : ∀ k, 0 ≤ k → k < n → F (zix (4345 + k)) = H k) (h8 : d.m 132 8 = 1) (hs : SI d F ln ky R r w 0 d) : Ok (m_joinsSide d w a m) (fun _ s => lJ d s ∧ SI s F ln ky R r w (ln w r) s) := by
  have hM := (sh_ok sg h w0 w1).1
  rw [m_joinsSide_e]
  refine lpM (fun x s (y : zV × zV) => m_joinsSide_4 s w a m (jlF H w p x) (a + x) y.1 y.2) (fun x s y => lJ d s ∧ SI s F ln ky R r w (jlF H w p x) s) 0 m m0 d ((3, 0), (3, 0)) ⟨lJ.rf, hs⟩ (fun s y hi => ?_) (fun x s y x0 x1 hi hnext => ?_) |> fun q => by
    (try dsimp only at q)
    rw [Int.add_zero] at q
    exact q
  · (try dsimp only)
    rw [m_joinsSide_4_e, if_pos (Int.le_refl _)]
    refine Ok_ret ⟨hi.1, ?_⟩
    rw [el]
    exact hi.2
  · obtain ⟨i1, i2⟩ := hi
    have y16 : zin (a + x) 16 := of_eq_true (zinT (by omega))
    obtain ⟨b1, b2⟩ := sh_ok sg h w0 w1
    obtain ⟨c1, c2⟩ := b2 (p + x) (by omega) (by omega)
    have l := hln_r sg h w0 w1 (r := p + x) (by omega) (by omega)
    have jm := jl_mono sg h w0 w1 p0 m2 hp x0 x1
    have js := jlF_s (H := H) (w := w) (p := p) x0
    have fc := ((fs w w0 w1).2 (p + x) (by omega) (by omega))
    rw [show 8 * w + (p + x) = a + x by omega] at fc
    obtain ⟨q, hq⟩ : ∃ q, q = shst H (shq H w) (p + x) := ⟨_, rfl⟩
    obtain ⟨e, he⟩ : ∃ e, e = (sen H 6 0 q).2.1 := ⟨_, rfl⟩
    obtain ⟨L, hL⟩ : ∃ L, L = hln H (shq H w) (p + x) := ⟨_, rfl⟩
    have eL : (sen H 6 0 q).2.2 = L := by rw [hL, hq]; rfl
    rw [← hq, ← hL] at fc
    rw [← he] at fc
    rw [← hq] at c1 c2
    rw [← hL] at l jm js
    have hk : ∀ i, 0 ≤ i → i < L → kyW H (wst H q i) = ky w r (jlF H w p x + i) := fun i i0 i1 => by
      rw [ek, ← jk_at x0 (by omega) i0 (by rw [← hL]; exact i1), hq]
      rfl
    have sa := fun i (i0 : 0 ≤ i) (i1 : i < L) => sen_at sg c1.1 c1.2 c2 (i := i) i0 (by rw [eL]; exact i1)
    rw [← he] at sa
    have s0 := (sen_0 sg 6 c1.1 c1.2).1
    rw [← he] at s0
    have sg' := cut_s sg s0.1 s0.2
    have f136 : s.m 136 (zix (a + x)) = q := by rw [i1.1 136 (by decide) (by decide) (by decide)]; exact fc.1
    have f137 : s.m 137 (zix (a + x)) = e := by rw [i1.1 137 (by decide) (by decide) (by decide)]; exact fc.2.1
    have n137 : (s.up 132 4 q).m 137 (zix (a + x)) = e := by rw [up_ne (by decide)]; exact f137
    (try dsimp only)
    rw [m_joinsSide_4_e, if_neg (by rw [wr_id (by omega), wr_id (by omega)]; omega), if_pos y16, if_pos y16, f136, n137]
    have g5 : ((s.up 132 4 q).up 132 5 e).m 132 5 = e := by rw [u_132_5, zfu_n, if_pos rfl]
    have g4 : ((s.up 132 4 q).up 132 5 e).m 132 4 = q := by rw [u_132_5, zfu_n, if_neg (by decide), u_132_4, zfu_n, if_pos rfl]
    have g10 : ((s.up 132 4 q).up 132 5 e).m 132 10 = s.m 132 10 := by rw [u_132_5, zfu_n, if_neg (by decide), u_132_4, zfu_n, if_neg (by decide)]
    have g133 : ((s.up 132 4 q).up 132 5 e).m 133 = s.m 133 := by rw [up_ne (by decide), up_ne (by decide)]
    have gJ : lJ d ((s.up 132 4 q).up 132 5 e) := i1.up4.up5
    have gS := i2.mv g10 g133
    generalize (s.up 132 4 q).up 132 5 e = s2 at g5 g4 gJ gS ⊢
    refine lpM (fun i s' (g : zV) => m_joinsSide_23 s' w a m (jlF H w p x + i) (a + x) i g) (fun i s' _ => lJ d s' ∧ SI s' F ln ky R r w (jlF H w p x + i) s' ∧ s'.m 132 5 = e ∧ (i < L → s'.m 132 4 = wst H q i)) 0 L (by omega) s2 y.2 ⟨gJ, by rw [Int.add_zero]; exact gS, g5, fun _ => by rw [wst_0]; exact g4⟩ (fun s' g hj => ?_) (fun i s' g i0 i1' hj hn => ?_) |> fun q => by
      (try dsimp only at q)
      rw [Int.add_zero] at q
      exact q
    · obtain ⟨j1, j2, -, -⟩ := hj
      have f139 : s'.m 139 (zix (a + x)) = L := by rw [j1.1 139 (by decide) (by decide) (by decide)]; exact fc.2.2.2
      (try dsimp only)
      rw [m_joinsSide_23_e, if_pos y16, f139, if_pos (Int.le_refl _), show a + x + 1 = a + (x + 1) by omega, ← js]
      rw [← js] at j2
      exact hnext s' (_, _) ⟨j1, j2⟩
    · obtain ⟨j1, j2, j3, j4⟩ := hj
      have j4 := j4 i1'
      have f139 : s'.m 139 (zix (a + x)) = L := by rw [j1.1 139 (by decide) (by decide) (by decide)]; exact fc.2.2.2
      have wi := sa i i0 i1'
      have cw := cut_wln (H := H) (e := e) wi.1.1 (by omega) wi.1.2
      have ws := wst_s (H := H) (q := q) i0
      have hr : mR s' (cutB H e) e (wst H q i) := by
        refine ⟨⟨j4, j3⟩, Or.inr ⟨?_, by omega, fun k k0 k1 => ?_⟩, sg', by omega, by omega⟩
        · rw [j1.2 8 (by decide) (by decide) (by decide) (by decide)]; exact h8
        · rw [j2.hi _ (by rw [zix_id (by omega)]; omega), cells k k0 (by omega)]
          unfold cutB
          rw [if_pos (by omega)]
      (try dsimp only)
      rw [m_joinsSide_23_e, if_pos y16, f139, if_neg (by rw [wr_id (by omega), wr_id (by omega)]; omega)]
      refine Ok_bind (n_word hr) (fun v s3 f3 => ?_)
      obtain ⟨x3, -, -, f3⟩ := f3
      rw [cw.1] at f3
      obtain ⟨rfl, hr3, hh3⟩ := f3 (by omega)
      have J3 : lJ d s3 := j1.tr x3.l.j
      have S3 := j2.x x3
      have e34 := hr3.1.1
      have e35 := hr3.1.2
      have next : ∀ (u : zD P) (g : zV), lJ d u → SI u F ln ky R r w (jlF H w p x + i + 1) u → u.m 132 5 = e → u.m 132 4 = wst H q i + wln H (wst H q i) → Ok (m_joinsSide_23 (u.up 132 4 ((u.m 132 4) + 1)) w a m (jlF H w p x + i + 1) (a + x) (i + 1) g) (fun _ s => lJ d s ∧ SI s F ln ky R r w (ln w r) s) := fun u g u1 u2 u3 u4 => by
        rw [show jlF H w p x + i + 1 = jlF H w p x + (i + 1) by omega] at u2 ⊢
        refine hn _ _ ⟨u1.up4, u2.mv ?_ ?_, ?_, fun _ => ?_⟩
        · rw [u_132_4, zfu_n, if_neg (by decide)]
        · rw [up_ne (by decide)]
        · rw [u_132_4, zfu_n, if_neg (by decide)]; exact u3
        · rw [u_132_4, zfu_n, if_pos rfl, u4, ws]
      (try dsimp only)
      rw [if_neg oz1]
      by_cases c : s3.m 132 10 = 0
      · rw [c, if_pos zz0]
        refine next s3 _ J3 ?_ e35 e34
        refine ⟨lX.rf, Or.inr ?_⟩
        rcases S3.2 with ⟨q1, -⟩ | q1
        · rw [q1] at c; exact absurd c (by decide)
        · exact q1
      · have c1 : s3.m 132 10 = 1 := by
          rcases S3.2 with ⟨q1, -⟩ | q1
          · exact q1
          · exact absurd q1.1 c
        rw [c1, if_neg oz1]
        have hK : kof (wln H (wst H q i)) (fun k => cutB H e (wst H q i + k)) = ky w r (jlF H w p x + i) := by
          rw [← hk i i0 i1']
          exact kof_co (by omega) (fun k k0 k1 => cw.2 k k0 k1)
        have ok : gOK (wln H (wst H q i)) (fun k => cutB H e (wst H q i + k)) := by
          have := kyW_ok (H := H) (q := wst H q i) (by omega)
          refine ⟨this.1, fun k k0 k1 => ?_⟩
          (try dsimp only)
          rw [cw.2 k k0 k1]
          exact this.2 k k0 k1
        refine Ok_bind (lay_hand hF r0 r1 l6 w0 w1 (by omega) (by omega) hh3 (by omega) ok hK c1 S3) (fun v4 s4 f4 => ?_)
        obtain ⟨hv, x4, S4⟩ := f4
        (try dsimp only)
        rw [if_pos hv]
        refine next (s4.up 132 10 v4) _ (J3.tr ((lX.f x4).up10).j) S4 ?_ ?_
        · rw [u_132_10, zfu_n, if_neg (by decide), x4 132 (by decide)]; exact e35
        · rw [u_132_10, zfu_n, if_neg (by decide), x4 132 (by decide)]; exact e34
end
