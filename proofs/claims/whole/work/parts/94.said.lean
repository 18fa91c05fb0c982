/-! TEXTS: words of a row by number; both sides. -/
def nuW (F : Nat → Int) (s K : Int) : Int := first (wds F s) (fun w => decide (key F s w = K))
theorem nuW_le {F : Nat → Int} {s K : Int} (h : 0 ≤ wds F s) : nuW F s K = -1 ∨ (0 ≤ nuW F s K ∧ nuW F s K < wds F s ∧ key F s (nuW F s K) = K) := by
  rcases first_range (p := fun w => decide (key F s w = K)) h with e | e
  · exact Or.inl e
  · exact Or.inr ⟨e.1, e.2.1, of_decide_eq_true e.2.2⟩
theorem key_b {F : Nat → Int} {s w : Int} (hv : VW F s) (w0 : 0 ≤ w) (w1 : w < wds F s) : 0 ≤ key F s w ∧ key F s w < 34359738368 := kof_le (hv.2 w w0 w1).2
/-- the row that is said, read word for word: fuel, place -/
def svd (H : Int → Int) (F : Nat → Int) (n : Int) : Nat → Int → Bool
  | 0, _ => false
  | m + 1, x => if wln H x ≤ 0 then false else if nuW F 0 (kyW H x) = -1 then false else if x + wln H x = n then true else if H (x + wln H x) = 32 then svd H F n m (x + wln H x + 1) else false
theorem svd_ok {H : Int → Int} {F : Nat → Int} {n q : Int} (sg : sgn H n) : ∀ (m : Nat) (k : Int), 0 ≤ k → 0 ≤ wst H q k → wst H q k ≤ n → (svd H F n m (wst H q k) = true ↔ ((sen H m k (wst H q k)).1 = 0 ∧ (sen H m k (wst H q k)).2.1 = n ∧ ∀ i, k ≤ i → i < (sen H m k (wst H q k)).2.2 → nuW F 0 (kyW H (wst H q i)) ≠ -1))
  | 0, k, k0, q0, qn => by
    unfold svd sen
    constructor
    · intro h; exact absurd h (by decide)
    · rintro ⟨h, -⟩
      (try dsimp only at h)
      split at h <;> exact absurd h (by decide)
  | m + 1, k, k0, q0, qn => by
    have w := sg.wl q0 qn
    have l := wln_le (H := H) (q := wst H q k)
    unfold svd sen
    by_cases c1 : wln H (wst H q k) ≤ 0
    · rw [if_pos c1]
      constructor
      · intro h; exact absurd h (by decide)
      · rintro ⟨h, -⟩
        by_cases z : wln H (wst H q k) = 0
        · rw [if_pos z] at h
          exact absurd (show (1 : Int) = 0 from h) (by decide)
        · rw [if_neg z, if_pos (by omega)] at h
          exact absurd (show (2 : Int) = 0 from h) (by decide)
    · rw [if_neg c1, if_neg (show ¬ wln H (wst H q k) = 0 by omega), if_neg (show ¬ wln H (wst H q k) = -1 by omega)]
      have w1 := w.1 (by omega)
      by_cases c2 : nuW F 0 (kyW H (wst H q k)) = -1
      · rw [if_pos c2]
        constructor
        · intro h; exact absurd h (by decide)
        · rintro ⟨h1, h2, h3⟩
          have := h3 k (Int.le_refl _) (by
            by_cases c3 : H (wst H q k + wln H (wst H q k)) = 32
            · rw [if_pos c3] at h1 ⊢
              have lt := sg.lt (k := wst H q k + wln H (wst H q k)) (by omega)
              have es := wst_s (H := H) (q := q) k0
              have r := (sen_ok (q := q) sg m (k + 1) (by omega) (by omega) (by omega)).2
              rw [es] at r
              have := (r h1).1
              omega
            · rw [if_neg c3]
              show k < k + 1
              omega)
          exact absurd c2 this
      · rw [if_neg c2]
        by_cases c4 : wst H q k + wln H (wst H q k) = n
        · have h32 : ¬ H (wst H q k + wln H (wst H q k)) = 32 := by rw [c4, sg.2.1 n (Int.le_refl _)]; decide
          rw [if_pos c4, if_neg h32]
          refine ⟨fun _ => ⟨rfl, c4, fun i i0 i1 => ?_⟩, fun _ => rfl⟩
          have i1' : i < k + 1 := i1
          have e : i = k := by omega
          rw [e]
          exact c2
        · rw [if_neg c4]
          by_cases c3 : H (wst H q k + wln H (wst H q k)) = 32
          · rw [if_pos c3, if_pos c3]
            have lt := sg.lt (k := wst H q k + wln H (wst H q k)) (by omega)
            have es := wst_s (H := H) (q := q) k0
            have r := svd_ok (F := F) (q := q) sg m (k + 1) (by omega) (by omega) (by omega)
            rw [es] at r
            rw [r]
            constructor
            · rintro ⟨h1, h2, h3⟩
              refine ⟨h1, h2, fun i i0 i1 => ?_⟩
              by_cases e : i = k
              · rw [e]; exact c2
              · exact h3 i (by omega) i1
            · rintro ⟨h1, h2, h3⟩
              exact ⟨h1, h2, fun i i0 i1 => h3 i (by omega) i1⟩
          · rw [if_neg c3, if_neg c3]
            constructor
            · intro h; exact absurd h (by decide)
            · rintro ⟨h1, h2, h3⟩
              exact absurd h2 c4
section
variable {P : zP} {d t : zD P}
theorem k_numberOf {s K A : Int} {kf : Int → Int} (s0 : 0 ≤ s) (s1 : s < 2) (A0 : 0 ≤ A) (A40 : A ≤ 40) (hk : ∀ w, 0 ≤ w → w < A → d.m (16 + (1 + zix s)) (zix w) = kf w ∧ 0 ≤ kf w ∧ kf w < 34359738368) (hK : -1 ≤ K ∧ K < 34359738368) : co_numberOf d s K A = some (first A (fun w => decide (kf w = K)), d) := by
  have z2 : zin s 2 := of_eq_true (zinT (by omega))
  rw [co_numberOf_e]
  refine lpF (fun k => co_numberOf_2 d s K (3, 0) A k) (fun v => some (v, d)) (fun w => decide (kf w = K)) A ?_ (fun k k0 k1 => ?_) A0
  · (try dsimp only)
    rw [co_numberOf_2_e, if_pos (by omega)]
  · have kk := hk k k0 k1
    have z40 : zin k 40 := of_eq_true (zinT (by omega))
    (try dsimp only)
    rw [co_numberOf_2_e, if_neg (by rw [wr_id (by omega), wr_id (by omega)]; omega), if_neg (by rw [wr_id (by omega), wr_id (by omega)]; omega), if_pos z2, if_pos z40, kk.1, wrl_id (by omega), wrl_id (by omega)]
    by_cases c : kf k = K
    · rw [if_neg (fun hh => hh c), if_pos (decide_eq_true c)]
    · rw [if_pos c, if_neg (by rw [decide_eq_false c]; decide)]
theorem k_number {F : Nat → Int} (h : CA d F) {s K : Int} (s0 : 0 ≤ s) (s1 : s < 2) (hK : -1 ≤ K ∧ K < 34359738368) : co_numberOf d s K (wds F s) = some (nuW F s K, d) := by
  have hv := h.wf.vw s0 s1
  exact k_numberOf s0 s1 hv.1.1 hv.1.2 (fun w w0 w1 => ⟨h.key_ s0 s1 w0 w1, key_b hv w0 w1⟩) hK
/-- the class takes a row -/
theorem k_take {F : Nat → Int} (h : CA d F) {N : Int} {kw : Int → Int} (hr : rO d.m 97 1 (fun _ => N) (fun _ i => kw i)) (hN : 1 ≤ N) (hk : ∀ i, 0 ≤ i → i < N → 0 ≤ kw i ∧ kw i < 34359738368) : Ok (pu_take d) (fun v s => Fx (fun r => r = 125 ∨ r = 126) d s ∧ s.m 125 6 = N ∧ ((v = 1 ∧ ∀ i, 0 ≤ i → i < N → nuW F 0 (kw i) ≠ -1 ∧ s.m 126 (zix i) = nuW F 0 (kw i)) ∨ (v = 0 ∧ ¬ ∀ i, 0 ≤ i → i < N → nuW F 0 (kw i) ≠ -1))) := by
  have hN8 : N ≤ 8 := (hr.2.2.1 0 (by omega) (by omega)).2.2
  have hv := h.wf.vw (s := 0) (by omega) (by omega)
  have z02 : zin 0 2 := of_eq_true (zinT (by omega))
  rw [pu_take_e, r_len hr (r := 0) (by omega) (by omega) rfl, Option.bind_some]
  (try dsimp only)
  rw [wr_id (x := N) (by omega), wr_id (x := 8) (by omega), if_neg (by omega)]
  refine lpD (fun k s => pu_take_9 s k) (fun k s => Fx (fun r => r = 125 ∨ r = 126) d s ∧ s.m 125 6 = N ∧ ∀ i, 0 ≤ i → i < k → nuW F 0 (kw i) ≠ -1 ∧ s.m 126 (zix i) = nuW F 0 (kw i)) 0 N (by omega) _ ⟨Fx.rf.up (Or.inl rfl), by rw [u_125_6, zfu_n, if_pos rfl], fun i i0 i1 => by omega⟩ (fun s hi => ?_) (fun k s k0 k1 hi hnext => ?_)
  · (try dsimp only)
    rw [pu_take_9_e, hi.2.1, if_pos (by omega)]
    exact Ok_ret ⟨hi.1, hi.2.1, Or.inl ⟨rfl, hi.2.2⟩⟩
  · have f15 := hi.1 15 (by omega)
    have hr' := hr.fx hi.1 (by omega) (by omega) (by omega)
    have hc : CA s F := h.fr (fun r r0 r1 => hi.1 r (by omega))
    have ki := hk k k0 k1
    have z8 : zin k 8 := of_eq_true (zinT (by omega))
    have nl := nuW_le (F := F) (s := 0) (K := kw k) hv.1.1
    have w40 := hv.1
    (try dsimp only)
    rw [pu_take_9_e, hi.2.1, if_neg (by rw [wr_id (by omega), wr_id (by omega)]; omega), r_key hr' (r := 0) (i := k) (by omega) (by omega) k0 k1 rfl, Option.bind_some]
    (try dsimp only)
    rw [if_pos z02, hc.wds_ (s := 0) (by omega) (by omega), k_number hc (s := 0) (by omega) (by omega) (by omega), Option.bind_some]
    (try dsimp only)
    rw [if_pos z8, if_pos z8, u_126, zfu_z (by omega), if_pos rfl, wr_id (by omega)]
    have fx : Fx (fun r => r = 125 ∨ r = 126) d (s.up 126 (zix k) (nuW F 0 (kw k))) := hi.1.up (Or.inr rfl)
    have e6 : (s.up 126 (zix k) (nuW F 0 (kw k))).m 125 6 = N := by rw [up_ne (by decide)]; exact hi.2.1
    by_cases c : nuW F 0 (kw k) = -1
    · rw [if_neg (by omega)]
      exact Ok_ret ⟨fx, e6, Or.inr ⟨rfl, fun hh => hh k k0 k1 c⟩⟩
    · rw [if_pos (by omega)]
      refine hnext _ ?_
      refine ⟨fx, e6, fun i i0 i1 => ?_⟩
      rw [u_126, zfu_z (by omega)]
      by_cases e : i = k
      · rw [if_pos e, e]
        exact ⟨c, rfl⟩
      · rw [if_neg e]
        exact hi.2.2 i i0 (by omega)
/-- the model reads what is said -/
def mS (t s : zD P) : Prop := (∀ r, r ≠ 132 → r ≠ 135 → r ≠ 155 → s.m r = t.m r) ∧ ∀ k, k ≠ 4 → k ≠ 5 → k ≠ 6 → k ≠ 35 → s.m 132 k = t.m 132 k
theorem mS.tr {a b c : zD P} (h : mS a b) (h2 : mS b c) : mS a c := ⟨fun r r1 r2 r3 => (h2.1 r r1 r2 r3).trans (h.1 r r1 r2 r3), fun k k1 k2 k3 k4 => (h2.2 k k1 k2 k3 k4).trans (h.2 k k1 k2 k3 k4)⟩
theorem mX.s {a b : zD P} (h : mX a b) : mS a b := ⟨fun r r1 r2 _ => h.1 r r1 r2, fun k k1 _ k3 _ => h.2 k k1 k3⟩
theorem n_said {F : Nat → Int} {H : Int → Int} {n : Int} (hw : WF F) : ∀ (m : Nat) (k : Int) (t : zD P) (g : zV), 0 ≤ k → k + m = 8 → t.m 133 = F → mR t H n (wst H 0 k) → t.m 132 35 = k → (∀ i, 0 ≤ i → i < k → t.m 155 (zix i) = nuW F 0 (kyW H (wst H 0 i))) → Ok (m_readsSaid_9 t g) (fun v s => mS t s ∧ v = bi (svd H F n m (wst H 0 k)) ∧ (svd H F n m (wst H 0 k) = true → s.m 132 35 = (sen H m k (wst H 0 k)).2.2 ∧ ∀ i, 0 ≤ i → i < (sen H m k (wst H 0 k)).2.2 → s.m 155 (zix i) = nuW F 0 (kyW H (wst H 0 i))))
  | 0, k, t, g, k0, km, hF, hr, h35, hs => by
    rw [m_readsSaid_9_e, h35, if_pos (by rw [wr_id (by omega), wr_id (by omega)]; omega)]
    unfold svd
    exact Ok_ret ⟨⟨fun _ _ _ _ => rfl, fun _ _ _ _ _ => rfl⟩, rfl, fun hh => absurd hh (by decide)⟩
  | m + 1, k, t, g, k0, km, hF, hr, h35, hs => by
    have zz : wr 0 = 0 := rfl
    have oz : ¬ wr 1 = 0 := by rw [wr_id (by omega)]; omega
    have hv := hw.vw (s := 0) (by omega) (by omega)
    have wl := wln_le (H := H) (q := wst H 0 k)
    have sg := hr.2.2.1
    have qq := hr.2.2.2
    have n240 := sg.2.2
    have ww := sg.wl qq.1 qq.2
    rw [m_readsSaid_9_e, h35, if_neg (by rw [wr_id (by omega), wr_id (by omega)]; omega)]
    unfold svd
    refine Ok_bind (n_word hr) (fun v s f => ?_)
    obtain ⟨fa, fb, fc, fd⟩ := f
    (try dsimp only)
    by_cases c1 : wln H (wst H 0 k) ≤ 0
    · rw [if_pos c1]
      have v0 : v = 0 := by
        by_cases z : wln H (wst H 0 k) = 0
        · exact (fc z).1
        · exact (fb (by omega)).1
      rw [v0, if_pos zz]
      exact Ok_ret ⟨fa.s, rfl, fun hh => absurd hh (by decide)⟩
    · have f2 := fd (by omega)
      have w1 := ww.1 (by omega)
      have eF : s.m 133 = F := by rw [fa.1 133 (by decide) (by decide)]; exact hF
      have ok := kyW_ok (H := H) (q := wst H 0 k) (by omega)
      have nh : m_numberOfHand s 0 = some (nuW F 0 (kyW H (wst H 0 k)), s) := n_numHand eF (by omega) (by omega) hv f2.2.2 (by omega) ok
      have nl := nuW_le (F := F) (s := 0) (K := kyW H (wst H 0 k)) hv.1.1
      have w40 := hv.1
      have s35 : s.m 132 35 = k := by rw [fa.2 35 (by decide) (by decide)]; exact h35
      have z8 : zin k 8 := of_eq_true (zinT (by omega))
      rw [if_neg c1, f2.1, if_neg oz, nh, Option.bind_some]
      (try dsimp only)
      rw [wr_id (x := nuW F 0 (kyW H (wst H 0 k))) (by omega), wr_id (x := -1) (by omega)]
      by_cases c2 : nuW F 0 (kyW H (wst H 0 k)) = -1
      · rw [if_neg (fun hh => hh c2), if_pos c2]
        exact Ok_ret ⟨fa.s, rfl, fun hh => absurd hh (by decide)⟩
      · rw [if_pos c2, if_neg c2, nh, Option.bind_some]
        (try dsimp only)
        rw [s35, if_pos z8, up_ne (show (132 : Nat) ≠ 155 by decide), s35]
        have hu : mR ((s.up 155 (zix k) (nuW F 0 (kyW H (wst H 0 k)))).up 132 35 (k + 1)) H n (wst H 0 k + wln H (wst H 0 k)) := by
          have e : ∀ r' : Nat, r' ≠ 155 → r' ≠ 132 → ((s.up 155 (zix k) (nuW F 0 (kyW H (wst H 0 k)))).up 132 35 (k + 1)).m r' = s.m r' := fun r' a1 a2 => by rw [up_ne a2, up_ne a1]
          have e2 : ∀ j, j ≠ 35 → ((s.up 155 (zix k) (nuW F 0 (kyW H (wst H 0 k)))).up 132 35 (k + 1)).m 132 j = s.m 132 j := fun j hj => by rw [u_132_35, zfu_n, if_neg hj, up_ne (by decide)]
          refine ⟨⟨?_, ?_⟩, ?_, f2.2.1.2.2⟩
          · rw [e2 4 (by decide)]; exact f2.2.1.1.1
          · rw [e2 5 (by decide)]; exact f2.2.1.1.2
          · have hs := f2.2.1.2.1
            unfold src at hs ⊢
            rw [e2 8 (by decide), e 134 (by decide) (by decide), e 133 (by decide) (by decide)]
            exact hs
        have yu : mS t ((s.up 155 (zix k) (nuW F 0 (kyW H (wst H 0 k)))).up 132 35 (k + 1)) := fa.s.tr ⟨fun r r1 r2 r3 => by rw [up_ne r1, up_ne r3], fun j j1 j2 j3 j4 => by rw [u_132_35, zfu_n, if_neg j4, up_ne (by decide)]⟩
        have u35 : ((s.up 155 (zix k) (nuW F 0 (kyW H (wst H 0 k)))).up 132 35 (k + 1)).m 132 35 = k + 1 := by rw [u_132_35, zfu_n, if_pos rfl]
        have u155 : ∀ i, 0 ≤ i → i < k + 1 → ((s.up 155 (zix k) (nuW F 0 (kyW H (wst H 0 k)))).up 132 35 (k + 1)).m 155 (zix i) = nuW F 0 (kyW H (wst H 0 i)) := fun i i0 i1 => by
          rw [up_ne (by decide), u_155, zfu_z (by omega)]
          by_cases e : i = k
          · rw [if_pos e, e]
          · rw [if_neg e, fa.1 155 (by decide) (by decide)]
            exact hs i i0 (by omega)
        have uF : ((s.up 155 (zix k) (nuW F 0 (kyW H (wst H 0 k)))).up 132 35 (k + 1)).m 133 = F := by rw [up_ne (by decide), up_ne (by decide)]; exact eF
        generalize (s.up 155 (zix k) (nuW F 0 (kyW H (wst H 0 k)))).up 132 35 (k + 1) = u at hu yu u35 u155 uF ⊢
        rw [hu.1.1, hu.1.2, wr_id (by omega), wr_id (by omega)]
        by_cases c4 : wst H 0 k + wln H (wst H 0 k) = n
        · have h32 : ¬ H (wst H 0 k + wln H (wst H 0 k)) = 32 := by rw [c4, sg.2.1 n (Int.le_refl _)]; decide
          rw [if_neg (fun hh => hh c4), if_pos c4]
          refine Ok_ret ⟨yu, rfl, fun _ => ?_⟩
          unfold sen
          rw [if_neg (by omega), if_neg (by omega), if_neg h32]
          exact ⟨u35, u155⟩
        · rw [if_pos c4, if_neg c4, n_sign hu (by omega)]
          by_cases c3 : H (wst H 0 k + wln H (wst H 0 k)) = 32
          · have lt := sg.lt (k := wst H 0 k + wln H (wst H 0 k)) (by omega)
            have es := wst_s (H := H) (q := 0) k0
            rw [if_pos c3, if_pos c3, Option.bind_some]
            (try dsimp only)
            rw [if_pos oz, ← es]
            have nx := n_said (H := H) (n := n) hw m (k + 1) (u.up 132 4 (wst H 0 (k + 1))) g (by omega) (by omega) (by rw [up_ne (by decide)]; exact uF) (hu.up4 (by omega) (by omega)) (by rw [u_132_4, zfu_n, if_neg (by decide)]; exact u35) (by rw [up_ne (by decide)]; exact u155)
            refine Ok_mono nx (fun v' s' gq => ⟨(yu.tr mX.rf.up4.s).tr gq.1, gq.2.1, fun hh => ?_⟩)
            have r := gq.2.2 hh
            rw [sen, if_neg (show ¬ wln H (wst H 0 k) = 0 by omega), if_neg (show ¬ wln H (wst H 0 k) = -1 by omega), if_pos c3, ← es]
            exact r
          · rw [if_neg c3, if_neg c3, Option.bind_some]
            (try dsimp only)
            rw [if_neg (fun hh => hh zz)]
            exact Ok_ret ⟨yu.tr mX.rf.up6.s, rfl, fun hh => absurd hh (by decide)⟩
end
