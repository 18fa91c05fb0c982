/-! BEST WORDS AND TWINS, both sides. -/
def rnkF (F : Nat → Int) (w u k : Int) : Int := first (wds F (1 - w)) (fun v => ptn F w u v && decide (ahd F w u v = k))
theorem rnk_le {F : Nat → Int} {w u k : Int} (h : 0 ≤ wds F (1 - w)) : rnkF F w u k = -1 ∨ (0 ≤ rnkF F w u k ∧ rnkF F w u k < wds F (1 - w) ∧ ptn F w u (rnkF F w u k) = true) := by
  rcases first_range (p := fun v => ptn F w u v && decide (ahd F w u v = k)) h with e | e
  · exact Or.inl e
  · refine Or.inr ⟨e.1, e.2.1, ?_⟩
    have := e.2.2
    (try dsimp only at this)
    rw [Bool.and_eq_true] at this
    exact this.1
theorem ahd_le {F : Nat → Int} {w u v : Int} (h : 0 ≤ wds F (1 - w) ∧ wds F (1 - w) ≤ 40) : 0 ≤ ahd F w u v ∧ ahd F w u v ≤ 40 := by
  have := sm_le (g := fun o => bi (ptn F w u o && (decide (shr F w u v < shr F w u o) || (decide (shr F w u o = shr F w u v) && decide (o < v))))) (n := wds F (1 - w)) (B := 1) h.1 (fun k _ _ => bi_le _)
  unfold ahd
  omega
section
variable {P : zP} {d t : zD P} {F : Nat → Int} {B : Int → Int} {T : Int}
theorem k_ranked (h : CI d F) {w u k : Int} (w0 : 0 ≤ w) (w1 : w < 2) (u0 : 0 ≤ u) (u1 : u < 40) (hk : I32 k) : st_ranked d w u k = some (rnkF F w u k, d) := by
  unfold I32 at hk
  have w40 := h.wf.wds_ (s := 1 - w) (by omega) (by omega)
  have z2 : zin (1 - w) 2 := of_eq_true (zinT (by omega))
  rw [st_ranked_e]
  refine lpF (fun v => st_ranked_2 d w u k v) (fun v => some (v, d)) (fun v => ptn F w u v && decide (ahd F w u v = k)) (wds F (1 - w)) ?_ (fun v v0 v1 => ?_) w40.1
  · (try dsimp only)
    rw [st_ranked_2_e, if_pos z2, h.ca.wds_ (by omega) (by omega), if_pos (by omega)]
  · have al := ahd_le (F := F) (w := w) (u := u) (v := v) w40
    (try dsimp only)
    rw [st_ranked_2_e, if_pos z2, h.ca.wds_ (by omega) (by omega), if_neg (by rw [wr_id (by omega), wr_id (by omega)]; omega), k_arePartners h.ca w0 w1 u0 u1 v0 (by omega), Option.bind_some]
    (try dsimp only)
    cases hp : ptn F w u v
    · rw [if_pos (show wr (bi false) = 0 from rfl)]
      rfl
    · rw [if_neg (show ¬ wr (bi true) = 0 from oz1), k_partnersAhead h w0 w1 u0 u1 v0 v1 hp, Option.bind_some]
      (try dsimp only)
      rw [wr_id (by omega), wr_id (by omega)]
      by_cases e : ahd F w u v = k
      · rw [if_neg (fun x => x e), decide_eq_true e]
        rfl
      · rw [if_pos e, decide_eq_false e]
        rfl
theorem n_partnerAt (hF : d.m 133 = F) (hw : WF F) {w u k : Int} (w0 : 0 ≤ w) (w1 : w < 2) (u0 : 0 ≤ u) (u1 : u < 40) (hk : I32 k) : m_partnerAt d w u k = some (rnkF F w u k, d) := by
  unfold I32 at hk
  have w40 := hw.wds_ (s := 1 - w) (by omega) (by omega)
  have sb : ∀ v, 0 ≤ v → v < 40 → -1 ≤ shr F w u v ∧ shr F w u v ≤ 200000 := fun v v0 v1 => hw.shr_ w0 w1 u0 u1 v0 v1
  have inner : ∀ v, 0 ≤ v → v < wds F (1 - w) → m_partnerAt_20 d w u k v 0 0 = m_partnerAt_20 d w u k v (ahd F w u v) (wds F (1 - w)) := fun v v0 v1 => by
    refine lpS (fun o a => m_partnerAt_20 d w u k v a o) (fun o => bi (ptn F w u o && (decide (shr F w u v < shr F w u o) || (decide (shr F w u o = shr F w u v) && decide (o < v))))) (wds F (1 - w)) w40.1 (fun o a o0 o1 _ => ?_)
    have so := sb o o0 (by omega)
    have sv := sb v v0 (by omega)
    (try dsimp only)
    rw [m_partnerAt_20_e, n_words hF (by omega) (by omega), Option.bind_some]
    (try dsimp only)
    rw [if_neg (by rw [wr_id (by omega), wr_id (by omega)]; omega), n_isPartner hF w0 w1 u0 u1 o0 (by omega) (by unfold I32; omega), Option.bind_some]
    (try dsimp only)
    cases hp : ptn F w u o
    · rw [if_pos (show wr (bi false) = 0 from rfl)]
      show _ = m_partnerAt_20 d w u k v (a + 0) (o + 1)
      rw [Int.add_zero]
    · rw [if_neg (show ¬ wr (bi true) = 0 from oz1), n_shareOf hF w0 w1 u0 u1 o0 (by omega), Option.bind_some]
      (try dsimp only)
      rw [n_shareOf hF w0 w1 u0 u1 v0 (by omega), Option.bind_some]
      (try dsimp only)
      by_cases e : shr F w u v < shr F w u o
      · rw [if_pos (by rw [wr_id (by omega), wr_id (by omega)]; exact e), decide_eq_true e]
        rfl
      · rw [if_neg (by rw [wr_id (by omega), wr_id (by omega)]; exact e), decide_eq_false e, n_shareOf hF w0 w1 u0 u1 o0 (by omega), Option.bind_some]
        (try dsimp only)
        rw [n_shareOf hF w0 w1 u0 u1 v0 (by omega), Option.bind_some]
        (try dsimp only)
        by_cases e2 : shr F w u o = shr F w u v
        · rw [if_neg (by rw [wr_id (by omega), wr_id (by omega)]; exact fun x => x e2), decide_eq_true e2]
          by_cases e3 : o < v
          · rw [if_neg (by rw [wr_id (by omega), wr_id (by omega)]; omega), decide_eq_true e3]
            rfl
          · rw [if_pos (by rw [wr_id (by omega), wr_id (by omega)]; omega), decide_eq_false e3]
            show _ = m_partnerAt_20 d w u k v (a + 0) (o + 1)
            rw [Int.add_zero]
        · rw [if_pos (by rw [wr_id (by omega), wr_id (by omega)]; exact e2), decide_eq_false e2]
          show _ = m_partnerAt_20 d w u k v (a + 0) (o + 1)
          rw [Int.add_zero]
  have key : ∀ (m : Nat) (v : Int) (g5 g6 : zV), 0 ≤ v → v + m = wds F (1 - w) → m_partnerAt_2 d w u k v g5 g6 = some (fi (fun v => ptn F w u v && decide (ahd F w u v = k)) v m, d) := by
    intro m
    induction m with
    | zero =>
      intro v g5 g6 v0 vm
      rw [m_partnerAt_2_e, n_words hF (by omega) (by omega), Option.bind_some]
      (try dsimp only)
      rw [if_pos (by rw [wr_id (by omega), wr_id (by omega)]; omega)]
      rfl
    | succ m ih =>
      intro v g5 g6 v0 vm
      have sv := sb v v0 (by omega)
      have al := ahd_le (F := F) (w := w) (u := u) (v := v) w40
      unfold fi
      rw [m_partnerAt_2_e, n_words hF (by omega) (by omega), Option.bind_some]
      (try dsimp only)
      rw [if_neg (by rw [wr_id (by omega), wr_id (by omega)]; omega), n_isPartner hF w0 w1 u0 u1 v0 (by omega) (by unfold I32; omega), Option.bind_some]
      (try dsimp only)
      cases hp : ptn F w u v
      · rw [if_neg (show ¬ wr (bi false) ≠ 0 from fun x => x rfl), ih (v + 1) _ _ (by omega) (by omega)]
        rfl
      · rw [if_pos (show wr (bi true) ≠ 0 from oz1), inner v v0 (by omega), m_partnerAt_20_e, n_words hF (by omega) (by omega), Option.bind_some]
        (try dsimp only)
        rw [if_pos (by rw [wr_id (by omega)]; omega), wr_id (x := ahd F w u v) (by omega), wr_id (x := k) (by omega)]
        by_cases e : ahd F w u v = k
        · rw [if_neg (fun x => x e), decide_eq_true e]
          rfl
        · rw [if_pos e, decide_eq_false e, ih (v + 1) _ _ (by omega) (by omega)]
          rfl
  rw [m_partnerAt_e]
  exact key (wds F (1 - w)).toNat 0 (3, 0) (3, 0) (by omega) (by omega)
theorem b_best (h : INV d F B T) {a b k c : Int} (ha : I32 a) (hb : I32 b) (hk : I32 k) (hc : I32 c) : BO d (fun d => wl_best d a b k c) (fun d => m_best d a b k c) := by
  have hk' := hk
  have hc' := hc
  unfold I32 at hk' hc'
  obtain ⟨A, hA⟩ : ∃ A : Int, A = (if (0 ≤ a ∧ a ≤ 1) ∧ (0 ≤ b ∧ b < wds F a) ∧ 0 ≤ k ∧ (0 ≤ c ∧ c ≤ 1) then (if rnkF F a b k = -1 then -4 else if c = 0 then rnkF F a b k else shr F a b (rnkF F a b k)) else -1) := ⟨_, rfl⟩
  refine BO_a A h ?_ (fun s hs => ?_)
  · (try dsimp only)
    rw [wl_best_e, kw_isSide ha, Option.bind_some]
    (try dsimp only)
    by_cases c1 : 0 ≤ a ∧ a ≤ 1
    · have w0 := h.wf.wds_ (s := a) c1.1 (by omega)
      have w1 := h.wf.wds_ (s := 1 - a) (by omega) (by omega)
      rw [bi_t c1, if_neg oz1, kc_word h.ci.ca ha hb, Option.bind_some]
      (try dsimp only)
      by_cases c2 : 0 ≤ b ∧ b < wds F a
      · rw [bi_t ⟨c1, c2⟩, if_neg oz1]
        by_cases c3 : 0 ≤ k
        · rw [if_neg (by rw [wr_id (by omega)]; omega)]
          by_cases c4 : 0 ≤ c ∧ c ≤ 1
          · have rl := rnk_le (F := F) (w := a) (u := b) (k := k) w1.1
            rw [if_neg (by rw [wr_id (by omega)]; omega), if_pos (by rw [wr_id (by omega), wr_id (by omega)]; omega), k_ranked h.ci c1.1 (by omega) c2.1 (by omega) hk, Option.bind_some]
            (try dsimp only)
            rcases rl with e | ⟨e0, e1, e2⟩
            · rw [if_neg (by rw [e, wr_id (by omega)]; omega)]
              exact Ok_ret ⟨by rw [hA, if_pos ⟨c1, c2, c3, c4⟩, if_pos e], qF.rf⟩
            · rw [if_pos (by rw [wr_id (by omega)]; exact e0)]
              by_cases c5 : c = 0
              · rw [if_neg (by rw [wr_id (by omega)]; exact fun x => x c5)]
                exact Ok_ret ⟨by rw [hA, if_pos ⟨c1, c2, c3, c4⟩, if_neg (fun x => by omega), if_pos c5], qF.rf⟩
              · have sh := k_shareOf (u := b) (v := rnkF F a b k) h.ci c1.1 (by omega) c2.1 (by omega) e0 (by omega)
                have ne : ¬ shr F a b (rnkF F a b k) = -1 := by
                  unfold ptn at e2
                  intro x
                  rw [decide_eq_true x] at e2
                  exact absurd e2 (by decide)
                have sh2 : st_shareOf d a b (rnkF F a b k) = some (shr F a b (rnkF F a b k), d) := by rw [sh, if_neg ne]
                rw [if_pos (by rw [wr_id (by omega)]; exact c5), sh2, Option.bind_some]
                exact Ok_ret ⟨by rw [hA, if_pos ⟨c1, c2, c3, c4⟩, if_neg (fun x => by omega), if_neg c5], qF.rf⟩
          · skip
            by_cases e : c < 0
            · rw [if_pos (by rw [wr_id (by omega)]; exact e)]
              exact Ok_ret ⟨by rw [hA, if_neg (fun x => c4 x.2.2.2)], qF.rf⟩
            · rw [if_neg (by rw [wr_id (by omega)]; exact e), if_neg (by rw [wr_id (by omega), wr_id (by omega)]; omega)]
              exact Ok_ret ⟨by rw [hA, if_neg (fun x => c4 x.2.2.2)], qF.rf⟩
        · rw [if_pos (by rw [wr_id (by omega)]; omega)]
          exact Ok_ret ⟨by rw [hA, if_neg (fun x => c3 x.2.2.1)], qF.rf⟩
      · rw [bi_f (fun x => c2 x.2), if_pos zz0]
        exact Ok_ret ⟨by rw [hA, if_neg (fun x => c2 x.2.1)], qF.rf⟩
    · rw [bi_f c1, if_pos zz0]
      exact Ok_ret ⟨by rw [hA, if_neg (fun x => c1 x.1)], qF.rf⟩
  · (try dsimp only)
    rw [m_best_e, n_isSide ha, Option.bind_some]
    (try dsimp only)
    by_cases c1 : 0 ≤ a ∧ a ≤ 1
    · have w0 := h.wf.wds_ (s := a) c1.1 (by omega)
      have w1 := h.wf.wds_ (s := 1 - a) (by omega) (by omega)
      rw [bi_t c1, if_neg oz1, n_isWord hs.f hs.wf c1.1 (by omega) hb, Option.bind_some]
      (try dsimp only)
      by_cases c2 : 0 ≤ b ∧ b < wds F a
      · rw [bi_t c2, if_neg oz1]
        by_cases c3 : 0 ≤ k
        · rw [if_neg (by rw [wr_id (by omega)]; omega), n_in (by unfold I32; omega), Option.bind_some]
          (try dsimp only)
          by_cases c4 : 0 ≤ c ∧ c ≤ 1
          · have rl := rnk_le (F := F) (w := a) (u := b) (k := k) w1.1
            rw [bi_t c4, if_pos oz1, n_partnerAt hs.f hs.wf c1.1 (by omega) c2.1 (by omega) hk, Option.bind_some]
            (try dsimp only)
            rcases rl with e | ⟨e0, e1, e2⟩
            · rw [if_neg (by rw [e]; exact fun x => x rfl)]
              exact Ok_ret ⟨by rw [hA, if_pos ⟨c1, c2, c3, c4⟩, if_pos e], rF.rf⟩
            · rw [if_pos (by rw [wr_id (by omega), wr_id (by omega)]; omega)]
              by_cases c5 : c = 0
              · rw [if_neg (by rw [wr_id (by omega)]; exact fun x => x c5)]
                exact Ok_ret ⟨by rw [hA, if_pos ⟨c1, c2, c3, c4⟩, if_neg (fun x => by omega), if_pos c5], rF.rf⟩
              · rw [if_pos (by rw [wr_id (by omega)]; exact c5), n_shareOf hs.f c1.1 (by omega) c2.1 (by omega) e0 (by omega), Option.bind_some]
                exact Ok_ret ⟨by rw [hA, if_pos ⟨c1, c2, c3, c4⟩, if_neg (fun x => by omega), if_neg c5], rF.rf⟩
          · rw [bi_f c4, if_neg (fun x => x zz0)]
            exact Ok_ret ⟨by rw [hA, if_neg (fun x => c4 x.2.2.2)], rF.rf⟩
        · rw [if_pos (by rw [wr_id (by omega)]; omega)]
          exact Ok_ret ⟨by rw [hA, if_neg (fun x => c3 x.2.2.1)], rF.rf⟩
      · rw [bi_f c2, if_pos zz0]
        exact Ok_ret ⟨by rw [hA, if_neg (fun x => c2 x.2.1)], rF.rf⟩
    · rw [bi_f c1, if_pos zz0]
      exact Ok_ret ⟨by rw [hA, if_neg (fun x => c1 x.1)], rF.rf⟩
def twF (F : Nat → Int) (u : Int) : Int := if 0 ≤ rnkF F 0 u 0 then (if rnkF F 1 (rnkF F 0 u 0) 0 = u then rnkF F 0 u 0 else -1) else -1
theorem twF_le {F : Nat → Int} {u : Int} (h : 0 ≤ wds F 1) : twF F u = -1 ∨ (0 ≤ twF F u ∧ twF F u < wds F 1) := by
  unfold twF
  have := rnk_le (F := F) (w := 0) (u := u) (k := 0) h
  split
  · split
    · rcases this with e | e
      · omega
      · exact Or.inr ⟨e.1, e.2.1⟩
    · exact Or.inl rfl
  · exact Or.inl rfl
theorem k_twinOf (h : CI d F) {u : Int} (u0 : 0 ≤ u) (u1 : u < wds F 0) : st_twinOf d u = some (twF F u, d) := by
  have w0 := h.wf.wds_ (s := 0) (by omega) (by omega)
  have w1 := h.wf.wds_ (s := 1) (by omega) (by omega)
  have I0 : I32 0 := by unfold I32; omega
  have rl := rnk_le (F := F) (w := 0) (u := u) (k := 0) w1.1
  rw [st_twinOf_e, k_ranked h (by omega) (by omega) u0 (by omega) I0, Option.bind_some]
  (try dsimp only)
  unfold twF
  by_cases c : 0 ≤ rnkF F 0 u 0
  · have c' : rnkF F 0 u 0 < 40 := by
      rcases rl with e | e
      · omega
      · have := e.2.1
        have e3 : wds F (1 - 0) = wds F 1 := rfl
        omega
    have rl2 := rnk_le (F := F) (w := 1) (u := rnkF F 0 u 0) (k := 0) w0.1
    have e4 : wds F (1 - 1) = wds F 0 := rfl
    rw [if_neg (by rw [wr_id (by omega)]; omega), if_pos c, k_ranked h (w := 1) (by omega) (by omega) c c' I0, Option.bind_some]
    (try dsimp only)
    rw [wr_id (by omega), wr_id (by omega)]
    by_cases e : rnkF F 1 (rnkF F 0 u 0) 0 = u
    · rw [if_neg (fun x => x e), if_pos e]
    · rw [if_pos e, if_neg e]
  · rw [if_pos (by rw [wr_id (by omega)]; omega), if_neg c]
theorem n_twinOf (hF : d.m 133 = F) (hw : WF F) {u : Int} (u0 : 0 ≤ u) (u1 : u < wds F 0) : m_twinOf d u = some (if 0 ≤ twF F u then twF F u else -2, d) := by
  have w0 := hw.wds_ (s := 0) (by omega) (by omega)
  have w1 := hw.wds_ (s := 1) (by omega) (by omega)
  have I0 : I32 0 := by unfold I32; omega
  have rl := rnk_le (F := F) (w := 0) (u := u) (k := 0) w1.1
  rw [m_twinOf_e, n_partnerAt hF hw (by omega) (by omega) u0 (by omega) I0, Option.bind_some]
  (try dsimp only)
  unfold twF
  by_cases c : 0 ≤ rnkF F 0 u 0
  · have c' : rnkF F 0 u 0 < 40 := by
      rcases rl with e | e
      · omega
      · have := e.2.1
        have e3 : wds F (1 - 0) = wds F 1 := rfl
        omega
    have rl2 := rnk_le (F := F) (w := 1) (u := rnkF F 0 u 0) (k := 0) w0.1
    have e4 : wds F (1 - 1) = wds F 0 := rfl
    rw [if_neg (by rw [wr_id (by omega), wr_id (by omega)]; omega), if_pos c, n_partnerAt hF hw (w := 1) (by omega) (by omega) c c' I0, Option.bind_some]
    (try dsimp only)
    rw [wr_id (by omega), wr_id (by omega)]
    by_cases e : rnkF F 1 (rnkF F 0 u 0) 0 = u
    · rw [if_neg (fun x => x e), if_pos e, if_pos c]
    · rw [if_pos e, if_neg e, if_neg (by omega)]
  · have e : rnkF F 0 u 0 = -1 := by omega
    rw [if_pos (by rw [e]), if_neg c, if_neg (by omega)]
noncomputable def twN (F : Nat → Int) : Int := sm (wds F 0) (fun u => if twF F u < 0 then 0 else 1)
theorem k_allTwins (h : CI d F) : wl_allTwins d = some (twN F, d) := by
  have w0 := h.wf.wds_ (s := 0) (by omega) (by omega)
  have w1 := h.wf.wds_ (s := 1) (by omega) (by omega)
  have y0 : zin 0 2 := of_eq_true (zinT (by omega))
  have e : wl_allTwins_4 d 0 0 = wl_allTwins_4 d (twN F) (wds F 0) := lpS (fun u a => wl_allTwins_4 d a u) (fun u => if twF F u < 0 then 0 else 1) (wds F 0) w0.1 (fun u a u0 u1 _ => by
    have tl := twF_le (F := F) (u := u) w1.1
    (try dsimp only)
    rw [wl_allTwins_4_e, if_pos y0, h.ca.wds_ (by omega) (by omega), if_neg (by rw [wr_id (by omega), wr_id (by omega)]; omega), k_twinOf h u0 u1, Option.bind_some]
    (try dsimp only)
    rw [wr_id (by omega)]
    by_cases c : twF F u < 0
    · rw [if_pos c, if_pos c, Int.add_zero]
    · rw [if_neg c, if_neg c])
  rw [wl_allTwins_e, e, wl_allTwins_4_e, if_pos y0, h.ca.wds_ (by omega) (by omega), if_pos (by omega)]
theorem n_twinsMany (hF : d.m 133 = F) (hw : WF F) : m_twinsMany d = some (twN F, d) := by
  have w0 := hw.wds_ (s := 0) (by omega) (by omega)
  have w1 := hw.wds_ (s := 1) (by omega) (by omega)
  have e : m_twinsMany_4 d 0 0 = m_twinsMany_4 d (twN F) (wds F 0) := lpS (fun u a => m_twinsMany_4 d a u) (fun u => if twF F u < 0 then 0 else 1) (wds F 0) w0.1 (fun u a u0 u1 _ => by
    have tl := twF_le (F := F) (u := u) w1.1
    (try dsimp only)
    rw [m_twinsMany_4_e, n_words hF (by omega) (by omega), Option.bind_some]
    (try dsimp only)
    rw [if_neg (by rw [wr_id (by omega), wr_id (by omega)]; omega), n_twinOf hF hw u0 u1, Option.bind_some]
    (try dsimp only)
    by_cases c : twF F u < 0
    · rw [if_neg (show ¬ 0 ≤ twF F u by omega), if_pos (by rw [wr_id (by omega)]; omega), if_pos c, Int.add_zero]
    · rw [if_pos (show 0 ≤ twF F u by omega), if_neg (by rw [wr_id (by omega)]; exact c), if_neg c])
  rw [m_twinsMany_e, e, m_twinsMany_4_e, n_words hF (by omega) (by omega), Option.bind_some]
  (try dsimp only)
  rw [if_pos (by omega)]
theorem b_twins (h : INV d F B T) {a : Int} (ha : I32 a) : BO d (fun d => wl_twins d a) (fun d => m_twins d a) := by
  have ha' := ha
  unfold I32 at ha'
  have w0 := h.wf.wds_ (s := 0) (by omega) (by omega)
  have w1 := h.wf.wds_ (s := 1) (by omega) (by omega)
  have I0 : I32 0 := by unfold I32; omega
  by_cases c0 : a = 0
  · refine BO_a (twN F) h ?_ (fun s hs => ?_)
    · (try dsimp only)
      rw [wl_twins_e, if_neg (by rw [c0]; exact fun x => x rfl), k_allTwins h.ci, Option.bind_some]
      exact Ok_ret ⟨rfl, qF.rf⟩
    · (try dsimp only)
      rw [m_twins_e, if_neg (by rw [c0]; exact fun x => x rfl), n_twinsMany hs.f hs.wf, Option.bind_some]
      exact Ok_ret ⟨rfl, rF.rf⟩
  · by_cases c1 : a < 10
    · refine BO_a (-1) h ?_ (fun s hs => ?_)
      · (try dsimp only)
        rw [wl_twins_e, if_pos (by rw [wr_id (by omega)]; exact c0), if_pos (by rw [wr_id (by omega), wr_id (by omega)]; exact c1)]
        exact Ok_ret ⟨rfl, qF.rf⟩
      · (try dsimp only)
        rw [m_twins_e, if_pos (by rw [wr_id (by omega)]; exact c0), if_pos (by rw [wr_id (by omega), wr_id (by omega)]; exact c1)]
        exact Ok_ret ⟨rfl, rF.rf⟩
    · have I10 : I32 (a - 10) := by unfold I32; omega
      by_cases c2 : 0 ≤ a - 10 ∧ a - 10 < wds F 0
      · have tl := twF_le (F := F) (u := a - 10) w1.1
        refine BO_a (if 0 ≤ twF F (a - 10) then twF F (a - 10) else -2) h ?_ (fun s hs => ?_)
        · (try dsimp only)
          rw [wl_twins_e, if_pos (by rw [wr_id (by omega)]; exact c0), if_neg (by rw [wr_id (by omega), wr_id (by omega)]; exact c1), kc_word h.ci.ca I0 I10, bi_t ⟨by omega, c2⟩, Option.bind_some]
          (try dsimp only)
          rw [if_pos oz1, k_twinOf h.ci c2.1 c2.2, Option.bind_some]
          (try dsimp only)
          by_cases e : 0 ≤ twF F (a - 10)
          · rw [if_pos (by rw [wr_id (by omega)]; exact e), if_pos e]
            exact Ok_ret ⟨rfl, qF.rf⟩
          · rw [if_neg (by rw [wr_id (by omega)]; exact e), if_neg e]
            exact Ok_ret ⟨rfl, qF.rf⟩
        · (try dsimp only)
          rw [m_twins_e, if_pos (by rw [wr_id (by omega)]; exact c0), if_neg (by rw [wr_id (by omega), wr_id (by omega)]; exact c1), n_isWord hs.f hs.wf (by omega) (by omega) I10, bi_t c2, Option.bind_some]
          (try dsimp only)
          rw [if_neg oz1, n_twinOf hs.f hs.wf c2.1 c2.2, Option.bind_some]
          exact Ok_ret ⟨rfl, rF.rf⟩
      · refine BO_a (-1) h ?_ (fun s hs => ?_)
        · (try dsimp only)
          rw [wl_twins_e, if_pos (by rw [wr_id (by omega)]; exact c0), if_neg (by rw [wr_id (by omega), wr_id (by omega)]; exact c1), kc_word h.ci.ca I0 I10, bi_f (fun x => c2 x.2), Option.bind_some]
          (try dsimp only)
          rw [if_neg (fun x => x zz0)]
          exact Ok_ret ⟨rfl, qF.rf⟩
        · (try dsimp only)
          rw [m_twins_e, if_pos (by rw [wr_id (by omega)]; exact c0), if_neg (by rw [wr_id (by omega), wr_id (by omega)]; exact c1), n_isWord hs.f hs.wf (by omega) (by omega) I10, bi_f c2, Option.bind_some]
          (try dsimp only)
          rw [if_pos zz0]
          exact Ok_ret ⟨rfl, rF.rf⟩
end
