/-! WORD, both sides. -/
section
variable {P : zP} {d t : zD P} {F G : Nat → Int} {B : Int → Int} {T : Int}
/-- what the word brings, by number -/
noncomputable def woF (F : Nat → Int) (s u a : Int) : Int := if a = 0 then ltn F s u else if a = 1 then plN F s u else if a = 2 then ptC F s u else if a = 3 then rnkF F s u 0 else if a = 4 then shr F s u (rnkF F s u 0) else if a = 5 then emC F s u else if a = 6 then dcN F s u else if ltn F s u ≤ a - 10 then -4 else ltr F s u (a - 10)
theorem k_word1 (h : INV d F B T) {s u a : Int} (s0 : 0 ≤ s) (s1 : s < 2) (u0 : 0 ≤ u) (u1 : u < wds F s) (a0 : 0 ≤ a) (a6 : a ≤ 6) (g5 g6 g7 : zV) : Ok (wl_word_24 d s u a 0 g5 g6 g7) (fun v s' => v = woF F s u a ∧ qF d s') := by
  have hw := h.wf
  have wv := hw.wds_ s0 s1
  have y2 : zin s 2 := of_eq_true (zinT (by omega))
  have yu : zin u 40 := of_eq_true (zinT (by omega))
  have kk : key F s u = kof (ltn F s u) (fun k => ltr F s u k) := rfl
  rw [wl_word_24_e, if_pos y2, if_pos yu, if_pos zz0]
  unfold woF
  by_cases e0 : a = 0
  · rw [if_pos (by rw [e0]; exact zz0), if_pos e0, h.ci.ca.key_ s0 s1 u0 u1, kk, k_lettersOf (key_ok hw s0 s1 u0 u1), Option.bind_some]
    exact Ok_ret ⟨rfl, qF.rf⟩
  rw [if_neg (by rw [wr_id (by omega)]; exact e0), if_neg e0]
  by_cases e1 : a = 1
  · rw [if_pos (by rw [wr_id (by omega)]; exact e1), if_pos e1, k_placesOf h.ci.ca s0 s1 u0 (by omega), Option.bind_some]
    exact Ok_ret ⟨rfl, qF.rf⟩
  rw [if_neg (by rw [wr_id (by omega)]; exact e1), if_neg e1]
  by_cases e2 : a = 2
  · rw [if_pos (by rw [wr_id (by omega)]; exact e2), if_pos e2, if_pos y2, if_pos yu, k_partnersMany h.ci.ca h.2.2.2.2.2.1 s0 s1 u0 (by omega), Option.bind_some]
    exact Ok_ret ⟨rfl, qF.rf⟩
  rw [if_neg (by rw [wr_id (by omega)]; exact e2), if_neg e2]
  by_cases e3 : a = 3
  · rw [if_pos (by rw [wr_id (by omega)]; exact e3), if_pos e3, k_ranked h.ci s0 s1 u0 (by omega) (by unfold I32; omega), Option.bind_some]
    exact Ok_ret ⟨rfl, qF.rf⟩
  rw [if_neg (by rw [wr_id (by omega)]; exact e3), if_neg e3]
  by_cases e4 : a = 4
  · have r := rnk_0 hw h.2.2.2.2.2.1 s0 s1 u0 u1
    have w2 := hw.wds_ (s := 1 - s) (by omega) (by omega)
    have ne : ¬ shr F s u (rnkF F s u 0) = -1 := fun x => by
      rcases rnk_le (F := F) (w := s) (u := u) (k := 0) w2.1 with e | e
      · omega
      · have q := e.2.2
        rw [ptF_f x] at q
        exact absurd q (by decide)
    rw [if_pos (by rw [wr_id (by omega)]; exact e4), if_pos e4, k_ranked h.ci s0 s1 u0 (by omega) (by unfold I32; omega), Option.bind_some]
    (try dsimp only)
    rw [k_shareOf h.ci s0 s1 u0 (by omega) r.1 (by omega), Option.bind_some, if_neg ne]
    exact Ok_ret ⟨rfl, qF.rf⟩
  rw [if_neg (by rw [wr_id (by omega)]; exact e4), if_neg e4]
  by_cases e5 : a = 5
  · rw [if_pos (by rw [wr_id (by omega)]; exact e5), if_pos e5, k_emptyShares h.ci s0 s1 u0 (by omega), Option.bind_some]
    exact Ok_ret ⟨rfl, qF.rf⟩
  rw [if_neg (by rw [wr_id (by omega)]; exact e5), if_neg e5, if_pos (by omega), k_dict h.ci.ca s0 s1 u0 u1, Option.bind_some]
  exact Ok_ret ⟨rfl, qF.rf⟩
theorem b_word (h : INV d F B T) {s u a : Int} (hs : I32 s) (hu : I32 u) (ha : I32 a) : BO d (fun d => wl_word d s u a) (fun d => m_word d s u a) := by
  have ha' := ha
  unfold I32 at ha'
  have hw := h.wf
  by_cases c1 : 0 ≤ s ∧ s ≤ 1
  · have wv := hw.wds_ (s := s) c1.1 (by omega)
    by_cases c2 : 0 ≤ u ∧ u < wds F s
    · have kw : wl_isWord d s u = some (1, d) := by rw [kc_word h.ci.ca hs hu, bi_t ⟨c1, c2⟩]
      by_cases c3 : 0 ≤ a ∧ a ≤ 6
      · refine BO_a (woF F s u a) h ?_ (fun t ht => ?_)
        · (try dsimp only)
          rw [wl_word_e, if_pos (by rw [wr_id (by omega), wr_id (by omega)]; omega), wl_word_8_e, kw, Option.bind_some]
          (try dsimp only)
          rw [if_neg oz1, if_neg (fun x => x zz0), if_neg (by rw [wr_id (by omega)]; omega), if_pos (by rw [wr_id (by omega), wr_id (by omega)]; omega)]
          exact k_word1 h c1.1 (by omega) c2.1 c2.2 c3.1 c3.2 _ _ _
        · have u40 : u < 40 := by omega
          have s2 : s < 2 := by omega
          (try dsimp only)
          rw [m_word_e, n_isSide hs, bi_t c1, Option.bind_some]
          (try dsimp only)
          rw [if_neg oz1, n_isWord ht.f hw c1.1 s2 hu, bi_t c2, Option.bind_some]
          (try dsimp only)
          rw [if_neg oz1, n_in (by unfold I32; omega), bi_t c3, Option.bind_some]
          (try dsimp only)
          rw [if_pos oz1, if_pos (by rw [wr_id (by omega), wr_id (by omega)]; omega)]
          unfold woF
          by_cases e0 : a = 0
          · rw [if_pos (by rw [e0]; exact zz0), if_pos e0, n_lettersOf ht.f c1.1 s2 c2.1 u40, Option.bind_some]
            exact Ok_ret ⟨rfl, rF.rf⟩
          rw [if_neg (by rw [wr_id (by omega)]; exact e0), if_neg e0]
          by_cases e1 : a = 1
          · rw [if_pos (by rw [wr_id (by omega)]; exact e1), if_pos e1, n_standsIn ht.f hw c1.1 s2 c2.1 u40, Option.bind_some]
            exact Ok_ret ⟨rfl, rF.rf⟩
          rw [if_neg (by rw [wr_id (by omega)]; exact e1), if_neg e1]
          by_cases e2 : a = 2
          · rw [if_pos (by rw [wr_id (by omega)]; exact e2), if_pos e2, n_partners0 ht.f hw c1.1 s2 c2.1 u40, Option.bind_some]
            exact Ok_ret ⟨rfl, rF.rf⟩
          rw [if_neg (by rw [wr_id (by omega)]; exact e2), if_neg e2]
          by_cases e3 : a = 3
          · rw [if_pos (by rw [wr_id (by omega)]; exact e3), if_pos e3, n_partnerAt ht.f hw c1.1 s2 c2.1 u40 (by unfold I32; omega), Option.bind_some]
            exact Ok_ret ⟨rfl, rF.rf⟩
          rw [if_neg (by rw [wr_id (by omega)]; exact e3), if_neg e3]
          by_cases e4 : a = 4
          · have r := rnk_0 hw h.2.2.2.2.2.1 c1.1 s2 c2.1 c2.2
            have w2 := hw.wds_ (s := 1 - s) (by omega) (by omega)
            rw [if_pos (by rw [wr_id (by omega)]; exact e4), if_pos e4, n_partnerAt ht.f hw c1.1 s2 c2.1 u40 (by unfold I32; omega), Option.bind_some]
            (try dsimp only)
            rw [n_shareOf ht.f c1.1 s2 c2.1 u40 r.1 (by omega), Option.bind_some]
            exact Ok_ret ⟨rfl, rF.rf⟩
          rw [if_neg (by rw [wr_id (by omega)]; exact e4), if_neg e4]
          by_cases e5 : a = 5
          · rw [if_pos (by rw [wr_id (by omega)]; exact e5), if_pos e5, n_partners1 ht.f hw c1.1 s2 c2.1 u40, Option.bind_some]
            exact Ok_ret ⟨rfl, rF.rf⟩
          rw [if_neg (by rw [wr_id (by omega)]; exact e5), if_neg e5, if_pos (by omega), n_rankOf ht.f hw c1.1 s2 c2.1 c2.2, Option.bind_some]
          exact Ok_ret ⟨rfl, rF.rf⟩
      · by_cases c4 : 10 ≤ a ∧ a ≤ 16
        · have ok := key_ok hw c1.1 (show s < 2 by omega) c2.1 c2.2
          have kk : key F s u = kof (ltn F s u) (fun k => ltr F s u k) := rfl
          have nl := hw.ltn_ c1.1 (show s < 2 by omega) c2.1 c2.2
          refine BO_a (woF F s u a) h ?_ (fun t ht => ?_)
          · have y2 : zin s 2 := of_eq_true (zinT (by omega))
            have yu : zin u 40 := of_eq_true (zinT (by omega))
            (try dsimp only)
            rw [wl_word_e, if_neg (by rw [wr_id (by omega), wr_id (by omega)]; omega), if_neg (by rw [wr_id (by omega), wr_id (by omega)]; omega), kw, Option.bind_some]
            (try dsimp only)
            rw [if_neg oz1, if_pos oz1, wl_word_24_e, if_pos y2, if_pos yu, if_neg oz1, h.ci.ca.key_ c1.1 (by omega) c2.1 c2.2, kk, k_letterOf ok (by omega) (by omega), Option.bind_some]
            (try dsimp only)
            unfold woF
            rw [if_neg (show ¬ a = 0 by omega), if_neg (show ¬ a = 1 by omega), if_neg (show ¬ a = 2 by omega), if_neg (show ¬ a = 3 by omega), if_neg (show ¬ a = 4 by omega), if_neg (show ¬ a = 5 by omega), if_neg (show ¬ a = 6 by omega)]
            by_cases e : ltn F s u ≤ a - 10
            · rw [cg_z e, if_neg (fun x => x zz0), if_pos e]
              exact Ok_ret ⟨rfl, qF.rf⟩
            · have g := cg_pos ok (k := a - 10) (by omega) (by omega)
              have gl := cg_le ok (k := a - 10) (by omega)
              rw [if_pos (by rw [wr_id (by omega)]; omega), if_neg e]
              refine Ok_ret ⟨?_, qF.rf⟩
              have g1 := g.1
              (try dsimp only at g1)
              omega
          · have u40 : u < 40 := by omega
            have s2 : s < 2 := by omega
            (try dsimp only)
            rw [m_word_e, n_isSide hs, bi_t c1, Option.bind_some]
            (try dsimp only)
            rw [if_neg oz1, n_isWord ht.f hw c1.1 s2 hu, bi_t c2, Option.bind_some]
            (try dsimp only)
            rw [if_neg oz1, n_in (by unfold I32; omega), bi_f c3, Option.bind_some]
            (try dsimp only)
            rw [if_neg (fun x => x zz0), n_in (by unfold I32; omega), bi_t c4, Option.bind_some]
            (try dsimp only)
            rw [if_pos oz1, if_neg (by rw [wr_id (by omega), wr_id (by omega)]; omega), n_lettersOf ht.f c1.1 s2 c2.1 u40, Option.bind_some]
            (try dsimp only)
            unfold woF
            rw [if_neg (show ¬ a = 0 by omega), if_neg (show ¬ a = 1 by omega), if_neg (show ¬ a = 2 by omega), if_neg (show ¬ a = 3 by omega), if_neg (show ¬ a = 4 by omega), if_neg (show ¬ a = 5 by omega), if_neg (show ¬ a = 6 by omega)]
            by_cases e : ltn F s u ≤ a - 10
            · rw [if_pos (by rw [wr_id (by omega), wr_id (by omega)]; exact e), if_pos e]
              exact Ok_ret ⟨rfl, rF.rf⟩
            · rw [if_neg (by rw [wr_id (by omega), wr_id (by omega)]; exact e), n_letterOf ht.f c1.1 s2 c2.1 u40 (by omega) (by omega), Option.bind_some, if_neg e]
              exact Ok_ret ⟨rfl, rF.rf⟩
        · refine BO_a (-1) h ?_ (fun t ht => ?_)
          · have all : Ok (wl_word_8 d s u a (3, 0) (3, 0) (3, 0) (3, 0)) (fun v s' => v = -1 ∧ qF d s') := by
              rw [wl_word_8_e, kw, Option.bind_some]
              (try dsimp only)
              rw [if_neg oz1, if_neg (fun x => x zz0)]
              by_cases e : a < 0
              · rw [if_pos (by rw [wr_id (by omega)]; exact e), wl_word_22_e]
                exact Ok_ret ⟨rfl, qF.rf⟩
              · rw [if_neg (by rw [wr_id (by omega)]; exact e), if_neg (by rw [wr_id (by omega), wr_id (by omega)]; omega), wl_word_22_e]
                exact Ok_ret ⟨rfl, qF.rf⟩
            (try dsimp only)
            rw [wl_word_e]
            by_cases e : a < 10
            · rw [if_pos (by rw [wr_id (by omega), wr_id (by omega)]; exact e)]
              exact all
            · rw [if_neg (by rw [wr_id (by omega), wr_id (by omega)]; exact e), if_pos (by rw [wr_id (by omega), wr_id (by omega)]; omega)]
              exact all
          · (try dsimp only)
            rw [m_word_e, n_isSide hs, bi_t c1, Option.bind_some]
            (try dsimp only)
            rw [if_neg oz1, n_isWord ht.f hw c1.1 (by omega) hu, bi_t c2, Option.bind_some]
            (try dsimp only)
            rw [if_neg oz1, n_in (by unfold I32; omega), bi_f c3, Option.bind_some]
            (try dsimp only)
            rw [if_neg (fun x => x zz0), n_in (by unfold I32; omega), bi_f c4, Option.bind_some]
            (try dsimp only)
            rw [if_neg (fun x => x zz0)]
            exact Ok_ret ⟨rfl, rF.rf⟩
    · refine BO_a (-1) h ?_ (fun t ht => ?_)
      · have kw : wl_isWord d s u = some (0, d) := by rw [kc_word h.ci.ca hs hu, bi_f (fun x => c2 x.2)]
        (try dsimp only)
        rw [wl_word_e]
        have all : Ok (wl_word_8 d s u a (3, 0) (3, 0) (3, 0) (3, 0)) (fun v s' => v = -1 ∧ qF d s') := by
          rw [wl_word_8_e, kw, Option.bind_some]
          (try dsimp only)
          rw [if_pos zz0, wl_word_22_e]
          exact Ok_ret ⟨rfl, qF.rf⟩
        split
        · exact all
        · split
          · exact all
          · rw [kw, Option.bind_some]
            (try dsimp only)
            rw [if_pos zz0, wl_word_22_e]
            exact Ok_ret ⟨rfl, qF.rf⟩
      · (try dsimp only)
        rw [m_word_e, n_isSide hs, bi_t c1, Option.bind_some]
        (try dsimp only)
        rw [if_neg oz1, n_isWord ht.f hw c1.1 (by omega) hu, bi_f c2, Option.bind_some]
        (try dsimp only)
        rw [if_pos zz0]
        exact Ok_ret ⟨rfl, rF.rf⟩
  · refine BO_a (-1) h ?_ (fun t ht => ?_)
    · have kw : wl_isWord d s u = some (0, d) := by rw [kc_word h.ci.ca hs hu, bi_f (fun x => c1 x.1)]
      (try dsimp only)
      rw [wl_word_e]
      have all : Ok (wl_word_8 d s u a (3, 0) (3, 0) (3, 0) (3, 0)) (fun v s' => v = -1 ∧ qF d s') := by
        rw [wl_word_8_e, kw, Option.bind_some]
        (try dsimp only)
        rw [if_pos zz0, wl_word_22_e]
        exact Ok_ret ⟨rfl, qF.rf⟩
      split
      · exact all
      · split
        · exact all
        · rw [kw, Option.bind_some]
          (try dsimp only)
          rw [if_pos zz0, wl_word_22_e]
          exact Ok_ret ⟨rfl, qF.rf⟩
    · (try dsimp only)
      rw [m_word_e, n_isSide hs, bi_f c1, Option.bind_some]
      (try dsimp only)
      rw [if_pos zz0]
      exact Ok_ret ⟨rfl, rF.rf⟩
end
