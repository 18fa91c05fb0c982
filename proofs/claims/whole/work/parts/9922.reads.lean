/-! READING CALLS, both sides. -/
section
variable {P : zP} {d t : zD P} {F : Nat → Int} {B : Int → Int} {T : Int}
theorem zz0 : wr 0 = 0 := rfl
theorem oz1 : ¬ wr 1 = 0 := by rw [wr_id (by omega)]; omega
theorem b_near (h : INV d F B T) {a b : Int} (ha : I32 a) (hb : I32 b) : BO d (fun d => wl_near d a b) (fun d => m_near d a b) := by
  have hb' := hb
  unfold I32 at hb'
  by_cases c1 : 0 ≤ a ∧ a ≤ 1
  · by_cases c2 : 0 ≤ b ∧ b ≤ 7
    · have z2 : zin a 2 := of_eq_true (zinT (by omega))
      have z8 : zin b 8 := of_eq_true (zinT (by omega))
      have zf : zin ((8 + (8 * a)) + b) 18180 := of_eq_true (zinT (by omega))
      refine BO_a (ner F a b) h ?_ (fun s hs => ?_)
      · (try dsimp only)
        rw [wl_near_e, kw_isSide ha, bi_t c1, Option.bind_some]
        (try dsimp only)
        rw [if_neg oz1, if_neg (by rw [wr_id (by omega)]; omega), if_neg (by rw [wr_id (by omega), wr_id (by omega)]; omega), if_pos z2, if_pos z8, h.ci.ner_ c1.1 (by omega) c2.1 (by omega)]
        exact Ok_ret ⟨rfl, qF.rf⟩
      · (try dsimp only)
        rw [m_near_e, n_isSide ha, bi_t c1, Option.bind_some]
        (try dsimp only)
        rw [if_neg oz1, n_in (by unfold I32; omega), bi_t c2, Option.bind_some]
        (try dsimp only)
        rw [if_neg oz1, if_pos zf, hs.f]
        exact Ok_ret ⟨rfl, rF.rf⟩
    · refine BO_a (-1) h ?_ (fun s hs => ?_)
      · (try dsimp only)
        rw [wl_near_e, kw_isSide ha, bi_t c1, Option.bind_some]
        (try dsimp only)
        rw [if_neg oz1]
        by_cases e : b < 0
        · rw [if_pos (by rw [wr_id (by omega)]; omega)]
          exact Ok_ret ⟨rfl, qF.rf⟩
        · rw [if_neg (by rw [wr_id (by omega)]; omega), if_pos (by rw [wr_id (by omega), wr_id (by omega)]; omega)]
          exact Ok_ret ⟨rfl, qF.rf⟩
      · (try dsimp only)
        rw [m_near_e, n_isSide ha, bi_t c1, Option.bind_some]
        (try dsimp only)
        rw [if_neg oz1, n_in (by unfold I32; omega), bi_f c2, Option.bind_some]
        (try dsimp only)
        rw [if_pos zz0]
        exact Ok_ret ⟨rfl, rF.rf⟩
  · refine BO_a (-1) h ?_ (fun s hs => ?_)
    · (try dsimp only)
      rw [wl_near_e, kw_isSide ha, bi_f c1, Option.bind_some]
      (try dsimp only)
      rw [if_pos zz0]
      exact Ok_ret ⟨rfl, qF.rf⟩
    · (try dsimp only)
      rw [m_near_e, n_isSide ha, bi_f c1, Option.bind_some]
      (try dsimp only)
      rw [if_pos zz0]
      exact Ok_ret ⟨rfl, rF.rf⟩
theorem b_likeness (h : INV d F B T) {a b : Int} (ha : I32 a) (hb : I32 b) : BO d (fun d => wl_likeness d a b) (fun d => m_likeness d a b) := by
  have ha' := ha
  have hb' := hb
  unfold I32 at ha' hb'
  have I0 : I32 0 := by unfold I32; omega
  have I1 : I32 1 := by unfold I32; omega
  have w0 := h.wf.wds_ (s := 0) (by omega) (by omega)
  have w1 := h.wf.wds_ (s := 1) (by omega) (by omega)
  by_cases c1 : 0 ≤ a ∧ a < wds F 0
  · by_cases c2 : 0 ≤ b ∧ b < wds F 1
    · have za : zin a 40 := of_eq_true (zinT (by omega))
      have zb : zin b 40 := of_eq_true (zinT (by omega))
      have y0 : zin 0 2 := of_eq_true (zinT (by omega))
      have y1 : zin 1 2 := of_eq_true (zinT (by omega))
      refine BO_a (lik F a b) h ?_ (fun s hs => ?_)
      · (try dsimp only)
        rw [wl_likeness_e, kc_word h.ci.ca I0 ha, bi_t ⟨by omega, c1⟩, Option.bind_some]
        (try dsimp only)
        rw [if_neg oz1, kc_word h.ci.ca I1 hb, bi_t ⟨by omega, c2⟩, Option.bind_some]
        (try dsimp only)
        rw [if_pos oz1, if_pos y0, if_pos za, if_pos y1, if_pos zb, h.ci.ca.key_ (by omega) (by omega) c1.1 c1.2, h.ci.ca.key_ (by omega) (by omega) c2.1 c2.2, k_common0 h.wf c1.1 c1.2 c2.1 c2.2, Option.bind_some]
        exact Ok_ret ⟨rfl, qF.rf⟩
      · (try dsimp only)
        rw [m_likeness_e, n_isWord hs.f hs.wf (by omega) (by omega) ha, bi_t c1, Option.bind_some]
        (try dsimp only)
        rw [if_neg oz1, n_isWord hs.f hs.wf (by omega) (by omega) hb, bi_t c2, Option.bind_some]
        (try dsimp only)
        rw [if_neg oz1]
        refine Ok_bind (n_likenessOf hs.f hs.wf c1.1 c1.2 c2.1 c2.2) (fun v u f => ?_)
        exact Ok_ret ⟨f.1, f.2.r (by omega)⟩
    · refine BO_a (-1) h ?_ (fun s hs => ?_)
      · (try dsimp only)
        rw [wl_likeness_e, kc_word h.ci.ca I0 ha, bi_t ⟨by omega, c1⟩, Option.bind_some]
        (try dsimp only)
        rw [if_neg oz1, kc_word h.ci.ca I1 hb, bi_f (fun x => c2 x.2), Option.bind_some]
        (try dsimp only)
        rw [if_neg (fun x => x zz0)]
        exact Ok_ret ⟨rfl, qF.rf⟩
      · (try dsimp only)
        rw [m_likeness_e, n_isWord hs.f hs.wf (by omega) (by omega) ha, bi_t c1, Option.bind_some]
        (try dsimp only)
        rw [if_neg oz1, n_isWord hs.f hs.wf (by omega) (by omega) hb, bi_f c2, Option.bind_some]
        (try dsimp only)
        rw [if_pos zz0]
        exact Ok_ret ⟨rfl, rF.rf⟩
  · refine BO_a (-1) h ?_ (fun s hs => ?_)
    · (try dsimp only)
      rw [wl_likeness_e, kc_word h.ci.ca I0 ha, bi_f (fun x => c1 x.2), Option.bind_some]
      (try dsimp only)
      rw [if_pos zz0]
      exact Ok_ret ⟨rfl, qF.rf⟩
    · (try dsimp only)
      rw [m_likeness_e, n_isWord hs.f hs.wf (by omega) (by omega) ha, bi_f c1, Option.bind_some]
      (try dsimp only)
      rw [if_pos zz0]
      exact Ok_ret ⟨rfl, rF.rf⟩
theorem b_at (h : INV d F B T) {a b c : Int} (ha : I32 a) (hb : I32 b) (hc : I32 c) : BO d (fun d => wl_at d a b c) (fun d => m_at d a b c) := by
  have ha' := ha
  have hc' := hc
  unfold I32 at ha' hc'
  have p24 := h.wf.prs_
  obtain ⟨A, hA⟩ : ∃ A : Int, A = (if (0 ≤ a ∧ a < prs F) ∧ (0 ≤ b ∧ b ≤ 1) ∧ (0 ≤ c ∧ c ≤ 5) then (if c < lng F a b then wrd F a b c else -2) else -1) := ⟨_, rfl⟩
  refine BO_a A h ?_ (fun s hs => ?_)
  · (try dsimp only)
    rw [wl_at_e, kc_pair h.ci.ca ha, Option.bind_some]
    (try dsimp only)
    by_cases c1 : 0 ≤ a ∧ a < prs F
    · rw [bi_t c1, if_neg oz1, kw_isSide hb, Option.bind_some]
      (try dsimp only)
      by_cases c2 : 0 ≤ b ∧ b ≤ 1
      · have l := h.wf.lng_ (p := a) (s := b) c1.1 c1.2 c2.1 (by omega)
        have z2 : zin b 2 := of_eq_true (zinT (by omega))
        have z24 : zin a 24 := of_eq_true (zinT (by omega))
        rw [bi_t c2, if_neg oz1]
        by_cases e1 : c < 0
        · rw [if_pos (by rw [wr_id (by omega)]; omega)]
          exact Ok_ret ⟨by rw [hA, if_neg (fun x => by have := x.2.2; omega)], qF.rf⟩
        · rw [if_neg (by rw [wr_id (by omega)]; omega)]
          by_cases e2 : c < 6
          · rw [if_pos (by rw [wr_id (by omega), wr_id (by omega)]; omega), if_pos z2, if_pos z24, h.ci.ca.lng_ c2.1 (by omega) c1.1 c1.2]
            by_cases e3 : c < lng F a b
            · rw [if_neg (by rw [wr_id (by omega), wr_id (by omega)]; omega), k_wordAt h.ci.ca c2.1 (by omega) c1.1 c1.2 (by omega) e3, Option.bind_some]
              exact Ok_ret ⟨by rw [hA, if_pos ⟨c1, c2, by omega⟩, if_pos e3], qF.rf⟩
            · rw [if_pos (by rw [wr_id (by omega), wr_id (by omega)]; omega)]
              exact Ok_ret ⟨by rw [hA, if_pos ⟨c1, c2, by omega⟩, if_neg e3], qF.rf⟩
          · rw [if_neg (by rw [wr_id (by omega), wr_id (by omega)]; omega)]
            exact Ok_ret ⟨by rw [hA, if_neg (fun x => by have := x.2.2; omega)], qF.rf⟩
      · rw [bi_f c2, if_pos zz0]
        exact Ok_ret ⟨by rw [hA, if_neg (fun x => c2 x.2.1)], qF.rf⟩
    · rw [bi_f c1, if_pos zz0]
      exact Ok_ret ⟨by rw [hA, if_neg (fun x => c1 x.1)], qF.rf⟩
  · (try dsimp only)
    rw [m_at_e, n_isPair hs.f hs.wf ha, Option.bind_some]
    (try dsimp only)
    by_cases c1 : 0 ≤ a ∧ a < prs F
    · rw [bi_t c1, if_neg oz1, n_isSide hb, Option.bind_some]
      (try dsimp only)
      by_cases c2 : 0 ≤ b ∧ b ≤ 1
      · have l := h.wf.lng_ (p := a) (s := b) c1.1 c1.2 c2.1 (by omega)
        rw [bi_t c2, if_neg oz1, n_in (by unfold I32; omega), Option.bind_some]
        (try dsimp only)
        by_cases e2 : 0 ≤ c ∧ c ≤ 5
        · rw [bi_t e2, if_pos oz1, n_longOf hs.f c1.1 (by omega) c2.1 (by omega), Option.bind_some]
          (try dsimp only)
          by_cases e3 : c < lng F a b
          · rw [if_neg (by rw [wr_id (by omega), wr_id (by omega)]; omega), n_wordOf hs.f c1.1 (by omega) c2.1 (by omega) (by omega) (by omega), Option.bind_some]
            exact Ok_ret ⟨by rw [hA, if_pos ⟨c1, c2, e2⟩, if_pos e3], rF.rf⟩
          · rw [if_pos (by rw [wr_id (by omega), wr_id (by omega)]; omega)]
            exact Ok_ret ⟨by rw [hA, if_pos ⟨c1, c2, e2⟩, if_neg e3], rF.rf⟩
        · rw [bi_f e2, if_neg (fun x => x zz0)]
          exact Ok_ret ⟨by rw [hA, if_neg (fun x => e2 x.2.2)], rF.rf⟩
      · rw [bi_f c2, if_pos zz0]
        exact Ok_ret ⟨by rw [hA, if_neg (fun x => c2 x.2.1)], rF.rf⟩
    · rw [bi_f c1, if_pos zz0]
      exact Ok_ret ⟨by rw [hA, if_neg (fun x => c1 x.1)], rF.rf⟩
/-- words of both sides, the class's check -/
theorem n_areWords (hF : d.m 133 = F) (hw : WF F) {a b c : Int} (ha : I32 a) (hb : I32 b) (hc : I32 c) : m_areWords d a b c = some (bi (decide ((0 ≤ a ∧ a ≤ 1) ∧ (0 ≤ b ∧ b < wds F a) ∧ 0 ≤ c ∧ c < wds F (1 - a))), d) := by
  rw [m_areWords_e, n_isSide ha, Option.bind_some]
  (try dsimp only)
  by_cases c1 : 0 ≤ a ∧ a ≤ 1
  · rw [bi_t c1, if_neg oz1, n_isWord hF hw c1.1 (by omega) hb, Option.bind_some]
    (try dsimp only)
    by_cases c2 : 0 ≤ b ∧ b < wds F a
    · rw [bi_t c2, if_neg oz1, n_isWord hF hw (s := 1 - a) (by omega) (by omega) hc, Option.bind_some]
      (try dsimp only)
      by_cases c3 : 0 ≤ c ∧ c < wds F (1 - a)
      · rw [bi_t c3, if_neg oz1, bi_t ⟨c1, c2, c3⟩]
      · rw [bi_f c3, if_pos zz0, bi_f (fun x => c3 x.2.2)]
    · rw [bi_f c2, if_pos zz0, bi_f (fun x => c2 x.2.1)]
  · rw [bi_f c1, if_pos zz0, bi_f (fun x => c1 x.1)]
theorem b_share (h : INV d F B T) {a b c : Int} (ha : I32 a) (hb : I32 b) (hc : I32 c) : BO d (fun d => wl_share d a b c) (fun d => m_share d a b c) := by
  obtain ⟨A, hA⟩ : ∃ A : Int, A = (if (0 ≤ a ∧ a ≤ 1) ∧ (0 ≤ b ∧ b < wds F a) ∧ 0 ≤ c ∧ c < wds F (1 - a) then (if shr F a b c = -1 then -2 else shr F a b c) else -1) := ⟨_, rfl⟩
  refine BO_a A h ?_ (fun s hs => ?_)
  · (try dsimp only)
    rw [wl_share_e, kw_isSide ha, Option.bind_some]
    (try dsimp only)
    by_cases c1 : 0 ≤ a ∧ a ≤ 1
    · have I1 : I32 (1 - a) := by unfold I32; omega
      rw [bi_t c1, if_neg oz1, kc_word h.ci.ca ha hb, Option.bind_some]
      (try dsimp only)
      by_cases c2 : 0 ≤ b ∧ b < wds F a
      · rw [bi_t ⟨c1, c2⟩, if_neg oz1, kc_word h.ci.ca I1 hc, Option.bind_some]
        (try dsimp only)
        by_cases c3 : 0 ≤ c ∧ c < wds F (1 - a)
        · have w0 := h.wf.wds_ (s := a) c1.1 (by omega)
          have w1 := h.wf.wds_ (s := 1 - a) (by omega) (by omega)
          rw [bi_t ⟨by omega, c3⟩, if_pos oz1, k_arePartners h.ci.ca c1.1 (by omega) c2.1 (by omega) c3.1 (by omega), Option.bind_some]
          (try dsimp only)
          unfold ptn
          by_cases e : shr F a b c = -1
          · rw [if_pos (by rw [decide_eq_true e]; exact zz0)]
            exact Ok_ret ⟨by rw [hA, if_pos ⟨c1, c2, c3⟩, if_pos e], qF.rf⟩
          · have sh := k_shareOf (u := b) (v := c) h.ci c1.1 (by omega) c2.1 (by omega) c3.1 (by omega)
            rw [if_neg e] at sh
            rw [if_neg (by rw [decide_eq_false e]; exact oz1), sh, Option.bind_some]
            exact Ok_ret ⟨by rw [hA, if_pos ⟨c1, c2, c3⟩, if_neg e], qF.rf⟩
        · rw [bi_f (fun x => c3 x.2), if_neg (fun x => x zz0)]
          exact Ok_ret ⟨by rw [hA, if_neg (fun x => c3 x.2.2)], qF.rf⟩
      · rw [bi_f (fun x => c2 x.2), if_pos zz0]
        exact Ok_ret ⟨by rw [hA, if_neg (fun x => c2 x.2.1)], qF.rf⟩
    · rw [bi_f c1, if_pos zz0]
      exact Ok_ret ⟨by rw [hA, if_neg (fun x => c1 x.1)], qF.rf⟩
  · (try dsimp only)
    rw [m_share_e, n_areWords hs.f hs.wf ha hb hc, Option.bind_some]
    (try dsimp only)
    by_cases c1 : (0 ≤ a ∧ a ≤ 1) ∧ (0 ≤ b ∧ b < wds F a) ∧ 0 ≤ c ∧ c < wds F (1 - a)
    · have w0 := h.wf.wds_ (s := a) c1.1.1 (by omega)
      have w1 := h.wf.wds_ (s := 1 - a) (by omega) (by omega)
      have sb := h.wf.shr_ (w := a) (u := b) (v := c) c1.1.1 (by omega) c1.2.1.1 (by omega) c1.2.2.1 (by omega)
      rw [bi_t c1, if_pos oz1, n_isPartner hs.f c1.1.1 (by omega) c1.2.1.1 (by omega) c1.2.2.1 (by omega) (by unfold I32; omega), Option.bind_some]
      (try dsimp only)
      unfold ptn
      by_cases e : shr F a b c = -1
      · rw [if_pos (by rw [decide_eq_true e]; exact zz0)]
        exact Ok_ret ⟨by rw [hA, if_pos c1, if_pos e], rF.rf⟩
      · rw [if_neg (by rw [decide_eq_false e]; exact oz1), n_shareOf hs.f c1.1.1 (by omega) c1.2.1.1 (by omega) c1.2.2.1 (by omega), Option.bind_some]
        exact Ok_ret ⟨by rw [hA, if_pos c1, if_neg e], rF.rf⟩
    · rw [bi_f c1, if_neg (fun x => x zz0)]
      exact Ok_ret ⟨by rw [hA, if_neg c1], rF.rf⟩
theorem b_counted (h : INV d F B T) {a b c : Int} (ha : I32 a) (hb : I32 b) (hc : I32 c) : BO d (fun d => wl_counted d a b c) (fun d => m_counted d a b c) := by
  obtain ⟨A, hA⟩ : ∃ A : Int, A = (if (0 ≤ a ∧ a ≤ 1) ∧ (0 ≤ b ∧ b < wds F a) ∧ 0 ≤ c ∧ c < wds F (1 - a) then (if shr F a b c = -1 then -2 else (cnt F a).1 (40 * b + c)) else -1) := ⟨_, rfl⟩
  refine BO_a A h ?_ (fun s hs => ?_)
  · (try dsimp only)
    rw [wl_counted_e, kw_isSide ha, Option.bind_some]
    (try dsimp only)
    by_cases c1 : 0 ≤ a ∧ a ≤ 1
    · have I1 : I32 (1 - a) := by unfold I32; omega
      rw [bi_t c1, if_neg oz1, kc_word h.ci.ca ha hb, Option.bind_some]
      (try dsimp only)
      by_cases c2 : 0 ≤ b ∧ b < wds F a
      · rw [bi_t ⟨c1, c2⟩, if_neg oz1, kc_word h.ci.ca I1 hc, Option.bind_some]
        (try dsimp only)
        by_cases c3 : 0 ≤ c ∧ c < wds F (1 - a)
        · have w0 := h.wf.wds_ (s := a) c1.1 (by omega)
          have w1 := h.wf.wds_ (s := 1 - a) (by omega) (by omega)
          rw [bi_t ⟨by omega, c3⟩, if_pos oz1, k_arePartners h.ci.ca c1.1 (by omega) c2.1 (by omega) c3.1 (by omega), Option.bind_some]
          (try dsimp only)
          unfold ptn
          by_cases e : shr F a b c = -1
          · rw [if_neg (by rw [decide_eq_true e]; exact fun x => x zz0)]
            exact Ok_ret ⟨by rw [hA, if_pos ⟨c1, c2, c3⟩, if_pos e], qF.rf⟩
          · have z16 : zin ((b * 40) + c) 1600 := of_eq_true (zinT (by omega))
            rw [if_pos (by rw [decide_eq_false e]; exact oz1)]
            refine Ok_bind (k_countAll h.ci c1.1 (by omega)) (fun v u f => ?_)
            (try dsimp only)
            rw [if_pos z16]
            refine Ok_ret ⟨?_, f.1.q (by omega) (by omega)⟩
            rw [hA, if_pos ⟨c1, c2, c3⟩, if_neg e]
            have := f.2.1 (40 * b + c) (by omega) (by omega)
            rw [show b * 40 + c = 40 * b + c by omega]
            exact this
        · rw [bi_f (fun x => c3 x.2), if_neg (fun x => x zz0)]
          exact Ok_ret ⟨by rw [hA, if_neg (fun x => c3 x.2.2)], qF.rf⟩
      · rw [bi_f (fun x => c2 x.2), if_pos zz0]
        exact Ok_ret ⟨by rw [hA, if_neg (fun x => c2 x.2.1)], qF.rf⟩
    · rw [bi_f c1, if_pos zz0]
      exact Ok_ret ⟨by rw [hA, if_neg (fun x => c1 x.1)], qF.rf⟩
  · (try dsimp only)
    rw [m_counted_e, n_areWords hs.f hs.wf ha hb hc, Option.bind_some]
    (try dsimp only)
    by_cases c1 : (0 ≤ a ∧ a ≤ 1) ∧ (0 ≤ b ∧ b < wds F a) ∧ 0 ≤ c ∧ c < wds F (1 - a)
    · have w0 := h.wf.wds_ (s := a) c1.1.1 (by omega)
      have w1 := h.wf.wds_ (s := 1 - a) (by omega) (by omega)
      have sb := h.wf.shr_ (w := a) (u := b) (v := c) c1.1.1 (by omega) c1.2.1.1 (by omega) c1.2.2.1 (by omega)
      rw [bi_t c1, if_pos oz1, n_isPartner hs.f c1.1.1 (by omega) c1.2.1.1 (by omega) c1.2.2.1 (by omega) (by unfold I32; omega), Option.bind_some]
      (try dsimp only)
      unfold ptn
      by_cases e : shr F a b c = -1
      · rw [if_neg (by rw [decide_eq_true e]; exact fun x => x zz0)]
        exact Ok_ret ⟨by rw [hA, if_pos c1, if_pos e], rF.rf⟩
      · have z16 : zin ((40 * b) + c) 1600 := of_eq_true (zinT (by omega))
        rw [if_pos (by rw [decide_eq_false e]; exact oz1)]
        refine Ok_bind (n_counts hs.f hs.wf c1.1.1 (by omega)) (fun v u f => ?_)
        (try dsimp only)
        rw [if_pos z16]
        exact Ok_ret ⟨by rw [hA, if_pos c1, if_neg e]; exact f.2.1 (40 * b + c) (by omega) (by omega), f.1.r (by omega)⟩
    · rw [bi_f c1, if_neg (fun x => x zz0)]
      exact Ok_ret ⟨by rw [hA, if_neg c1], rF.rf⟩
theorem b_part (h : INV d F B T) {a b i j : Int} (ha : I32 a) (hb : I32 b) (hi : I32 i) (hj : I32 j) : BO d (fun d => wl_part d a b i j) (fun d => m_part d a b i j) := by
  have hb' := hb
  have hi' := hi
  have hj' := hj
  unfold I32 at hb' hi' hj'
  have p24 := h.wf.prs_
  obtain ⟨A, hA⟩ : ∃ A : Int, A = (if (0 ≤ a ∧ a ≤ 1) ∧ (0 ≤ b ∧ b < prs F) ∧ (0 ≤ i ∧ i < lng F b a) ∧ 0 ≤ j ∧ j < lng F b (1 - a) then pt (lng F b a) (fun i => wth F a b i j) i else -1) := ⟨_, rfl⟩
  refine BO_a A h ?_ (fun s hs => ?_)
  · (try dsimp only)
    rw [wl_part_e, kw_isSide ha, Option.bind_some]
    (try dsimp only)
    by_cases c1 : 0 ≤ a ∧ a ≤ 1
    · rw [bi_t c1, if_neg oz1, kc_place h.ci.ca c1.1 (by omega) hb hi, Option.bind_some]
      (try dsimp only)
      by_cases c2 : (0 ≤ b ∧ b < prs F) ∧ 0 ≤ i ∧ i < lng F b a
      · rw [bi_t c2, if_neg oz1, kc_place h.ci.ca (s := 1 - a) (by omega) (by omega) hb hj, Option.bind_some]
        (try dsimp only)
        by_cases c3 : 0 ≤ j ∧ j < lng F b (1 - a)
        · have l := h.wf.lng_ (p := b) (s := a) c2.1.1 c2.1.2 c1.1 (by omega)
          rw [bi_t ⟨c2.1, c3⟩, if_pos oz1]
          refine Ok_bind (k_partPlace h.ci c1.1 (by omega) c2.1.1 c2.1.2 c3.1 c3.2) (fun v u f => ?_)
          (try dsimp only)
          rw [k_got f.2.1 c2.2.1 c2.2.2 (by omega), Option.bind_some]
          exact Ok_ret ⟨by rw [hA, if_pos ⟨c1, c2.1, c2.2, c3⟩]; exact f.2.2 i c2.2.1 c2.2.2, f.1.q (by omega) (by omega)⟩
        · rw [bi_f (fun x => c3 x.2), if_neg (fun x => x zz0)]
          exact Ok_ret ⟨by rw [hA, if_neg (fun x => c3 x.2.2.2)], qF.rf⟩
      · rw [bi_f c2, if_pos zz0]
        exact Ok_ret ⟨by rw [hA, if_neg (fun x => c2 ⟨x.2.1, x.2.2.1⟩)], qF.rf⟩
    · rw [bi_f c1, if_pos zz0]
      exact Ok_ret ⟨by rw [hA, if_neg (fun x => c1 x.1)], qF.rf⟩
  · (try dsimp only)
    rw [m_part_e, n_isSide ha, Option.bind_some]
    (try dsimp only)
    by_cases c1 : 0 ≤ a ∧ a ≤ 1
    · rw [bi_t c1, if_neg oz1, n_isPair hs.f hs.wf hb, Option.bind_some]
      (try dsimp only)
      by_cases c2 : 0 ≤ b ∧ b < prs F
      · have l := h.wf.lng_ (p := b) (s := a) c2.1 c2.2 c1.1 (by omega)
        have l' := h.wf.lng_ (p := b) (s := 1 - a) c2.1 c2.2 (by omega) (by omega)
        rw [bi_t c2, if_neg oz1, n_longOf hs.f c2.1 (by omega) c1.1 (by omega), Option.bind_some]
        (try dsimp only)
        rw [n_in (by unfold I32; omega), Option.bind_some]
        (try dsimp only)
        by_cases c3 : 0 ≤ i ∧ i ≤ lng F b a - 1
        · rw [bi_t c3, if_neg oz1, n_longOf hs.f c2.1 (by omega) (s := 1 - a) (by omega) (by omega), Option.bind_some]
          (try dsimp only)
          rw [n_in (by unfold I32; omega), Option.bind_some]
          (try dsimp only)
          by_cases c4 : 0 ≤ j ∧ j ≤ lng F b (1 - a) - 1
          · have z40 : zin i 40 := of_eq_true (zinT (by omega))
            rw [bi_t c4, if_pos oz1]
            refine Ok_bind (n_partsPlaces hs.f hs.wf c1.1 (by omega) c2.1 c2.2 c4.1 (by omega)) (fun v u f => ?_)
            (try dsimp only)
            rw [if_pos z40]
            exact Ok_ret ⟨by rw [hA, if_pos ⟨c1, c2, by omega, by omega⟩]; exact f.2 i c3.1 (by omega), f.1.r (by omega)⟩
          · rw [bi_f c4, if_neg (fun x => x zz0)]
            exact Ok_ret ⟨by rw [hA, if_neg (fun x => c4 (by have := x.2.2.2; omega))], rF.rf⟩
        · rw [bi_f c3, if_pos zz0]
          exact Ok_ret ⟨by rw [hA, if_neg (fun x => c3 (by have := x.2.2.1; omega))], rF.rf⟩
      · rw [bi_f c2, if_pos zz0]
        exact Ok_ret ⟨by rw [hA, if_neg (fun x => c2 x.2.1)], rF.rf⟩
    · rw [bi_f c1, if_pos zz0]
      exact Ok_ret ⟨by rw [hA, if_neg (fun x => c1 x.1)], rF.rf⟩
end
