/-! READING CALLS, both sides: links and what is read of them. -/
section
variable {P : zP} {d t : zD P} {F : Nat → Int} {B : Int → Int} {T : Int}
theorem b_links (h : INV d F B T) {a b i : Int} (ha : I32 a) (hb : I32 b) (hi : I32 i) : BO d (fun d => wl_links d a b i) (fun d => m_links d a b i) := by
  have hi' := hi
  unfold I32 at hi'
  have p24 := h.wf.prs_
  obtain ⟨A, hA⟩ : ∃ A : Int, A = (if (0 ≤ a ∧ a ≤ 5) ∧ (0 ≤ b ∧ b < prs F) ∧ 0 ≤ i ∧ i < lng F b 0 then lk F a b i else -1) := ⟨_, rfl⟩
  refine BO_a A h ?_ (fun s hs => ?_)
  · (try dsimp only)
    rw [wl_links_e, kw_isKind ha, Option.bind_some]
    (try dsimp only)
    by_cases c1 : 0 ≤ a ∧ a ≤ 5
    · rw [bi_t c1, if_neg oz1, kc_place h.ci.ca (s := 0) (by omega) (by omega) hb hi, Option.bind_some]
      (try dsimp only)
      by_cases c2 : (0 ≤ b ∧ b < prs F) ∧ 0 ≤ i ∧ i < lng F b 0
      · have l := h.wf.lng_ (p := b) (s := 0) c2.1.1 c2.1.2 (by omega) (by omega)
        have z6 : zin i 6 := of_eq_true (zinT (by omega))
        rw [bi_t c2, if_pos oz1]
        refine Ok_bind (k_make h.ci c1.1 c1.2 c2.1.1 c2.1.2) (fun v u f => ?_)
        (try dsimp only)
        rw [if_pos z6]
        exact Ok_ret ⟨by rw [hA, if_pos ⟨c1, c2⟩]; exact f.2.2.2.2.2.2.2.2 i c2.2.1 (by omega), f.1.q (by omega) (by omega)⟩
      · rw [bi_f c2, if_neg (fun x => x zz0)]
        exact Ok_ret ⟨by rw [hA, if_neg (fun x => c2 x.2)], qF.rf⟩
    · rw [bi_f c1, if_pos zz0]
      exact Ok_ret ⟨by rw [hA, if_neg (fun x => c1 x.1)], qF.rf⟩
  · (try dsimp only)
    rw [m_links_e, n_isKind ha, Option.bind_some]
    (try dsimp only)
    by_cases c1 : 0 ≤ a ∧ a ≤ 5
    · rw [bi_t c1, if_neg oz1, n_isPair hs.f hs.wf hb, Option.bind_some]
      (try dsimp only)
      by_cases c2 : 0 ≤ b ∧ b < prs F
      · have l := h.wf.lng_ (p := b) (s := 0) c2.1 c2.2 (by omega) (by omega)
        rw [bi_t c2, if_neg oz1, n_longOf hs.f c2.1 (by omega) (by omega) (by omega), Option.bind_some]
        (try dsimp only)
        rw [n_in (by unfold I32; omega), Option.bind_some]
        (try dsimp only)
        by_cases c3 : 0 ≤ i ∧ i ≤ lng F b 0 - 1
        · have z6 : zin i 6 := of_eq_true (zinT (by omega))
          rw [bi_t c3, if_pos oz1]
          refine Ok_bind (n_findsLinks hs.f hs.wf c1.1 c1.2 c2.1 c2.2) (fun v u f => ?_)
          (try dsimp only)
          rw [if_pos z6]
          exact Ok_ret ⟨by rw [hA, if_pos ⟨c1, c2, by omega⟩]; exact f.2.2.2.2.2.2 i c3.1 (by omega), f.1.r (by omega)⟩
        · rw [bi_f c3, if_neg (fun x => x zz0)]
          exact Ok_ret ⟨by rw [hA, if_neg (fun x => c3 (by have := x.2.2; omega))], rF.rf⟩
      · rw [bi_f c2, if_pos zz0]
        exact Ok_ret ⟨by rw [hA, if_neg (fun x => c2 x.2.1)], rF.rf⟩
    · rw [bi_f c1, if_pos zz0]
      exact Ok_ret ⟨by rw [hA, if_neg (fun x => c1 x.1)], rF.rf⟩
/-- all links of a kind -/
noncomputable def alN (F : Nat → Int) (kind : Int) : Int := sm (prs F) (fun p => tot (lk F kind p))
theorem k_allLinks (hc : CI d F) {kind : Int} (hk : 0 ≤ kind ∧ kind ≤ 5) : Ok (wl_allLinks d kind) (fun v s => v = alN F kind ∧ Fr 115 120 d s) := by
  have p24 := hc.wf.prs_
  rw [wl_allLinks_e]
  refine lpM (fun p s (y : Int) => wl_allLinks_4 s kind y p) (fun p s y => Fr 115 120 d s ∧ y = sm p (fun p => tot (lk F kind p)) ∧ 0 ≤ y ∧ y ≤ 36 * p) 0 (prs F) p24.1 d 0 ⟨Fr.rf, rfl, by omega, by omega⟩ (fun s y hi => ?_) (fun p s y p0 p1 hi hnext => ?_)
  · have ci : CI s F := hc.Fr hi.1 (by omega)
    (try dsimp only)
    rw [wl_allLinks_4_e, ci.ca.prs_, if_pos (by omega)]
    exact Ok_ret ⟨hi.2.1, hi.1⟩
  · have ci : CI s F := hc.Fr hi.1 (by omega)
    (try dsimp only)
    rw [wl_allLinks_4_e, ci.ca.prs_, if_neg (by rw [wr_id (by omega), wr_id (by omega)]; omega)]
    refine Ok_bind (k_make ci hk.1 hk.2 p0 p1) (fun v u f => ?_)
    have tl := tot_le (lk F kind p)
    (try dsimp only)
    rw [k_size f.2, Option.bind_some]
    refine hnext _ _ ⟨hi.1.tr f.1, ?_, ?_, ?_⟩
    · rw [sm_s _ p0, hi.2.1]
    · (try dsimp only); omega
    · (try dsimp only); omega
theorem n_allLinks (hF : d.m 133 = F) (hw : WF F) {kind : Int} (hk : 0 ≤ kind ∧ kind ≤ 5) : Ok (m_allLinks d kind) (fun v s => v = alN F kind ∧ Fr 149 152 d s) := by
  have p24 := hw.prs_
  have y0 : zin 0 18180 := of_eq_true (zinT (by omega))
  have eF : F (zix 0) = prs F := rfl
  rw [m_allLinks_e]
  refine lpM (fun p s (y : Int) => m_allLinks_4 s kind y p) (fun p s y => Fr 149 152 d s ∧ y = sm p (fun p => tot (lk F kind p))) 0 (prs F) p24.1 d 0 ⟨Fr.rf, rfl⟩ (fun s y hi => ?_) (fun p s y p0 p1 hi hnext => ?_)
  · have sF : s.m 133 = F := by rw [hi.1 133 (by omega)]; exact hF
    (try dsimp only)
    rw [m_allLinks_4_e, if_pos y0, sF, eF, if_pos (by omega)]
    exact Ok_ret ⟨hi.2, hi.1⟩
  · have sF : s.m 133 = F := by rw [hi.1 133 (by omega)]; exact hF
    (try dsimp only)
    rw [m_allLinks_4_e, if_pos y0, sF, eF, if_neg (by rw [wr_id (by omega), wr_id (by omega)]; omega)]
    refine Ok_bind (n_findsLinks sF hw hk.1 hk.2 p0 p1) (fun v u f => ?_)
    (try dsimp only)
    rw [n_linksMany f.2, Option.bind_some]
    refine hnext _ _ ⟨hi.1.tr f.1, ?_⟩
    rw [sm_s _ p0, hi.2]
theorem b_linked (h : INV d F B T) {a b : Int} (ha : I32 a) (hb : I32 b) : BO d (fun d => wl_linked d a b) (fun d => m_linked d a b) := by
  have hb' := hb
  unfold I32 at hb'
  have p24 := h.wf.prs_
  obtain ⟨A, hA⟩ : ∃ A : Int, A = (if (0 ≤ a ∧ a ≤ 5) then (if b = -1 then alN F a else if (0 ≤ b ∧ b < prs F) then tot (lk F a b) else -2) else -2) := ⟨_, rfl⟩
  refine BO_a A h ?_ (fun s hs => ?_)
  · (try dsimp only)
    rw [wl_linked_e, kw_isKind ha, Option.bind_some]
    (try dsimp only)
    by_cases c1 : 0 ≤ a ∧ a ≤ 5
    · rw [bi_t c1, if_neg oz1]
      by_cases c2 : b = -1
      · rw [if_pos (by rw [c2]), if_neg (by rw [c2]; exact fun x => x rfl)]
        refine Ok_bind (k_allLinks h.ci c1) (fun v u f => ?_)
        exact Ok_ret ⟨by rw [hA, if_pos c1, if_pos c2]; exact f.1, f.2.q (by omega) (by omega)⟩
      · rw [if_neg (by rw [wr_id (by omega), wr_id (by omega)]; exact c2), kc_pair h.ci.ca hb, Option.bind_some]
        (try dsimp only)
        by_cases c3 : 0 ≤ b ∧ b < prs F
        · rw [bi_t c3, if_pos oz1, if_pos (by rw [wr_id (by omega), wr_id (by omega)]; exact c2)]
          refine Ok_bind (k_make h.ci c1.1 c1.2 c3.1 c3.2) (fun v u f => ?_)
          (try dsimp only)
          rw [k_size f.2, Option.bind_some]
          exact Ok_ret ⟨by rw [hA, if_pos c1, if_neg c2, if_pos c3], f.1.q (by omega) (by omega)⟩
        · rw [bi_f c3, if_neg (fun x => x zz0)]
          exact Ok_ret ⟨by rw [hA, if_pos c1, if_neg c2, if_neg c3], qF.rf⟩
    · rw [bi_f c1, if_pos zz0]
      exact Ok_ret ⟨by rw [hA, if_neg c1], qF.rf⟩
  · (try dsimp only)
    rw [m_linked_e, n_isKind ha, Option.bind_some]
    (try dsimp only)
    by_cases c1 : 0 ≤ a ∧ a ≤ 5
    · rw [bi_t c1, if_neg oz1]
      by_cases c2 : b = -1
      · rw [if_pos (by rw [c2]), if_neg (by rw [c2]; exact fun x => x rfl)]
        refine Ok_bind (n_allLinks hs.f hs.wf c1) (fun v u f => ?_)
        exact Ok_ret ⟨by rw [hA, if_pos c1, if_pos c2]; exact f.1, f.2.r (by omega)⟩
      · rw [if_neg (by rw [wr_id (by omega), wr_id (by omega)]; exact c2), n_isPair hs.f hs.wf hb, Option.bind_some]
        (try dsimp only)
        by_cases c3 : 0 ≤ b ∧ b < prs F
        · rw [bi_t c3, if_pos oz1, if_pos (by rw [wr_id (by omega), wr_id (by omega)]; exact c2)]
          refine Ok_bind (n_findsLinks hs.f hs.wf c1.1 c1.2 c3.1 c3.2) (fun v u f => ?_)
          (try dsimp only)
          rw [n_linksMany f.2, Option.bind_some]
          exact Ok_ret ⟨by rw [hA, if_pos c1, if_neg c2, if_pos c3], f.1.r (by omega)⟩
        · rw [bi_f c3, if_neg (fun x => x zz0)]
          exact Ok_ret ⟨by rw [hA, if_pos c1, if_neg c2, if_neg c3], rF.rf⟩
    · rw [bi_f c1, if_pos zz0]
      exact Ok_ret ⟨by rw [hA, if_neg c1], rF.rf⟩
theorem b_pair (h : INV d F B T) {a b c : Int} (ha : I32 a) (hb : I32 b) (hc : I32 c) : BO d (fun d => wl_pair d a b c) (fun d => m_pair d a b c) := by
  have hc' := hc
  unfold I32 at hc'
  have p24 := h.wf.prs_
  obtain ⟨A, hA⟩ : ∃ A : Int, A = (if (0 ≤ a ∧ a ≤ 5) ∧ (0 ≤ b ∧ b < prs F) ∧ 0 ≤ c ∧ c ≤ 3 then (if c = 0 then bxN (lk F a b) (lng F b 0) (lng F b 1) 18 else if c = 1 then brr (lk F a b) (lng F b 0) else if c = 2 then zbin 3 (zbin 6 1 (lng F b 1) - 1) (zbin 5 (colw (lk F a b) (lng F b 0)) (-1)) else crs (lk F a b)) else -1) := ⟨_, rfl⟩
  refine BO_a A h ?_ (fun s hs => ?_)
  · (try dsimp only)
    rw [wl_pair_e, kw_isKind ha, Option.bind_some]
    (try dsimp only)
    by_cases c1 : 0 ≤ a ∧ a ≤ 5
    · rw [bi_t c1, if_neg oz1, kc_pair h.ci.ca hb, Option.bind_some]
      (try dsimp only)
      by_cases c2 : 0 ≤ b ∧ b < prs F
      · rw [bi_t c2, if_neg oz1]
        by_cases c3 : 0 ≤ c ∧ c ≤ 3
        · rw [if_neg (by rw [wr_id (by omega)]; omega), if_pos (by rw [wr_id (by omega), wr_id (by omega)]; omega)]
          refine Ok_bind (k_make h.ci c1.1 c1.2 c2.1 c2.2) (fun v u f => ?_)
          (try dsimp only)
          by_cases e0 : c = 0
          · rw [if_pos (by rw [wr_id (by omega)]; exact e0), k_boxes f.2, Option.bind_some]
            exact Ok_ret ⟨by rw [hA, if_pos ⟨c1, c2, c3⟩, if_pos e0], f.1.q (by omega) (by omega)⟩
          · rw [if_neg (by rw [wr_id (by omega)]; exact e0)]
            by_cases e1 : c = 1
            · rw [if_pos (by first | (rw [wr_id (by omega)]; exact e1) | (rw [wr_id (by omega), wr_id (by omega)]; exact e1)), k_bareRows f.2, Option.bind_some]
              exact Ok_ret ⟨by rw [hA, if_pos ⟨c1, c2, c3⟩, if_neg e0, if_pos e1], f.1.q (by omega) (by omega)⟩
            · rw [if_neg (by first | (rw [wr_id (by omega)]; exact e1) | (rw [wr_id (by omega), wr_id (by omega)]; exact e1))]
              by_cases e2 : c = 2
              · rw [if_pos (by first | (rw [wr_id (by omega)]; exact e2) | (rw [wr_id (by omega), wr_id (by omega)]; exact e2)), k_bareColumns f.2, Option.bind_some]
                exact Ok_ret ⟨by rw [hA, if_pos ⟨c1, c2, c3⟩, if_neg e0, if_neg e1, if_pos e2], f.1.q (by omega) (by omega)⟩
              · rw [if_neg (by first | (rw [wr_id (by omega)]; exact e2) | (rw [wr_id (by omega), wr_id (by omega)]; exact e2)), k_crossings f.2, Option.bind_some]
                exact Ok_ret ⟨by rw [hA, if_pos ⟨c1, c2, c3⟩, if_neg e0, if_neg e1, if_neg e2], f.1.q (by omega) (by omega)⟩
        · skip
          by_cases e : c < 0
          · rw [if_pos (by rw [wr_id (by omega)]; exact e)]
            exact Ok_ret ⟨by rw [hA, if_neg (fun x => c3 x.2.2)], qF.rf⟩
          · rw [if_neg (by rw [wr_id (by omega)]; exact e), if_neg (by rw [wr_id (by omega), wr_id (by omega)]; omega)]
            exact Ok_ret ⟨by rw [hA, if_neg (fun x => c3 x.2.2)], qF.rf⟩
      · rw [bi_f c2, if_pos zz0]
        exact Ok_ret ⟨by rw [hA, if_neg (fun x => c2 x.2.1)], qF.rf⟩
    · rw [bi_f c1, if_pos zz0]
      exact Ok_ret ⟨by rw [hA, if_neg (fun x => c1 x.1)], qF.rf⟩
  · (try dsimp only)
    rw [m_pair_e, n_isKind ha, Option.bind_some]
    (try dsimp only)
    by_cases c1 : 0 ≤ a ∧ a ≤ 5
    · rw [bi_t c1, if_neg oz1, n_isPair hs.f hs.wf hb, Option.bind_some]
      (try dsimp only)
      by_cases c2 : 0 ≤ b ∧ b < prs F
      · rw [bi_t c2, if_neg oz1, n_in (by unfold I32; omega), Option.bind_some]
        (try dsimp only)
        by_cases c3 : 0 ≤ c ∧ c ≤ 3
        · rw [bi_t c3, if_pos oz1]
          refine Ok_bind (n_findsLinks hs.f hs.wf c1.1 c1.2 c2.1 c2.2) (fun v u f => ?_)
          have uF : u.m 133 = F := by rw [f.1 133 (by omega)]; exact hs.f
          have m6 := f.2.2.1
          (try dsimp only)
          by_cases e0 : c = 0
          · rw [if_neg (by rw [wr_id (by omega)]; exact fun x => x e0), n_boxes f.2 uF c2.1 (by omega) rfl rfl, Option.bind_some]
            exact Ok_ret ⟨by rw [hA, if_pos ⟨c1, c2, c3⟩, if_pos e0], f.1.r (by omega)⟩
          · rw [if_pos (by rw [wr_id (by omega)]; exact e0)]
            by_cases e1 : c = 1
            · rw [if_neg (by rw [wr_id (by omega), wr_id (by omega)]; exact fun x => x e1), n_bare f.2 uF c2.1 (by omega) rfl, Option.bind_some]
              exact Ok_ret ⟨by rw [hA, if_pos ⟨c1, c2, c3⟩, if_neg e0, if_pos e1], f.1.r (by omega)⟩
            · rw [if_pos (by first | (rw [wr_id (by omega)]; exact e1) | (rw [wr_id (by omega), wr_id (by omega)]; exact e1))]
              by_cases e2 : c = 2
              · rw [if_neg (by rw [wr_id (by omega), wr_id (by omega)]; exact fun x => x e2), n_longOf uF c2.1 (by omega) (by omega) (by omega), Option.bind_some]
                (try dsimp only)
                rw [n_linkedTo f.2, Option.bind_some]
                exact Ok_ret ⟨by rw [hA, if_pos ⟨c1, c2, c3⟩, if_neg e0, if_neg e1, if_pos e2], f.1.r (by omega)⟩
              · rw [if_pos (by first | (rw [wr_id (by omega)]; exact e2) | (rw [wr_id (by omega), wr_id (by omega)]; exact e2)), n_crossed f.2, Option.bind_some]
                exact Ok_ret ⟨by rw [hA, if_pos ⟨c1, c2, c3⟩, if_neg e0, if_neg e1, if_neg e2], f.1.r (by omega)⟩
        · rw [bi_f c3, if_neg (fun x => x zz0)]
          exact Ok_ret ⟨by rw [hA, if_neg (fun x => c3 x.2.2)], rF.rf⟩
      · rw [bi_f c2, if_pos zz0]
        exact Ok_ret ⟨by rw [hA, if_neg (fun x => c2 x.2.1)], rF.rf⟩
    · rw [bi_f c1, if_pos zz0]
      exact Ok_ret ⟨by rw [hA, if_neg (fun x => c1 x.1)], rF.rf⟩
theorem b_cut (h : INV d F B T) {a b c : Int} (ha : I32 a) (hb : I32 b) (hc : I32 c) : BO d (fun d => wl_cut d a b c) (fun d => m_cut d a b c) := by
  have hc' := hc
  unfold I32 at hc'
  have p24 := h.wf.prs_
  obtain ⟨A, hA⟩ : ∃ A : Int, A = (if (0 ≤ a ∧ a ≤ 5) ∧ (0 ≤ b ∧ b < prs F) ∧ 0 ≤ c ∧ c ≤ 2 then (if 2 ≤ lng F b 0 ∧ 2 ≤ lng F b 1 then (if c = 0 then (ctI (lk F a b) (lng F b 0) (lng F b 1) (lng F b 0)).1 else if c = 1 then (ctI (lk F a b) (lng F b 0) (lng F b 1) (lng F b 0)).2.1 else (ctI (lk F a b) (lng F b 0) (lng F b 1) (lng F b 0)).2.2) else -2) else -1) := ⟨_, rfl⟩
  refine BO_a A h ?_ (fun s hs => ?_)
  · (try dsimp only)
    rw [wl_cut_e, kw_isKind ha, Option.bind_some]
    (try dsimp only)
    by_cases c1 : 0 ≤ a ∧ a ≤ 5
    · rw [bi_t c1, if_neg oz1, kc_pair h.ci.ca hb, Option.bind_some]
      (try dsimp only)
      by_cases c2 : 0 ≤ b ∧ b < prs F
      · rw [bi_t c2, if_neg oz1]
        by_cases c3 : 0 ≤ c ∧ c ≤ 2
        · rw [if_neg (by rw [wr_id (by omega)]; omega), if_pos (by rw [wr_id (by omega), wr_id (by omega)]; omega)]
          refine Ok_bind (k_make h.ci c1.1 c1.2 c2.1 c2.2) (fun v u f => ?_)
          (try dsimp only)
          refine Ok_bind (k_findCut f.2) (fun v2 u2 f2 => ?_)
          obtain ⟨f2a, f2b, f2c⟩ := f2
          have fq : qF d u2 := (f.1.q (by omega) (by omega)).tr (f2a.q (by omega) (by omega))
          (try dsimp only)
          rw [f2b]
          by_cases cl : 2 ≤ lng F b 0 ∧ 2 ≤ lng F b 1
          · have g := f2c cl
            rw [bi_t cl, if_pos oz1]
            by_cases e0 : c = 0
            · rw [if_pos (by rw [wr_id (by omega)]; exact e0)]
              exact Ok_ret ⟨by rw [hA, if_pos ⟨c1, c2, c3⟩, if_pos cl, if_pos e0]; exact g.1, fq⟩
            · rw [if_neg (by rw [wr_id (by omega)]; exact e0)]
              by_cases e1 : c = 1
              · rw [if_pos (by first | (rw [wr_id (by omega)]; exact e1) | (rw [wr_id (by omega), wr_id (by omega)]; exact e1))]
                exact Ok_ret ⟨by rw [hA, if_pos ⟨c1, c2, c3⟩, if_pos cl, if_neg e0, if_pos e1]; exact g.2.1, fq⟩
              · rw [if_neg (by first | (rw [wr_id (by omega)]; exact e1) | (rw [wr_id (by omega), wr_id (by omega)]; exact e1))]
                exact Ok_ret ⟨by rw [hA, if_pos ⟨c1, c2, c3⟩, if_pos cl, if_neg e0, if_neg e1]; exact g.2.2, fq⟩
          · rw [bi_f cl, if_neg (fun x => x zz0)]
            exact Ok_ret ⟨by rw [hA, if_pos ⟨c1, c2, c3⟩, if_neg cl], fq⟩
        · skip
          by_cases e : c < 0
          · rw [if_pos (by rw [wr_id (by omega)]; exact e)]
            exact Ok_ret ⟨by rw [hA, if_neg (fun x => c3 x.2.2)], qF.rf⟩
          · rw [if_neg (by rw [wr_id (by omega)]; exact e), if_neg (by rw [wr_id (by omega), wr_id (by omega)]; omega)]
            exact Ok_ret ⟨by rw [hA, if_neg (fun x => c3 x.2.2)], qF.rf⟩
      · rw [bi_f c2, if_pos zz0]
        exact Ok_ret ⟨by rw [hA, if_neg (fun x => c2 x.2.1)], qF.rf⟩
    · rw [bi_f c1, if_pos zz0]
      exact Ok_ret ⟨by rw [hA, if_neg (fun x => c1 x.1)], qF.rf⟩
  · (try dsimp only)
    rw [m_cut_e, n_isKind ha, Option.bind_some]
    (try dsimp only)
    by_cases c1 : 0 ≤ a ∧ a ≤ 5
    · rw [bi_t c1, if_neg oz1, n_isPair hs.f hs.wf hb, Option.bind_some]
      (try dsimp only)
      by_cases c2 : 0 ≤ b ∧ b < prs F
      · have l0 := h.wf.lng_ (p := b) (s := 0) c2.1 c2.2 (by omega) (by omega)
        have l1 := h.wf.lng_ (p := b) (s := 1) c2.1 c2.2 (by omega) (by omega)
        rw [bi_t c2, if_neg oz1, n_in (by unfold I32; omega), Option.bind_some]
        (try dsimp only)
        by_cases c3 : 0 ≤ c ∧ c ≤ 2
        · rw [bi_t c3, if_pos oz1, n_longOf hs.f c2.1 (by omega) (by omega) (by omega), Option.bind_some]
          (try dsimp only)
          rw [n_longOf hs.f c2.1 (by omega) (by omega) (by omega), Option.bind_some]
          (try dsimp only)
          by_cases cl : 2 ≤ lng F b 0 ∧ 2 ≤ lng F b 1
          · rw [if_neg (by rw [wr_id (by omega), wr_id (by omega)]; omega), if_pos (by rw [wr_id (by omega), wr_id (by omega)]; omega)]
            refine Ok_bind (n_findsLinks hs.f hs.wf c1.1 c1.2 c2.1 c2.2) (fun v u f => ?_)
            (try dsimp only)
            rw [n_cut44 f.2 c3]
            have hA2 := hA
            rw [if_pos ⟨c1, c2, c3⟩, if_pos cl] at hA2
            exact Ok_ret ⟨hA2.symm, f.1.r (by omega)⟩
          · skip
            by_cases e1 : lng F b 0 = 1
            · rw [if_pos (by first | (rw [wr_id (by omega)]; exact e1) | (rw [wr_id (by omega), wr_id (by omega)]; exact e1))]
              exact Ok_ret ⟨by rw [hA, if_pos ⟨c1, c2, c3⟩, if_neg cl], rF.rf⟩
            · rw [if_neg (by first | (rw [wr_id (by omega)]; exact e1) | (rw [wr_id (by omega), wr_id (by omega)]; exact e1)), if_neg (by rw [wr_id (by omega), wr_id (by omega)]; omega)]
              exact Ok_ret ⟨by rw [hA, if_pos ⟨c1, c2, c3⟩, if_neg cl], rF.rf⟩
        · rw [bi_f c3, if_neg (fun x => x zz0)]
          exact Ok_ret ⟨by rw [hA, if_neg (fun x => c3 x.2.2)], rF.rf⟩
      · rw [bi_f c2, if_pos zz0]
        exact Ok_ret ⟨by rw [hA, if_neg (fun x => c2 x.2.1)], rF.rf⟩
    · rw [bi_f c1, if_pos zz0]
      exact Ok_ret ⟨by rw [hA, if_neg (fun x => c1 x.1)], rF.rf⟩
theorem b_partings (h : INV d F B T) {a b : Int} (ha : I32 a) (hb : I32 b) : BO d (fun d => wl_partings d a b) (fun d => m_partings d a b) := by
  have p24 := h.wf.prs_
  obtain ⟨A, hA⟩ : ∃ A : Int, A = (if (0 ≤ a ∧ a ≤ 5) ∧ (0 ≤ b ∧ b < prs F) then pr (lk F a b) 0 (lng F b 0 - 1) 0 (lng F b 1 - 1) else -1) := ⟨_, rfl⟩
  refine BO_a A h ?_ (fun s hs => ?_)
  · (try dsimp only)
    rw [wl_partings_e, kw_isKind ha, Option.bind_some]
    (try dsimp only)
    by_cases c1 : 0 ≤ a ∧ a ≤ 5
    · rw [bi_t c1, if_neg oz1, kc_pair h.ci.ca hb, Option.bind_some]
      (try dsimp only)
      by_cases c2 : 0 ≤ b ∧ b < prs F
      · rw [bi_t c2, if_pos oz1]
        refine Ok_bind (k_make h.ci c1.1 c1.2 c2.1 c2.2) (fun v u f => ?_)
        (try dsimp only)
        refine Ok_bind (k_waysApart f.2) (fun v2 u2 f2 => ?_)
        exact Ok_ret ⟨by rw [hA, if_pos ⟨c1, c2⟩]; exact f2.2, (f.1.q (by omega) (by omega)).tr (f2.1.q (by omega) (by omega))⟩
      · rw [bi_f c2, if_neg (fun x => x zz0)]
        exact Ok_ret ⟨by rw [hA, if_neg (fun x => c2 x.2)], qF.rf⟩
    · rw [bi_f c1, if_pos zz0]
      exact Ok_ret ⟨by rw [hA, if_neg (fun x => c1 x.1)], qF.rf⟩
  · (try dsimp only)
    rw [m_partings_e, n_isKind ha, Option.bind_some]
    (try dsimp only)
    by_cases c1 : 0 ≤ a ∧ a ≤ 5
    · rw [bi_t c1, if_neg oz1, n_isPair hs.f hs.wf hb, Option.bind_some]
      (try dsimp only)
      by_cases c2 : 0 ≤ b ∧ b < prs F
      · rw [bi_t c2, if_pos oz1]
        refine Ok_bind (n_findsLinks hs.f hs.wf c1.1 c1.2 c2.1 c2.2) (fun v u f => ?_)
        have uF : u.m 133 = F := by rw [f.1 133 (by omega)]; exact hs.f
        (try dsimp only)
        rw [n_longOf uF c2.1 (by omega) (by omega) (by omega), Option.bind_some]
        (try dsimp only)
        rw [n_longOf uF c2.1 (by omega) (by omega) (by omega), Option.bind_some]
        (try dsimp only)
        refine Ok_mono (n_partings25 f.2 _ _) (fun v2 u2 f2 => ?_)
        exact ⟨by rw [hA, if_pos ⟨c1, c2⟩]; exact f2.2, (f.1.r (by omega)).tr (f2.1.r (by omega))⟩
      · rw [bi_f c2, if_neg (fun x => x zz0)]
        exact Ok_ret ⟨by rw [hA, if_neg (fun x => c2 x.2)], rF.rf⟩
    · rw [bi_f c1, if_pos zz0]
      exact Ok_ret ⟨by rw [hA, if_neg (fun x => c1 x.1)], rF.rf⟩
theorem b_phrases (h : INV d F B T) {a : Int} (ha : I32 a) : BO d (fun d => wl_phrases d a) (fun d => m_phrases d a) := BO_ro h (R := fun v => phN F a v) (Ok_mono (k_phrases h.ci ha) (fun v s f => ⟨f.2, f.1.q (by omega) (by omega)⟩)) (fun s hs => Ok_mono (n_phrases hs.f hs.wf ha) (fun v s' f => ⟨f.2, f.1.r⟩)) (fun _ _ e e' => phN_uni e e')
theorem b_phrase (h : INV d F B T) {a b c : Int} (ha : I32 a) (hb : I32 b) (hc : I32 c) : BO d (fun d => wl_phrase d a b c) (fun d => m_phrase d a b c) := BO_ro h (R := fun v => phW F a b c v) (Ok_mono (k_phrase h.ci ha hb hc) (fun v s f => ⟨f.2, f.1.q (by omega) (by omega)⟩)) (fun s hs => Ok_mono (n_phrase hs.f hs.wf ha hb hc) (fun v s' f => ⟨f.2, f.1.r⟩)) (fun _ _ e e' => phW_uni e e')
end
