/-! ROUNDS TRIED ASIDE, both sides. -/
noncomputable def hfF (F : Nat → Int) (n : Int) : Nat → Int := fo n F (fun i G => goF G (i % 2))
theorem hfF_s {F : Nat → Int} {n : Int} (h : 0 ≤ n) : hfF F (n + 1) = goF (hfF F n) (n % 2) := fo_s _ _ h
theorem hfF_2 {F : Nat → Int} {n : Int} (h : 0 ≤ n) : hfF F (2 * (n + 1)) = goF (goF (hfF F (2 * n)) 0) 1 := by
  rw [show 2 * (n + 1) = (2 * n + 1) + 1 by omega, hfF_s (by omega), hfF_s (by omega), show (2 * n + 1) % 2 = 1 by omega, show (2 * n) % 2 = 0 by omega]
theorem agF_r {G : Nat → Int} (h : WF G) (kind : Int) : 0 ≤ agF G kind ∧ agF G kind ≤ 17280000 := by
  have p := h.prs_
  have a := agA_le G kind p.1
  have b := agB_le G kind p.1
  unfold agF
  split
  · omega
  · have d0 : 0 ≤ 20000 * agA G kind (prs G) / agB G kind (prs G) := Int.ediv_nonneg (by omega) b.1
    have d1 : 20000 * agA G kind (prs G) / agB G kind (prs G) ≤ 20000 * agA G kind (prs G) := Int.ediv_le_self _ (by omega)
    omega
/-- what a try answers -/
noncomputable def trF (G : Nat → Int) (b : Int) : Int := if b = 0 then alN G 2 else if b = 1 then alN G 3 else if b = 2 then twN G else if b = 3 then agF G 4 else fsF G 0 + fsF G 1
/-- the best number of rounds so far, and its value -/
noncomputable def brS (F : Nat → Int) (kind : Int) (n : Int) : Int × Int := fo n (0, agF F kind) (fun i y => if agF (hfF F (2 * (i + 1))) kind ≤ y.2 then y else (i + 1, agF (hfF F (2 * (i + 1))) kind))
def tyS : Nat → Prop := fun r => (35 ≤ r ∧ r < 41) ∨ (91 ≤ r ∧ r < 97) ∨ (109 ≤ r ∧ r < 120)
section
variable {P : zP} {d t : zD P} {F G : Nat → Int} {B : Int → Int} {T : Int}
theorem k_putBack {s : zD P} (hd : CI d F) (fx : Fx tyS d s) (ha : asQ s F) : Ok (st_takeShares s 13 69) (fun _ s' => CI s' F ∧ Fx tyS d s') := by
  refine Ok_mono k_back (fun v s' f => ?_)
  have fx' : Fx tyS d s' := fx.tr (fun r hr => f.1 r (by unfold shS; unfold tyS at hr; omega))
  refine ⟨⟨hd.ca.fr (fun r r0 r1 => fx' r (by unfold tyS; omega)), ⟨fun w k w0 w1 k0 k1 => ?_, fun w k w0 w1 k0 k1 => ?_⟩⟩, fx'⟩
  · rw [(f.2 w w0 w1).1 _ (by rw [zix_id (by omega)]; omega)]
    exact ha.1 w k w0 w1 k0 k1
  · rw [(f.2 w w0 w1).2 _ (by rw [zix_id (by omega)]; omega)]
    exact ha.2 w k w0 w1 k0 k1
theorem n_putBack {s : zD P} (hF : s.m 133 = G) (hq : rdQ (cpF F 0 3) G) : Ok (m_copies s 3 0) (fun _ s' => Fx (fun r => r = 133) s s' ∧ s'.m 133 = cpF F 0 3) := by
  have lo : lowE F (cpF F 0 3) := cpF_low (by omega)
  refine Ok_mono (n_copies hF (a := 3) (b := 0) (by omega) (by omega) (by decide)) (fun v s' f => ⟨f.1, ?_⟩)
  rw [f.2, show (3 : Int).toNat = 3 from rfl, show (0 : Int).toNat = 0 from rfl]
  funext q
  unfold cpF
  by_cases c : q < 4545
  · rw [if_pos (by omega), if_neg (by omega), show q - 4545 * 0 + 4545 * 3 = 4545 * 3 + q by omega, hq.2.2.2 _ (by omega), cpF_base (by omega)]
    exact congrArg F (by omega)
  · rw [if_neg (by omega), hq.2.2.2 _ (by omega)]
    unfold cpF
    rfl
/-- a class state in the midst of a try -/
def kTr (d s : zD P) (F : Nat → Int) (k : Int) : Prop := Fx tyS d s ∧ CI s (hfF F (2 * k)) ∧ rdQ F (hfF F (2 * k)) ∧ asQ s F
theorem kTr.fr {s s2 : zD P} {k : Int} (h : kTr d s F k) (f : Fr 115 120 s s2) : kTr d s2 F k := ⟨h.1.tr (fun r hr => f r (by unfold tyS at hr; omega)), h.2.1.fr (fun r r0 r1 => f r (by omega)), h.2.2.1, h.2.2.2.fr (fun r r0 r1 => f r (by omega))⟩
theorem kTr.start (h : CI d F) {s : zD P} (f : shQ 69 13 d s) : kTr d s F 0 := ⟨f.1.mo (fun r hr => by unfold shS at hr; unfold tyS; omega), h.fr (fun r r0 r1 => f.1 r (by unfold shS; omega)), rdQ.rf h.wf, f.as h⟩
theorem kTr.go1 {s : zD P} {k : Int} (h : kTr d s F k) (k0 : 0 ≤ k) {f : Int × zD P → Option (Int × zD P)} {Q : Int → zD P → Prop} (hn : ∀ v s2, kTr d s2 F (k + 1) → Ok (f (v, s2)) Q) : Ok ((ro_go s 0).bind fun q5 => ((ro_go q5.2 1).bind f)) Q := by
  obtain ⟨i1, i2, i3, i4⟩ := h
  refine Ok_bind (k_go i2 (by omega) (by omega)) (fun v s2 f2 => ?_)
  (try dsimp only)
  refine Ok_bind (k_go f2.1 (by omega) (by omega)) (fun v3 s3 f3 => ?_)
  refine hn _ _ ⟨(i1.tr (fun r hr => f2.2 r (by unfold tyS at hr; omega) (by unfold tyS at hr; omega))).tr (fun r hr => f3.2 r (by unfold tyS at hr; omega) (by unfold tyS at hr; omega)), ?_, ?_, (i4.fr (fun r r0 r1 => f2.2 r (by omega) (by omega))).fr (fun r r0 r1 => f3.2 r (by omega) (by omega))⟩
  · rw [hfF_2 k0]
    exact f3.1
  · rw [hfF_2 k0]
    exact (i3.tr (rdQ.go i2.wf (by omega) (by omega))).tr (rdQ.go f2.1.wf (by omega) (by omega))
/-- a model state in the midst of a try -/
def nTr (d s : zD P) (F : Nat → Int) (k : Int) : Prop := Fx (fun r => r = 133 ∨ (143 ≤ r ∧ r < 152)) d s ∧ s.m 133 = hfF F k ∧ rdQ F (hfF F k)
theorem nTr.fr {s s2 : zD P} {k : Int} (h : nTr d s F k) (f : Fr 149 152 s s2) : nTr d s2 F k := ⟨h.1.tr (fun r hr => f r (by omega)), (f 133 (by omega)).trans h.2.1, h.2.2⟩
theorem nTr.go1 {s : zD P} {k w : Int} (h : nTr d s F k) (k0 : 0 ≤ k) (hw : w = k % 2) {f : Int × zD P → Option (Int × zD P)} {Q : Int → zD P → Prop} (hn : ∀ v s2, nTr d s2 F (k + 1) → Ok (f (v, s2)) Q) : Ok ((m_goesRound s w).bind f) Q := by
  obtain ⟨i1, i2, i3⟩ := h
  refine Ok_bind (n_goesRound i2 i3.1 (by omega) (by omega)) (fun v s2 f2 => ?_)
  refine hn _ _ ⟨i1.tr (fun r hr => f2.2 r (by omega) (by omega)), ?_, ?_⟩
  · rw [hfF_s k0, ← hw]
    exact f2.1
  · rw [hfF_s k0, ← hw]
    exact i3.tr (rdQ.go i3.1 (by omega) (by omega))
theorem aside_done (h : INV d F B T) {X M : zD P → Option (Int × zD P)} {a : Int} (kx : Ok (X d) (fun v s => v = a ∧ CI s (cpF F 0 3) ∧ Fx tyS d s)) (nx : ∀ s : zD P, s.m 133 = F → Ok (M s) (fun v s' => v = a ∧ s'.m 133 = cpF F 0 3 ∧ Fx (fun r => r = 133 ∨ (143 ≤ r ∧ r < 152)) s s')) : BO d X M := by
  have lo : lowE F (cpF F 0 3) := cpF_low (by omega)
  obtain ⟨v, s, e, hv, hci, fx⟩ := kx
  obtain ⟨v', s', e', hv', hF', fx'⟩ := nx s ((fx 133 (by unfold tyS; omega)).trans h.f)
  have er : ∀ r, ¬ tyS r → r ≠ 133 → r < 143 → s'.m r = d.m r := fun r h1 h2 h3 => (fx' r (by omega)).trans (fx r h1)
  refine ⟨v, s, s', cpF F 0 3, B, T, e, by rw [hv, ← hv']; exact e', ?_⟩
  exact INV.rd h (hci.fr (fun r r0 r1 => fx' r (by omega))) hF' (Or.inr lo) (fun q q0 q1 => lo q (by omega)) ((show sx F (cpF F 0 3) from fun q q0 _ _ _ _ => lo q (by omega)).ORX h.wf h.2.2.2.2.2.1) (fun r hr => er r (by unfold tyS; omega) (by omega) (by omega)) (by rw [er 132 (by unfold tyS; omega) (by omega) (by omega)]) (by rw [er 132 (by unfold tyS; omega) (by omega) (by omega)]) (by rw [er 132 (by unfold tyS; omega) (by omega) (by omega)])
theorem b_tried (h : INV d F B T) {n b : Int} (hn : I32 n) (hb : I32 b) : BO d (fun d => wl_tried d n b) (fun d => m_tried d n b) := by
  have hn' := hn
  have hb' := hb
  unfold I32 at hn' hb'
  by_cases c1 : 1 ≤ n ∧ n ≤ 30
  · by_cases c2 : 0 ≤ b ∧ b ≤ 4
    · have cF : CI d (cpF F 0 3) := h.ci.same (fun q hq => cpF_low (F := F) (a := 0) (b := 3) (by omega) q (by omega))
      refine aside_done (a := trF (hfF (cpF F 0 3) (2 * n)) b) h ?_ (fun s sF => ?_)
      · (try dsimp only)
        rw [wl_tried_e, if_neg (by rw [wr_id (by omega), wr_id (by omega)]; omega), if_neg (by rw [wr_id (by omega), wr_id (by omega)]; omega), if_neg (by rw [wr_id (by omega)]; omega), if_pos (by rw [wr_id (by omega), wr_id (by omega)]; omega)]
        refine Ok_bind k_aside (fun v s f => ?_)
        (try dsimp only)
        refine lpD (fun k s => wl_tried_20 s n b k) (fun k s => kTr d s (cpF F 0 3) k) 0 n (by omega) s (kTr.start cF f) (fun s hi => ?_) (fun k s k0 k1 hi hnext => ?_)
        · have fin : ∀ (v : Int) (s2 : zD P), v = trF (hfF (cpF F 0 3) (2 * n)) b → kTr d s2 (cpF F 0 3) n → Ok ((st_takeShares s2 13 69).bind fun q => some (v, q.2)) (fun v s => v = trF (hfF (cpF F 0 3) (2 * n)) b ∧ CI s (cpF F 0 3) ∧ Fx tyS d s) := fun v s2 hv h2 => Ok_bind (k_putBack cF h2.1 h2.2.2.2) (fun v3 s3 f3 => Ok_ret ⟨hv, f3.1, f3.2⟩)
          have ci := hi.2.1
          (try dsimp only)
          rw [wl_tried_20_e, if_pos (by omega), k_fullShares ci (by omega) (by omega), Option.bind_some]
          (try dsimp only)
          rw [k_fullShares ci (by omega) (by omega), Option.bind_some]
          (try dsimp only)
          by_cases e0 : b = 0
          · rw [if_pos (by rw [e0]; exact wr_id (by omega))]
            refine Ok_bind (k_allLinks ci (by omega)) (fun v2 s2 f2 => fin v2 s2 ?_ (hi.fr f2.2))
            unfold trF
            rw [if_pos e0]
            exact f2.1
          rw [if_neg (by rw [wr_id (by omega)]; exact e0)]
          by_cases e1 : b = 1
          · rw [if_pos (by rw [e1]; exact wr_id (by omega))]
            refine Ok_bind (k_allLinks ci (by omega)) (fun v2 s2 f2 => fin v2 s2 ?_ (hi.fr f2.2))
            unfold trF
            rw [if_neg e0, if_pos e1]
            exact f2.1
          rw [if_neg (by rw [wr_id (by omega)]; exact e1)]
          by_cases e2 : b = 2
          · rw [if_pos (by rw [e2]; exact wr_id (by omega)), k_allTwins ci, Option.bind_some]
            refine fin _ s ?_ hi
            unfold trF
            rw [if_neg e0, if_neg e1, if_pos e2]
          rw [if_neg (by rw [wr_id (by omega)]; exact e2)]
          by_cases e3 : b = 3
          · rw [if_pos (by rw [e3]; exact wr_id (by omega))]
            refine Ok_bind (k_agreement ci (by omega)) (fun v2 s2 f2 => fin v2 s2 ?_ (hi.fr f2.2))
            unfold trF
            rw [if_neg e0, if_neg e1, if_neg e2, if_pos e3]
            exact f2.1
          rw [if_neg (by rw [wr_id (by omega)]; exact e3)]
          refine fin _ s ?_ hi
          unfold trF
          rw [if_neg e0, if_neg e1, if_neg e2, if_neg e3]
        · (try dsimp only)
          rw [wl_tried_20_e, if_neg (by rw [wr_id (by omega), wr_id (by omega)]; omega)]
          exact hi.go1 k0 (fun v s2 h2 => hnext _ h2)
      · (try dsimp only)
        rw [m_tried_e, n_in (by unfold I32; omega), bi_t c1, Option.bind_some]
        (try dsimp only)
        rw [if_neg oz1, n_in (by unfold I32; omega), bi_t c2, Option.bind_some]
        (try dsimp only)
        rw [if_pos oz1]
        refine Ok_bind (n_copies sF (a := 0) (b := 3) (by omega) (by omega) (by decide)) (fun v1 s1 f1 => ?_)
        have f1b : s1.m 133 = cpF F 0 3 := f1.2
        (try dsimp only)
        refine lpD (fun k t => m_tried_18 t n b k) (fun k t => nTr s t (cpF F 0 3) k) 0 (2 * n) (by omega) s1 ⟨f1.1.mo (fun r hr => Or.inl hr), f1b, rdQ.rf cF.wf⟩ (fun t hi => ?_) (fun k t k0 k1 hi hnext => ?_)
        · have fin : ∀ (v : Int) (s2 : zD P), v = trF (hfF (cpF F 0 3) (2 * n)) b → nTr s s2 (cpF F 0 3) (2 * n) → Ok ((m_copies s2 3 0).bind fun q => some (v, q.2)) (fun v s' => v = trF (hfF (cpF F 0 3) (2 * n)) b ∧ s'.m 133 = cpF F 0 3 ∧ Fx (fun r => r = 133 ∨ (143 ≤ r ∧ r < 152)) s s') := fun v s2 hv h2 => Ok_bind (n_putBack h2.2.1 h2.2.2) (fun v3 s3 f3 => Ok_ret ⟨hv, f3.2, h2.1.tr (fun r hr => f3.1 r (by omega))⟩)
          have hF2 := hi.2.1
          have w2 := hi.2.2.1
          (try dsimp only)
          rw [m_tried_18_e, if_pos (by omega)]
          by_cases e0 : b = 0
          · rw [if_neg (by rw [e0]; exact fun x => x zz0)]
            refine Ok_bind (n_allLinks hF2 w2 (by omega)) (fun v2 s2 f2 => fin v2 s2 ?_ (hi.fr f2.2))
            unfold trF
            rw [if_pos e0]
            exact f2.1
          rw [if_pos (by rw [wr_id (by omega)]; exact e0)]
          by_cases e1 : b = 1
          · rw [if_neg (by rw [e1]; exact fun x => x rfl)]
            refine Ok_bind (n_allLinks hF2 w2 (by omega)) (fun v2 s2 f2 => fin v2 s2 ?_ (hi.fr f2.2))
            unfold trF
            rw [if_neg e0, if_pos e1]
            exact f2.1
          rw [if_pos (by rw [wr_id (by omega), wr_id (by omega)]; exact e1)]
          by_cases e2 : b = 2
          · rw [if_neg (by rw [e2]; exact fun x => x rfl), n_twinsMany hF2 w2, Option.bind_some]
            refine fin _ t ?_ hi
            unfold trF
            rw [if_neg e0, if_neg e1, if_pos e2]
          rw [if_pos (by rw [wr_id (by omega), wr_id (by omega)]; exact e2)]
          by_cases e3 : b = 3
          · rw [if_neg (by rw [e3]; exact fun x => x rfl)]
            refine Ok_bind (n_agreeOf hF2 w2 (by omega)) (fun v2 s2 f2 => fin v2 s2 ?_ (hi.fr f2.2))
            unfold trF
            rw [if_neg e0, if_neg e1, if_neg e2, if_pos e3]
            exact f2.1
          rw [if_pos (by rw [wr_id (by omega), wr_id (by omega)]; exact e3), n_notNothing hF2 w2, Option.bind_some]
          refine fin _ t ?_ hi
          unfold trF
          rw [if_neg e0, if_neg e1, if_neg e2, if_neg e3]
        · (try dsimp only)
          rw [m_tried_18_e, if_neg (by rw [wr_id (by omega), wr_id (by omega)]; omega)]
          exact hi.go1 k0 (zdiv1 (by omega)) (fun v s2 h2 => hnext _ h2)
    · refine BO_a (-1) h ?_ (fun s hs => ?_)
      · (try dsimp only)
        rw [wl_tried_e, if_neg (by rw [wr_id (by omega), wr_id (by omega)]; omega), if_neg (by rw [wr_id (by omega), wr_id (by omega)]; omega)]
        by_cases e : b < 0
        · rw [if_pos (by rw [wr_id (by omega)]; exact e)]
          exact Ok_ret ⟨rfl, qF.rf⟩
        · rw [if_neg (by rw [wr_id (by omega)]; exact e), if_neg (by rw [wr_id (by omega), wr_id (by omega)]; omega)]
          exact Ok_ret ⟨rfl, qF.rf⟩
      · (try dsimp only)
        rw [m_tried_e, n_in (by unfold I32; omega), bi_t c1, Option.bind_some]
        (try dsimp only)
        rw [if_neg oz1, n_in (by unfold I32; omega), bi_f c2, Option.bind_some]
        (try dsimp only)
        rw [if_neg (fun x => x zz0)]
        exact Ok_ret ⟨rfl, rF.rf⟩
  · refine BO_a (-1) h ?_ (fun s hs => ?_)
    · (try dsimp only)
      rw [wl_tried_e]
      by_cases e : n < 1
      · rw [if_pos (by rw [wr_id (by omega), wr_id (by omega)]; exact e)]
        exact Ok_ret ⟨rfl, qF.rf⟩
      · rw [if_neg (by rw [wr_id (by omega), wr_id (by omega)]; exact e), if_pos (by rw [wr_id (by omega), wr_id (by omega)]; omega)]
        exact Ok_ret ⟨rfl, qF.rf⟩
    · (try dsimp only)
      rw [m_tried_e, n_in (by unfold I32; omega), bi_f c1, Option.bind_some]
      (try dsimp only)
      rw [if_pos zz0]
      exact Ok_ret ⟨rfl, rF.rf⟩
theorem brS_s {kind n : Int} (h : 0 ≤ n) : brS F kind (n + 1) = if agF (hfF F (2 * (n + 1))) kind ≤ (brS F kind n).2 then brS F kind n else (n + 1, agF (hfF F (2 * (n + 1))) kind) := fo_s _ _ h
theorem b_bestRounds (h : INV d F B T) {a : Int} (ha : I32 a) : BO d (fun d => wl_bestRounds d a) (fun d => m_bestRounds d a) := by
  by_cases c1 : 0 ≤ a ∧ a ≤ 5
  · have cF : CI d (cpF F 0 3) := h.ci.same (fun q hq => cpF_low (F := F) (a := 0) (b := 3) (by omega) q (by omega))
    refine aside_done (a := (brS (cpF F 0 3) a 30).1) h ?_ (fun s sF => ?_)
    · (try dsimp only)
      rw [wl_bestRounds_e, kw_isKind ha, bi_t c1, Option.bind_some]
      (try dsimp only)
      rw [if_pos oz1]
      refine Ok_bind k_aside (fun v s f => ?_)
      have st := kTr.start cF f
      (try dsimp only)
      refine Ok_bind (k_agreement st.2.1 c1) (fun v1 s1 f1 => ?_)
      obtain ⟨rfl, f1⟩ := f1
      have st1 := st.fr f1
      (try dsimp only)
      refine lpM (fun k s (y : Int × Int × zV) => wl_bestRounds_18 s a y.1 y.2.1 k y.2.2) (fun k s y => kTr d s (cpF F 0 3) (k - 1) ∧ y.1 = (brS (cpF F 0 3) a (k - 1)).1 ∧ y.2.1 = (brS (cpF F 0 3) a (k - 1)).2 ∧ 0 ≤ y.2.1 ∧ y.2.1 ≤ 17280000) 1 31 (by omega) s1 (0, agF (hfF (cpF F 0 3) (2 * 0)) a, (3, 0)) ⟨st1, rfl, rfl, agF_r st1.2.2.1.1 a⟩ (fun s y hi => ?_) (fun k s y k0 k1 hi hnext => ?_)
      · obtain ⟨i1, i2, i3, i4⟩ := hi
        (try dsimp only)
        rw [wl_bestRounds_18_e, if_pos (by rw [wr_id (by omega), wr_id (by omega)]; omega)]
        exact Ok_bind (k_putBack cF i1.1 i1.2.2.2) (fun v3 s3 f3 => Ok_ret ⟨i2, f3.1, f3.2⟩)
      · obtain ⟨i1, i2, i3, i4⟩ := hi
        (try dsimp only)
        rw [wl_bestRounds_18_e, if_neg (by rw [wr_id (by omega), wr_id (by omega)]; omega)]
        refine i1.go1 (by omega) (fun v s2 h2 => ?_)
        (try dsimp only)
        refine Ok_bind (k_agreement h2.2.1 c1) (fun v1 s3 f3 => ?_)
        obtain ⟨rfl, f3⟩ := f3
        have h3 := h2.fr f3
        have r := agF_r h2.2.2.1.1 a
        have eb := brS_s (F := cpF F 0 3) (kind := a) (n := k - 1) (by omega)
        have ek : k + 1 - 1 = k - 1 + 1 := by omega
        (try dsimp only)
        by_cases c : agF (hfF (cpF F 0 3) (2 * (k - 1 + 1))) a ≤ y.2.1
        · rw [if_pos (by rw [wr_id (by omega), wr_id (by omega)]; exact c)]
          rw [if_pos (by rw [← i3]; exact c)] at eb
          exact hnext _ (y.1, y.2.1, (0, agF (hfF (cpF F 0 3) (2 * (k - 1 + 1))) a)) ⟨by rw [ek]; exact h3, by rw [ek, eb]; exact i2, by rw [ek, eb]; exact i3, i4⟩
        · rw [if_neg (by rw [wr_id (by omega), wr_id (by omega)]; exact c)]
          rw [if_neg (by rw [← i3]; exact c)] at eb
          exact hnext _ (k, agF (hfF (cpF F 0 3) (2 * (k - 1 + 1))) a, (0, agF (hfF (cpF F 0 3) (2 * (k - 1 + 1))) a)) ⟨by rw [ek]; exact h3, by rw [ek, eb]; show k = k - 1 + 1; omega, by rw [ek, eb], r⟩
    · (try dsimp only)
      rw [m_bestRounds_e, n_isKind ha, bi_t c1, Option.bind_some]
      (try dsimp only)
      rw [if_pos oz1]
      refine Ok_bind (n_copies sF (a := 0) (b := 3) (by omega) (by omega) (by decide)) (fun v1 s1 f1 => ?_)
      have st : nTr s s1 (cpF F 0 3) (2 * 0) := ⟨f1.1.mo (fun r hr => Or.inl hr), f1.2, rdQ.rf cF.wf⟩
      (try dsimp only)
      refine Ok_bind (n_agreeOf st.2.1 st.2.2.1 c1) (fun v1 s2 f2 => ?_)
      obtain ⟨rfl, f2⟩ := f2
      have st1 := st.fr f2
      (try dsimp only)
      refine lpM (fun k s (y : Int × Int × zV) => m_bestRounds_17 s a y.1 y.2.1 k y.2.2) (fun k t y => nTr s t (cpF F 0 3) (2 * (k - 1)) ∧ y.1 = (brS (cpF F 0 3) a (k - 1)).1 ∧ y.2.1 = (brS (cpF F 0 3) a (k - 1)).2 ∧ 0 ≤ y.2.1 ∧ y.2.1 ≤ 17280000) 1 31 (by omega) s2 (0, agF (hfF (cpF F 0 3) (2 * 0)) a, (3, 0)) ⟨st1, rfl, rfl, agF_r st1.2.2.1 a⟩ (fun t y hi => ?_) (fun k t y k0 k1 hi hnext => ?_)
      · obtain ⟨i1, i2, i3, i4⟩ := hi
        (try dsimp only)
        rw [m_bestRounds_17_e, if_pos (by rw [wr_id (by omega), wr_id (by omega)]; omega)]
        exact Ok_bind (n_putBack i1.2.1 i1.2.2) (fun v3 s3 f3 => Ok_ret ⟨i2, f3.2, i1.1.tr (fun r hr => f3.1 r (by omega))⟩)
      · obtain ⟨i1, i2, i3, i4⟩ := hi
        (try dsimp only)
        rw [m_bestRounds_17_e, if_neg (by rw [wr_id (by omega), wr_id (by omega)]; omega)]
        refine i1.go1 (by omega) (by omega) (fun v s2 h2 => ?_)
        (try dsimp only)
        refine h2.go1 (by omega) (by omega) (fun v s3 h3' => ?_)
        have h3 : nTr s s3 (cpF F 0 3) (2 * (k - 1 + 1)) := by rw [show 2 * (k - 1 + 1) = 2 * (k - 1) + 1 + 1 by omega]; exact h3'
        (try dsimp only)
        refine Ok_bind (n_agreeOf h3.2.1 h3.2.2.1 c1) (fun v1 s4 f4 => ?_)
        obtain ⟨rfl, f4⟩ := f4
        have h4 := h3.fr f4
        have r := agF_r h3.2.2.1 a
        have eb := brS_s (F := cpF F 0 3) (kind := a) (n := k - 1) (by omega)
        have ek : k + 1 - 1 = k - 1 + 1 := by omega
        (try dsimp only)
        by_cases c : agF (hfF (cpF F 0 3) (2 * (k - 1 + 1))) a ≤ y.2.1
        · rw [if_pos (by rw [wr_id (by omega), wr_id (by omega)]; exact c), n_max (by unfold I32; omega), Option.bind_some]
          rw [if_pos (by rw [← i3]; exact c)] at eb
          (try dsimp only)
          refine hnext _ (y.1, (if agF (hfF (cpF F 0 3) (2 * (k - 1 + 1))) a < y.2.1 then y.2.1 else agF (hfF (cpF F 0 3) (2 * (k - 1 + 1))) a), (0, agF (hfF (cpF F 0 3) (2 * (k - 1 + 1))) a)) ⟨by rw [ek]; exact h4, by rw [ek, eb]; exact i2, ?_, ?_⟩
          · show (if agF (hfF (cpF F 0 3) (2 * (k - 1 + 1))) a < y.2.1 then y.2.1 else agF (hfF (cpF F 0 3) (2 * (k - 1 + 1))) a) = _
            rw [ek, eb, ← i3]
            split <;> omega
          · show 0 ≤ (if agF (hfF (cpF F 0 3) (2 * (k - 1 + 1))) a < y.2.1 then y.2.1 else agF (hfF (cpF F 0 3) (2 * (k - 1 + 1))) a) ∧ (if agF (hfF (cpF F 0 3) (2 * (k - 1 + 1))) a < y.2.1 then y.2.1 else agF (hfF (cpF F 0 3) (2 * (k - 1 + 1))) a) ≤ 17280000
            split <;> omega
        · rw [if_neg (by rw [wr_id (by omega), wr_id (by omega)]; exact c), n_max (by unfold I32; omega), Option.bind_some, if_neg (by omega)]
          rw [if_neg (by rw [← i3]; exact c)] at eb
          (try dsimp only)
          exact hnext _ (k, agF (hfF (cpF F 0 3) (2 * (k - 1 + 1))) a, (0, agF (hfF (cpF F 0 3) (2 * (k - 1 + 1))) a)) ⟨by rw [ek]; exact h4, by rw [ek, eb]; show k = k - 1 + 1; omega, by rw [ek, eb], r⟩
  · refine BO_a (-1) h ?_ (fun s hs => ?_)
    · (try dsimp only)
      rw [wl_bestRounds_e, kw_isKind ha, bi_f c1, Option.bind_some]
      (try dsimp only)
      rw [if_neg (fun x => x zz0)]
      exact Ok_ret ⟨rfl, qF.rf⟩
    · (try dsimp only)
      rw [m_bestRounds_e, n_isKind ha, bi_f c1, Option.bind_some]
      (try dsimp only)
      rw [if_neg (fun x => x zz0)]
      exact Ok_ret ⟨rfl, rF.rf⟩
end
