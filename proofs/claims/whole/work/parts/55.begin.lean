/-! SHARES BEGUN: the model's makesNew, the class's begin. -/
section
variable {P : zP} {d : zD P} {F : Nat → Int}
theorem mkC_congr {c c' : Int → Int → Int → Prop} (h : ∀ p i j, 0 ≤ p → p < prs F → 0 ≤ i → i < lng F p 0 → 0 ≤ j → j < lng F p 1 → (c p i j ↔ c' p i j)) : mkC F c = mkC F c' := by
  have hh : ∀ q, hit F c q ↔ hit F c' q := fun q => ⟨fun ⟨p, i, j, a1, a2, a3, a4, a5, a6, a7, a8⟩ => ⟨p, i, j, a1, a2, a3, a4, a5, a6, (h p i j a1 a2 a3 a4 a5 a6).mp a7, a8⟩, fun ⟨p, i, j, a1, a2, a3, a4, a5, a6, a7, a8⟩ => ⟨p, i, j, a1, a2, a3, a4, a5, a6, (h p i j a1 a2 a3 a4 a5 a6).mpr a7, a8⟩⟩
  funext q
  by_cases r : 1144 ≤ q ∧ q < 4344
  · by_cases x : hit F c q
    · rw [mkC_t r x, mkC_t r ((hh q).mp x)]
    · rw [mkC_f r x, mkC_f r (fun y => x ((hh q).mpr y))]
  · rw [mkC_n r, mkC_n r]
theorem n_marks (hF : d.m 133 = mkC F (fun _ _ _ => False)) (hw : WF (mkN F)) {Q : Int → zD P → Prop} (g2 g3 : zV) (hq : ∀ (t : zD P) (g2 g3 : zV), t.m 133 = mkN F → Fr 133 134 d t → Ok (m_makesNew_88 t 0 g2 g3) Q) : Ok (m_makesNew_30 d 0 g2 g3) Q := by
  have hS : SameA F (mkN F) := mkC_same
  have hp := hw.prs_
  rw [hS.prs_] at hp
  refine lpM (fun p t (y : zV × zV) => m_makesNew_30 t p y.1 y.2) (fun p t _ => Fr 133 134 d t ∧ t.m 133 = mkC F (fun p' _ _ => p' < p)) 0 (prs F) hp.1 d (g2, g3) ⟨Fr.rf, by rw [hF]; exact mkC_congr (fun p i j a _ _ _ _ _ => ⟨fun h => h.elim, fun h => by (try dsimp only at h); omega⟩)⟩ (fun t y hi => ?_) (fun p t y hp0 hp1 hi hnext => ?_)
  · obtain ⟨g2, g3⟩ := y
    have e0 : mkC F (fun p' _ _ => p' < prs F) (zix 0) = prs F := mkC_same.prs_
    (try dsimp only)
    rw [m_makesNew_30_e]
    simp (disch := omega) only [↓reduceIte, zinT, wr_id, wrl_id, ltT, ltF, leT, leF, eqT, eqF, ne_eq, not_true_eq_false, not_false_eq_true, Option.bind_some, Ok_some, bi_0, bi_n0, bi_01, hi.2, e0]
    exact hq t _ _ (hi.2.trans (mkC_congr (fun p i j _ b _ _ _ _ => by simp [b]))) hi.1
  · obtain ⟨g2, g3⟩ := y
    have e0 : mkC F (fun p' _ _ => p' < p) (zix 0) = prs F := mkC_same.prs_
    (try dsimp only)
    rw [m_makesNew_30_e]
    simp (disch := omega) only [↓reduceIte, zinT, wr_id, wrl_id, ltT, ltF, leT, leF, eqT, eqF, ne_eq, not_true_eq_false, not_false_eq_true, Option.bind_some, Ok_some, bi_0, bi_n0, bi_01, hi.2, e0]
    have l0 := hw.lng_ (p := p) (s := 0) hp0 (by rw [hS.prs_]; exact hp1) (by omega) (by omega)
    have l1 := hw.lng_ (p := p) (s := 1) hp0 (by rw [hS.prs_]; exact hp1) (by omega) (by omega)
    rw [hS.lng_ hp0 (by omega) (by omega) (by omega)] at l0 l1
    refine lpM (fun i t (g3 : zV) => m_makesNew_38 t p i g3) (fun i t _ => Fr 133 134 d t ∧ t.m 133 = mkC F (fun p' i' _ => p' < p ∨ (p' = p ∧ i' < i))) 0 (lng F p 0) (by omega) t g3 ⟨hi.1, hi.2.trans (mkC_congr (fun p' i' j' _ _ a _ _ _ => by omega))⟩ (fun t g3 hj => ?_) (fun i t g3 hi0 hi1 hj hnext2 => ?_)
    · have e1 : lng (mkC F (fun p' i' _ => p' < p ∨ (p' = p ∧ i' < lng F p 0))) p 0 = lng F p 0 := mkC_same.lng_ hp0 (by omega) (by omega) (by omega)
      (try dsimp only)
      rw [m_makesNew_38_e]
      simp (disch := omega) only [↓reduceIte, zinT, wr_id, wrl_id, ltT, ltF, leT, leF, eqT, eqF, ne_eq, not_true_eq_false, not_false_eq_true, Option.bind_some, Ok_some, bi_0, bi_n0, bi_01, n_longOf hj.2, e1]
      refine hnext _ (_, _) ⟨hj.1, hj.2.trans (mkC_congr (fun p' i' j' _ _ _ a _ _ => ?_))⟩
      constructor
      · rintro (h | h) <;> omega
      · intro h
        by_cases c : p' = p
        · subst c; exact Or.inr ⟨rfl, a⟩
        · exact Or.inl (by omega)
    · have e1 : lng (mkC F (fun p' i' _ => p' < p ∨ (p' = p ∧ i' < i))) p 0 = lng F p 0 := mkC_same.lng_ hp0 (by omega) (by omega) (by omega)
      (try dsimp only)
      rw [m_makesNew_38_e]
      simp (disch := omega) only [↓reduceIte, zinT, wr_id, wrl_id, ltT, ltF, leT, leF, eqT, eqF, ne_eq, not_true_eq_false, not_false_eq_true, Option.bind_some, Ok_some, bi_0, bi_n0, bi_01, n_longOf hj.2, e1]
      refine lpD (fun j t => m_makesNew_46 t p i j) (fun j t => Fr 133 134 d t ∧ t.m 133 = mkC F (fun p' i' j' => p' < p ∨ (p' = p ∧ (i' < i ∨ (i' = i ∧ j' < j))))) 0 (lng F p 1) (by omega) t ⟨hj.1, hj.2.trans (mkC_congr (fun p' i' j' _ _ _ _ a _ => by omega))⟩ (fun t hk => ?_) (fun j t hj0 hj1 hk hnext3 => ?_)
      · have e1 : lng (mkC F (fun p' i' j' => p' < p ∨ (p' = p ∧ (i' < i ∨ (i' = i ∧ j' < lng F p 1))))) p 1 = lng F p 1 := mkC_same.lng_ hp0 (by omega) (by omega) (by omega)
        (try dsimp only)
        rw [m_makesNew_46_e]
        simp (disch := omega) only [↓reduceIte, zinT, wr_id, wrl_id, ltT, ltF, leT, leF, eqT, eqF, ne_eq, not_true_eq_false, not_false_eq_true, Option.bind_some, Ok_some, bi_0, bi_n0, bi_01, n_longOf hk.2, e1]
        refine hnext2 _ _ ⟨hk.1, hk.2.trans (mkC_congr (fun p' i' j' _ _ _ _ _ a => ?_))⟩
        constructor
        · omega
        · rintro (h | ⟨h1, h2⟩)
          · exact Or.inl h
          · subst h1
            by_cases c : i' = i
            · exact Or.inr ⟨rfl, Or.inr ⟨c, a⟩⟩
            · exact Or.inr ⟨rfl, Or.inl (by omega)⟩
      · have S2 : SameA F (mkC F (fun p' i' j' => p' < p ∨ (p' = p ∧ (i' < i ∨ (i' = i ∧ j' < j))))) := mkC_same
        have e1 := S2.lng_ (p := p) (s := 1) hp0 (by omega) (by omega) (by omega)
        have e2 := S2.wrd_ (p := p) (s := 0) (i := i) hp0 (by omega) (by omega) (by omega) hi0 (by omega)
        have e3 := S2.wrd_ (p := p) (s := 1) (i := j) hp0 (by omega) (by omega) (by omega) hj0 (by omega)
        have b0 := nb_wrd hw hp0 hp1 (s := 0) (by omega) (by omega) hi0 hi1
        have b1 := nb_wrd hw hp0 hp1 (s := 1) (by omega) (by omega) hj0 hj1
        have hF' := hk.2
        have rd : ∀ (x v : Int), 1144 ≤ x → x < 4344 → ∀ s i, 0 ≤ s → s < 2 → 0 ≤ i → i < 6 → wrd (zfu (t.m 133) (zix x) v) p s i = wrd (t.m 133) p s i := fun x v x0 x1 s i s0 s1 i0 i1 => by
          unfold wrd
          rw [zfu_z (by omega), if_neg (by omega)]
        (try dsimp only)
        rw [m_makesNew_46_e]
        simp (disch := omega) only [↓reduceIte, zinT, wr_id, wrl_id, ltT, ltF, leT, leF, eqT, eqF, ne_eq, not_true_eq_false, not_false_eq_true, Option.bind_some, Ok_some, bi_0, bi_n0, bi_01, n_longOf hF', n_wordOf hF', e1, e2, e3, m_setsShare_e]
        have w1 := n_wordOf (d := t.up 133 (zix (((1144 + (1600 * 0)) + (40 * wrd F p 0 i)) + wrd F p 1 j)) 0) (F := zfu (t.m 133) (zix (((1144 + (1600 * 0)) + (40 * wrd F p 0 i)) + wrd F p 1 j)) 0) (p := p) (s := 1) (i := j) u_133 hp0 (by omega) (by omega) (by omega) hj0 (by omega)
        have w2 := n_wordOf (d := t.up 133 (zix (((1144 + (1600 * 0)) + (40 * wrd F p 0 i)) + wrd F p 1 j)) 0) (F := zfu (t.m 133) (zix (((1144 + (1600 * 0)) + (40 * wrd F p 0 i)) + wrd F p 1 j)) 0) (p := p) (s := 0) (i := i) u_133 hp0 (by omega) (by omega) (by omega) hi0 (by omega)
        rw [rd _ _ (by omega) (by omega) _ _ (by omega) (by omega) hj0 (by omega), hF', e3] at w1
        rw [rd _ _ (by omega) (by omega) _ _ (by omega) (by omega) hi0 (by omega), hF', e2] at w2
        simp (disch := omega) only [↓reduceIte, zinT, wr_id, wrl_id, ltT, ltF, leT, leF, eqT, eqF, ne_eq, not_true_eq_false, not_false_eq_true, Option.bind_some, Ok_some, bi_0, bi_n0, bi_01, w1, w2, m_setsShare_e]
        refine hnext3 _ ⟨(hk.1.up (by omega) (by omega)).up (by omega) (by omega), ?_⟩
        rw [u_133, u_133, hF']
        exact (mk_put hw hp0 hp1 hi0 hi1 hj0 hj1 (fun a b e => by omega)).symm
theorem SameA.fwt_ {G : Nat → Int} (h : SameA F G) (hw : WF F) {w u v : Int} (h1 : 0 ≤ w) (h2 : w < 2) (hk : 0 ≤ u) (hk2 : u < wds F w) (v0 : 0 ≤ v) (v1 : v < wds F (1 - w)) : fwt G w u v = fwt F w u v := by
  unfold fwt
  rw [h.ltd_]
  rcases (by omega : w = 0 ∨ w = 1) with rfl | rfl
  · rw [show (1 : Int) - 0 = 1 by omega] at v1
    rw [if_pos rfl, if_pos rfl, h.lik_ hw hk hk2 v0 v1]
  · rw [show (1 : Int) - 1 = 0 by omega] at v1
    have n : ¬ ((1 : Int) = 0) := by decide
    rw [if_neg n, if_neg n, h.lik_ hw v0 v1 hk hk2]
theorem n_deals (hF : d.m 133 = mkN F) (hw : WF (mkN F)) (g2 g3 : zV) : Ok (m_makesNew_88 d 0 g2 g3) (fun _ d' => d'.m 133 = mkF F ∧ Fr2 133 134 143 147 d d') := by
  have q0 := hw.wds_ (s := 0) (by omega) (by omega)
  have q1 := hw.wds_ (s := 1) (by omega) (by omega)
  -- one way
  have way : ∀ (w : Int) (G : Nat → Int) (t : zD P), 0 ≤ w → w < 2 → WF G → SameA (mkN F) G → (∀ u v, 0 ≤ u → u < 40 → 0 ≤ v → v < 40 → shr G w u v = shr (mkN F) w u v) → t.m 133 = G → Fr2 133 134 143 147 d t → ∀ (Q : Int → zD P → Prop), (∀ (t : zD P) (g2 g3 : zV), t.m 133 = goS G w (wds (mkN F) w) (nwS (mkN F) w (fwt (mkN F) w)) → Fr2 133 134 143 147 d t → Ok (m_makesNew_88 t (w + 1) g2 g3) Q) → ∀ g2 g3 : zV, Ok (m_makesNew_88 t w g2 g3) Q := by
    intro w G t h1 h2 hG hS hsh hFt hfr Q hq g2 g3
    have qw := hw.wds_ h1 h2
    have qw' := hw.wds_ (s := 1 - w) (by omega) (by omega)
    have nwb : ∀ u v, 0 ≤ u → u < wds (mkN F) w → 0 ≤ v → v < 40 → shr G w u v ≠ -1 → 0 ≤ nwS (mkN F) w (fwt (mkN F) w) u v ∧ nwS (mkN F) w (fwt (mkN F) w) u v ≤ 200000 := fun u v u0 u1 v0 v1 hne => by
      rw [hsh u v u0 (by omega) v0 v1] at hne
      exact fwt_nw hw h1 h2 u v u0 u1 v0 v1 hne
    rw [m_makesNew_88_e]
    simp (disch := omega) only [↓reduceIte, zinT, wr_id, wrl_id, ltT, ltF, leT, leF, eqT, eqF, ne_eq, not_true_eq_false, not_false_eq_true, Option.bind_some, Ok_some, bi_0, bi_n0, bi_01]
    refine lpM (fun u t (g3 : zV) => m_makesNew_93 t w u g3) (fun u t _ => t.m 133 = goS G w u (nwS (mkN F) w (fwt (mkN F) w)) ∧ Fr2 133 134 143 147 d t) 0 (wds (mkN F) w) qw.1 t g3 ⟨by rw [goS_0]; exact hFt, hfr⟩ (fun t g3 hi => ?_) (fun u t g3 hk hk2 hi hnext => ?_)
    · have e1 : wds (goS G w (wds (mkN F) w) (nwS (mkN F) w (fwt (mkN F) w))) w = wds (mkN F) w := ((goS_same h1).wds_ h1 h2).trans (hS.wds_ h1 h2)
      (try dsimp only)
      rw [m_makesNew_93_e]
      simp (disch := omega) only [↓reduceIte, zinT, wr_id, wrl_id, ltT, ltF, leT, leF, eqT, eqF, ne_eq, not_true_eq_false, not_false_eq_true, Option.bind_some, Ok_some, bi_0, bi_n0, bi_01, n_words hi.1, e1]
      exact hq t _ _ hi.1 hi.2
    · have SC : SameA (mkN F) (goS G w u (nwS (mkN F) w (fwt (mkN F) w))) := hS.tr (goS_same h1)
      have wC : WF (goS G w u (nwS (mkN F) w (fwt (mkN F) w))) := goS_wf hG h1 h2 (by omega) (fun u' v' a b c e f => nwb u' v' a (by omega) c e f)
      have eW : ∀ s, 0 ≤ s → s < 2 → wds (goS G w u (nwS (mkN F) w (fwt (mkN F) w))) s = wds (mkN F) s := fun s a b => SC.wds_ a b
      have eP : ∀ v, 0 ≤ v → v < 40 → ptn (goS G w u (nwS (mkN F) w (fwt (mkN F) w))) w u v = ptn (mkN F) w u v := fun v a b => by
        rw [goS_ptn h1 h2 h1 h2 (by omega) hk (by omega) a b (fun u' v' a b c e f => nwb u' v' a (by omega) c e f)]
        unfold ptn
        rw [hsh u v hk (by omega) a b]
      have efw : ∀ v, 0 ≤ v → v < wds (mkN F) (1 - w) → fwt (goS G w u (nwS (mkN F) w (fwt (mkN F) w))) w u v = fwt (mkN F) w u v := by
        intro v v0 v1
        exact SC.fwt_ hw h1 h2 hk hk2 v0 v1
      (try dsimp only)
      rw [m_makesNew_93_e]
      simp (disch := omega) only [↓reduceIte, zinT, wr_id, wrl_id, ltT, ltF, leT, leF, eqT, eqF, ne_eq, not_true_eq_false, not_false_eq_true, Option.bind_some, Ok_some, bi_0, bi_n0, bi_01, n_words hi.1, eW]
      refine Ok_bind (n_partsShares (π := ptn (mkN F) w u) (wt := fwt (mkN F) w u) hi.1 wC h1 h2 hk (by omega) (fun v a b => ?_) (fun v a b => ?_) (Or.inr ⟨rfl, fun t' v f a b _ => ?_⟩)) (fun v2 d2 f2 => ?_)
      · rw [eW _ (by omega) (by omega)] at b
        exact eP v a (by omega)
      · rw [eW _ (by omega) (by omega)] at b
        have := fwt_ok hw h1 h2 hk hk2 v a b
        omega
      · rw [eW _ (by omega) (by omega)] at b
        have fw := n_firstWeight (d := t') (u := u) (v := v) ((f 133 (by omega)).trans hi.1) wC h1 h2 hk (by rw [eW _ h1 h2]; exact hk2) a (by rw [eW _ (by omega) (by omega)]; exact b)
        refine Ok_mono fw (fun x d' h => ⟨?_, h.2⟩)
        rw [h.1]
        exact efw v a b
      · (try dsimp only)
        refine hnext _ _ ⟨?_, hi.2.tr f2.2⟩
        rw [f2.1, eW _ (by omega) (by omega)]
        have gr := goS_row (F := G) (w := w) (u := u) (nw := nwS (mkN F) w (fwt (mkN F) w)) (π := ptn (mkN F) w u) (g := dsh (wds (mkN F) (1 - w)) (ptn (mkN F) w u) (fwt (mkN F) w u)) hG h1 h2 hk (by omega) (fun v a b => by
          have := hS.wds_ (s := 1 - w) (by omega) (by omega)
          unfold ptn
          rw [hsh u v hk (by omega) a (by omega)]) (fun v a b c => rfl)
        rw [hS.wds_ (by omega) (by omega)] at gr
        exact gr
  refine way 0 (mkN F) d (by omega) (by omega) hw (fun q _ => rfl) (fun u v _ _ _ _ => rfl) hF Fr2.rf _ (fun t g2 g3 ht hfr => ?_) g2 g3
  rw [show (0 : Int) + 1 = 1 by omega]
  refine way 1 (mkF0 F) t (by omega) (by omega) (mkF0_wf hw) (goS_same (by omega)) (fun u v a b c e => mkF0_shr1 hw a b c e) ht hfr _ (fun t g2 g3 ht hfr => ?_) g2 g3
  rw [show (1 : Int) + 1 = 2 by omega, m_makesNew_88_e]
  simp (disch := omega) only [↓reduceIte, zinT, wr_id, wrl_id, ltT, ltF, leT, leF, eqT, eqF, ne_eq, not_true_eq_false, not_false_eq_true, Option.bind_some, Ok_some, bi_0, bi_n0, bi_01]
  exact ⟨ht, hfr⟩
theorem n_makesNew (hF : d.m 133 = F) (hw : WF (mkN F)) : Ok (m_makesNew d) (fun _ d' => d'.m 133 = mkF F ∧ Fr2 133 134 143 147 d d') := by
  rw [m_makesNew_e]
  refine lpM (fun k t (y : zV × zV) => m_makesNew_2 t k y.1 y.2) (fun k t _ => Fr 133 134 d t ∧ ∀ q : Nat, t.m 133 q = if 1144 ≤ (q : Int) ∧ (q : Int) < 1144 + k then -1 else F q) 0 3200 (by omega) d ((3, 0), (3, 0)) ⟨Fr.rf, fun q => by rw [if_neg (by omega), hF]⟩ (fun t y hi => ?_) (fun k t y hk hk2 hi hnext => ?_)
  · obtain ⟨g2, g3⟩ := y
    (try dsimp only)
    rw [m_makesNew_2_e]
    simp (disch := omega) only [↓reduceIte, zinT, wr_id, wrl_id, ltT, ltF, leT, leF, eqT, eqF, ne_eq, not_true_eq_false, not_false_eq_true, Option.bind_some, Ok_some, bi_0, bi_n0, bi_01]
    refine lpM (fun k t (y : zV × zV) => m_makesNew_16 t k y.1 y.2) (fun k t _ => Fr 133 134 d t ∧ ∀ q : Nat, t.m 133 q = if 1144 ≤ (q : Int) ∧ (q : Int) < 4344 then -1 else if 8 ≤ (q : Int) ∧ (q : Int) < 8 + k then 12500 else F q) 0 16 (by omega) t (g2, g3) ⟨hi.1, fun q => by rw [hi.2 q, if_neg (show ¬ (8 ≤ (q : Int) ∧ (q : Int) < 8 + 0) by omega)]; rfl⟩ (fun t y hi => ?_) (fun k t y hk hk2 hi hnext => ?_)
    · obtain ⟨g2, g3⟩ := y
      have e : t.m 133 = mkC F (fun _ _ _ => False) := by
        funext q
        have nh : ¬ hit F (fun _ _ _ => False) q := fun ⟨_, _, _, _, _, _, _, _, _, h, _⟩ => h
        rw [hi.2 q]
        by_cases r : 1144 ≤ q ∧ q < 4344
        · rw [if_pos (by omega), mkC_f r nh]
        · rw [if_neg (by omega), mkC_n r]
          by_cases r2 : 8 ≤ q ∧ q < 24
          · rw [if_pos (by omega), if_pos r2]
          · rw [if_neg (by omega), if_neg r2]
      (try dsimp only)
      rw [m_makesNew_16_e]
      simp (disch := omega) only [↓reduceIte, zinT, wr_id, wrl_id, ltT, ltF, leT, leF, eqT, eqF, ne_eq, not_true_eq_false, not_false_eq_true, Option.bind_some, Ok_some, bi_0, bi_n0, bi_01]
      refine n_marks e hw _ _ (fun t2 g2 g3 h2 f2 => ?_)
      refine Ok_mono (n_deals h2 hw g2 g3) (fun v d' h => ⟨h.1, fun r r1 r2 => ((h.2 r r1 r2).trans (f2 r r1)).trans (hi.1 r r1)⟩)
    · obtain ⟨g2, g3⟩ := y
      have z := zix_at (x := 8 + k) (by omega)
      (try dsimp only)
      rw [m_makesNew_16_e]
      simp (disch := omega) only [↓reduceIte, zinT, wr_id, wrl_id, ltT, ltF, leT, leF, eqT, eqF, ne_eq, not_true_eq_false, not_false_eq_true, Option.bind_some, Ok_some, bi_0, bi_n0, bi_01]
      refine hnext _ (_, _) ⟨hi.1.up (by omega) (by omega), fun q => ?_⟩
      rw [u_133, zfu_n]
      by_cases e : q = zix (8 + k)
      · rw [if_pos e, if_neg (by omega), if_pos (by omega)]
      · rw [if_neg e, hi.2 q]
        by_cases r : 1144 ≤ (q : Int) ∧ (q : Int) < 4344
        · rw [if_pos r, if_pos r]
        · rw [if_neg r, if_neg r]
          by_cases r2 : 8 ≤ (q : Int) ∧ (q : Int) < 8 + k
          · rw [if_pos r2, if_pos (by omega)]
          · rw [if_neg r2, if_neg (by omega)]
  · obtain ⟨g2, g3⟩ := y
    have z := zix_at (x := 1144 + k) (by omega)
    (try dsimp only)
    rw [m_makesNew_2_e]
    simp (disch := omega) only [↓reduceIte, zinT, wr_id, wrl_id, ltT, ltF, leT, leF, eqT, eqF, ne_eq, not_true_eq_false, not_false_eq_true, Option.bind_some, Ok_some, bi_0, bi_n0, bi_01]
    refine hnext _ (_, _) ⟨hi.1.up (by omega) (by omega), fun q => ?_⟩
    rw [u_133, zfu_n]
    by_cases e : q = zix (1144 + k)
    · rw [if_pos e, if_pos (by omega)]
    · rw [if_neg e, hi.2 q]
      by_cases r2 : 1144 ≤ (q : Int) ∧ (q : Int) < 1144 + k
      · rw [if_pos r2, if_pos (by omega)]
      · rw [if_neg r2, if_neg (by omega)]
end
