/-! THE MODEL'S ROUND. -/
def rowF (F : Nat → Int) (w u m : Int) (π : Int → Bool) (nw : Int → Int) : Nat → Int := fun q => if 1144 + 1600 * w + 40 * u ≤ (q : Int) ∧ (q : Int) < 1144 + 1600 * w + 40 * u + m ∧ π ((q : Int) - (1144 + 1600 * w + 40 * u)) = true then nw ((q : Int) - (1144 + 1600 * w + 40 * u)) else F q
theorem rowF_0 {F : Nat → Int} {w u : Int} {π : Int → Bool} {nw : Int → Int} : rowF F w u 0 π nw = F := by
  funext q
  exact if_neg (by omega)
theorem rowF_s {F : Nat → Int} {w u m : Int} {π : Int → Bool} {nw : Int → Int} (h1 : 0 ≤ w) (h2 : w < 2) (h3 : 0 ≤ u) (h4 : u < 40) (h5 : 0 ≤ m) (h6 : m < 40) : rowF F w u (m + 1) π nw = if π m then zfu (rowF F w u m π nw) (zix (((1144 + (1600 * w)) + (40 * u)) + m)) (nw m) else rowF F w u m π nw := by
  have e := zix_at (x := ((1144 + (1600 * w)) + (40 * u)) + m) (by omega)
  funext q
  by_cases c : (q : Int) = 1144 + 1600 * w + 40 * u + m
  · have ez : (q : Int) - (1144 + 1600 * w + 40 * u) = m := by omega
    by_cases hp : π m = true
    · rw [if_pos hp]
      unfold rowF zfu
      rw [if_pos ⟨by omega, by omega, by rw [ez]; exact hp⟩, if_pos (by omega), ez]
    · rw [if_neg hp]
      unfold rowF
      rw [if_neg (fun x => hp (by rw [← ez]; exact x.2.2)), if_neg (by omega)]
  · have key : rowF F w u (m + 1) π nw q = rowF F w u m π nw q := by
      unfold rowF
      by_cases c2 : 1144 + 1600 * w + 40 * u ≤ (q : Int) ∧ (q : Int) < 1144 + 1600 * w + 40 * u + m ∧ π ((q : Int) - (1144 + 1600 * w + 40 * u)) = true
      · rw [if_pos c2, if_pos ⟨c2.1, by omega, c2.2.2⟩]
      · rw [if_neg c2, if_neg (fun x => c2 ⟨x.1, by omega, x.2.2⟩)]
    rw [key]
    by_cases hp : π m = true
    · rw [if_pos hp]
      unfold zfu
      rw [if_neg (by omega)]
    · rw [if_neg hp]
theorem rowF_rd {F : Nat → Int} {w u m : Int} {π : Int → Bool} {nw : Int → Int} {x : Int} (hx : 0 ≤ x ∧ x ≤ 2147483647) (h : x < 1144 + 1600 * w + 40 * u ∨ 1144 + 1600 * w + 40 * u + m ≤ x) : rowF F w u m π nw (zix x) = F (zix x) := by
  have e := zix_at hx
  exact if_neg (by omega)
section
variable {P : zP} {d : zD P} {F : Nat → Int}
theorem n_partsPlaces (hF : d.m 133 = F) (hw : WF F) {w p j : Int} (h1 : 0 ≤ w) (h2 : w < 2) (h3 : 0 ≤ p) (h4 : p < prs F) (h7 : 0 ≤ j) (h8 : j < lng F p (1 - w)) : Ok (m_partsPlaces d w p j) (fun _ d' => Fr 143 146 d d' ∧ ∀ k, 0 ≤ k → k < lng F p w → d'.m 145 (zix k) = pt (lng F p w) (fun i => wth F w p i j) k) := by
  have l := hw.lng_ h3 h4 h1 h2
  have q := hw.prs_
  rw [m_partsPlaces_e]
  refine lpD (fun k t => m_partsPlaces_2 t w p j k) (fun k t => Fr 143 144 d t ∧ ∀ i, 0 ≤ i → i < k → t.m 143 (zix i) = wth F w p i j) 0 (lng F p w) (by omega) d ⟨Fr.rf, fun i _ _ => by omega⟩ (fun t hi => ?_) (fun k t hk hk2 hi hnext => ?_)
  · have hF' : t.m 133 = F := (hi.1 133 (by omega)).trans hF
    (try dsimp only)
    rw [m_partsPlaces_2_e]
    simp (disch := omega) only [↓reduceIte, zinT, wr_id, wrl_id, ltT, ltF, leT, leF, eqT, eqF, ne_eq, not_true_eq_false, not_false_eq_true, Option.bind_some, Ok_some, bi_0, bi_n0, bi_01, n_longOf hF']
    refine Ok_bind (n_parts (by omega) (by omega) hi.2 (wth_ok hw h1 h2 h3 h4 h7 h8)) (fun v d' h' => ?_)
    exact Ok_ret ⟨(hi.1.mo (by omega) (by omega)).tr h'.1, h'.2⟩
  · have hF' : t.m 133 = F := (hi.1 133 (by omega)).trans hF
    (try dsimp only)
    rw [m_partsPlaces_2_e]
    simp (disch := omega) only [↓reduceIte, zinT, wr_id, wrl_id, ltT, ltF, leT, leF, eqT, eqF, ne_eq, not_true_eq_false, not_false_eq_true, Option.bind_some, Ok_some, bi_0, bi_n0, bi_01, n_longOf hF', n_worth hF' hw]
    refine hnext _ ?_
    refine ⟨hi.1.up (by omega) (by omega), ?_⟩
    rw [u_143]
    exact zfu_next (g := fun i => wth F w p i j) hi.2 hk (by omega)
theorem n_counts (hF : d.m 133 = F) (hw : WF F) {w : Int} (h1 : 0 ≤ w) (h2 : w < 2) : Ok (m_counts d w) (fun _ d' => Fr 143 149 d d' ∧ tM (d'.m 147) (d'.m 148) (cnt F w)) := by
  have q := hw.prs_
  have e0 : F (zix 0) = prs F := rfl
  rw [m_counts_e]
  refine lpD (fun k t => m_counts_2 t w k (3, 0) (3, 0) (3, 0) (3, 0)) (fun k t => Fr 143 149 d t ∧ ∀ i, 0 ≤ i → i < k → t.m 147 (zix i) = 0) 0 1600 (by omega) d ⟨Fr.rf, fun i _ _ => by omega⟩ (fun t hi => ?_) (fun k t hk hk2 hi hnext => ?_)
  · (try dsimp only)
    rw [m_counts_2_e]
    simp (disch := omega) only [↓reduceIte, zinT, wr_id, wrl_id, ltT, ltF, leT, leF, eqT, eqF, ne_eq, not_true_eq_false, not_false_eq_true, Option.bind_some, Ok_some, bi_0, bi_n0, bi_01]
    refine lpD (fun k t => m_counts_14 t w k (3, 0) (3, 0) (3, 0) (3, 0)) (fun k e => Fr 143 149 d e ∧ (∀ i, 0 ≤ i → i < 1600 → e.m 147 (zix i) = 0) ∧ ∀ i, 0 ≤ i → i < k → e.m 148 (zix i) = 0) 0 8 (by omega) t ⟨hi.1, hi.2, fun i _ _ => by omega⟩ (fun t hi => ?_) (fun k t hk hk2 hi hnext => ?_)
    · (try dsimp only)
      rw [m_counts_14_e]
      simp (disch := omega) only [↓reduceIte, zinT, wr_id, wrl_id, ltT, ltF, leT, leF, eqT, eqF, ne_eq, not_true_eq_false, not_false_eq_true, Option.bind_some, Ok_some, bi_0, bi_n0, bi_01]
      refine lpM (fun k e (y : zV × zV × zV × zV) => m_counts_26 e w k y.1 y.2.1 y.2.2.1 y.2.2.2) (fun k e _ => Fr 143 149 d e ∧ tM (e.m 147) (e.m 148) (cnP F w k)) 0 (prs F) (by omega) t ((3, 0), (3, 0), (3, 0), (3, 0)) ⟨hi.1, hi.2.1, hi.2.2⟩ (fun e y hi => ?_) (fun k e y hk hk2 hi hnext => ?_)
      · have hF' : e.m 133 = F := (hi.1 133 (by omega)).trans hF
        (try dsimp only)
        rw [m_counts_26_e]
        simp (disch := omega) only [↓reduceIte, zinT, wr_id, wrl_id, ltT, ltF, leT, leF, eqT, eqF, ne_eq, not_true_eq_false, not_false_eq_true, Option.bind_some, Ok_some, bi_0, bi_n0, bi_01, hF', e0]
        exact hi
      · obtain ⟨g3, g4, g5, g6⟩ := y
        have hF' : e.m 133 = F := (hi.1 133 (by omega)).trans hF
        have l := hw.lng_ hk hk2 (s := 1 - w) (by omega) (by omega)
        have l' := hw.lng_ hk hk2 h1 h2
        (try dsimp only)
        rw [m_counts_26_e]
        simp (disch := omega) only [↓reduceIte, zinT, wr_id, wrl_id, ltT, ltF, leT, leF, eqT, eqF, ne_eq, not_true_eq_false, not_false_eq_true, Option.bind_some, Ok_some, bi_0, bi_n0, bi_01, hF', e0]
        refine lpM (fun j e (y : zV × zV × zV) => m_counts_34 e w k j y.1 y.2.1 y.2.2) (fun j e _ => Fr 143 149 d e ∧ tM (e.m 147) (e.m 148) (cnJ F w k j (cnP F w k))) 0 (lng F k (1 - w)) (by omega) e (g4, g5, g6) hi (fun e y hi => ?_) (fun j e y hj hj2 hi hnext2 => ?_)
        · obtain ⟨g4, g5, g6⟩ := y
          have hF' : e.m 133 = F := (hi.1 133 (by omega)).trans hF
          (try dsimp only)
          rw [m_counts_34_e]
          simp (disch := omega) only [↓reduceIte, zinT, wr_id, wrl_id, ltT, ltF, leT, leF, eqT, eqF, ne_eq, not_true_eq_false, not_false_eq_true, Option.bind_some, Ok_some, bi_0, bi_n0, bi_01, n_longOf hF']
          refine hnext _ (_, _, _, _) ?_
          refine ⟨hi.1, ?_⟩
          unfold cnP
          rw [fo_s _ _ hk]
          exact hi.2
        · obtain ⟨g4, g5, g6⟩ := y
          have hF' : e.m 133 = F := (hi.1 133 (by omega)).trans hF
          (try dsimp only)
          rw [m_counts_34_e]
          simp (disch := omega) only [↓reduceIte, zinT, wr_id, wrl_id, ltT, ltF, leT, leF, eqT, eqF, ne_eq, not_true_eq_false, not_false_eq_true, Option.bind_some, Ok_some, bi_0, bi_n0, bi_01, n_longOf hF']
          refine Ok_bind (n_partsPlaces hF' hw h1 h2 hk hk2 hj hj2) (fun v3 d3 f3 => ?_)
          (try dsimp only)
          have t3 : tM (d3.m 147) (d3.m 148) (cnJ F w k j (cnP F w k)) := by rw [f3.1 147 (by omega), f3.1 148 (by omega)]; exact hi.2
          refine lpM (fun i e (y : zV × zV) => m_counts_49 e w k j i y.1 y.2) (fun i e _ => Fr 147 149 d3 e ∧ tM (e.m 147) (e.m 148) (cnI F w k j i (cnJ F w k j (cnP F w k)))) 0 (lng F k w) (by omega) d3 (g5, g6) ⟨Fr.rf, t3⟩ (fun e y hi2 => ?_) (fun i e y hi0 hi1 hi2 hnext3 => ?_)
          · have hF' : e.m 133 = F := ((hi2.1 133 (by omega)).trans (f3.1 133 (by omega))).trans hF'
            (try dsimp only)
            rw [m_counts_49_e]
            simp (disch := omega) only [↓reduceIte, zinT, wr_id, wrl_id, ltT, ltF, leT, leF, eqT, eqF, ne_eq, not_true_eq_false, not_false_eq_true, Option.bind_some, Ok_some, bi_0, bi_n0, bi_01, n_longOf hF']
            refine hnext2 _ (_, _, _) ?_
            refine ⟨(hi.1.tr (f3.1.mo (by omega) (by omega))).tr (hi2.1.mo (by omega) (by omega)), ?_⟩
            unfold cnJ
            rw [fo_s _ _ hj]
            exact hi2.2
          · have hF' : e.m 133 = F := ((hi2.1 133 (by omega)).trans (f3.1 133 (by omega))).trans hF'
            have q3 := hw.wrd_ hk hk2 h1 h2 hi0 hi1
            have q4 := hw.wrd_ hk hk2 (s := 1 - w) (by omega) (by omega) hj hj2
            have q5 := nrn_le hw h1 h2 hk hk2 hi0 hi1 hj hj2
            have q6 := hw.wds_ h1 h2
            have q7 := hw.wds_ (s := 1 - w) (by omega) (by omega)
            have g1 : e.m 145 (zix i) = pt (lng F k w) (fun i => wth F w k i j) i := by rw [hi2.1 145 (by omega)]; exact f3.2 i hi0 hi1
            (try dsimp only)
            rw [m_counts_49_e]
            simp (disch := omega) only [↓reduceIte, zinT, wr_id, wrl_id, ltT, ltF, leT, leF, eqT, eqF, ne_eq, not_true_eq_false, not_false_eq_true, Option.bind_some, Ok_some, bi_0, bi_n0, bi_01, n_longOf hF', n_wordOf hF', n_nearness hF' hw, g1, up_ne]
            refine hnext3 _ (_, _) ?_
            refine ⟨(hi2.1.up (by omega) (by omega)).up (by omega) (by omega), ?_⟩
            rw [up_ne (by omega), u_147, u_148, up_ne (by omega)]
            have := tM_up hi2.2 (x := 40 * wrd F k w i + wrd F k (1 - w) j) (y := nrn F w k i j) (v := pt (lng F k w) (fun i => wth F w k i j) i) (by omega) (by omega)
            unfold cnI
            rw [fo_s _ _ hi0]
            exact this
    · (try dsimp only)
      rw [m_counts_14_e]
      simp (disch := omega) only [↓reduceIte, zinT, wr_id, wrl_id, ltT, ltF, leT, leF, eqT, eqF, ne_eq, not_true_eq_false, not_false_eq_true, Option.bind_some, Ok_some, bi_0, bi_n0, bi_01]
      refine hnext _ ?_
      refine ⟨hi.1.up (by omega) (by omega), ?_, ?_⟩
      · rw [up_ne (by omega)]; exact hi.2.1
      · rw [u_148]
        exact zfu_next (g := fun _ => 0) hi.2.2 hk (by omega)
  · (try dsimp only)
    rw [m_counts_2_e]
    simp (disch := omega) only [↓reduceIte, zinT, wr_id, wrl_id, ltT, ltF, leT, leF, eqT, eqF, ne_eq, not_true_eq_false, not_false_eq_true, Option.bind_some, Ok_some, bi_0, bi_n0, bi_01]
    refine hnext _ ?_
    refine ⟨hi.1.up (by omega) (by omega), ?_⟩
    rw [u_147]
    exact zfu_next (g := fun _ => 0) hi.2 hk (by omega)
theorem n_partsShares (hF : d.m 133 = F) (hw : WF F) {w u b : Int} {π : Int → Bool} {wt : Int → Int} (h1 : 0 ≤ w) (h2 : w < 2) (h3 : 0 ≤ u) (h4 : u < 40) (hπ : ∀ v, 0 ≤ v → v < wds F (1 - w) → ptn F w u v = π v) (hok : ∀ v, 0 ≤ v → v < wds F (1 - w) → 0 ≤ wt v ∧ wt v ≤ 40000000000) (hb : (b = 0 ∧ ∀ v, 0 ≤ v → v < wds F (1 - w) → d.m 147 (zix ((40 * u) + v)) = wt v ∧ wt v ≤ 2000000000) ∨ (b = 1 ∧ ∀ t v, Fr 143 147 d t → 0 ≤ v → v < wds F (1 - w) → π v = true → Ok (m_firstWeight t w u v) (fun x t' => x = wt v ∧ Fr 146 147 t t'))) : Ok (m_partsShares d w u b) (fun _ d' => d'.m 133 = rowF F w u (wds F (1 - w)) π (dsh (wds F (1 - w)) π wt) ∧ Fr2 133 134 143 147 d d') := by
  have q := hw.wds_ (s := 1 - w) (by omega) (by omega)
  have hi32 : ∀ v, 0 ≤ v → v < wds F (1 - w) → I32 (shr F w u v) := fun v a b => by
    have := hw.shr_ h1 h2 h3 h4 a (by omega : v < 40)
    unfold I32
    omega
  rw [m_partsShares_e]
  refine lpM (fun k t n => m_partsShares_4 t w u b n k) (fun k t n => Fr 143 147 d t ∧ n = (gat k π wt).1 ∧ ∀ i, 0 ≤ i → i < n → t.m 143 (zix i) = (gat k π wt).2 i) 0 (wds F (1 - w)) q.1 d 0 ⟨Fr.rf, rfl, fun i _ _ => by omega⟩ (fun t n hi => ?_) (fun k t n hk hk2 hi hnext => ?_)
  · have hF' : t.m 133 = F := (hi.1 133 (by omega)).trans hF
    have a := cnt_bi (π := π) q.1 (Int.le_refl _)
    rw [← gat_n (wt := wt) q.1] at a
    have hn := hi.2.1
    subst hn
    (try dsimp only)
    rw [m_partsShares_4_e]
    simp (disch := omega) only [↓reduceIte, zinT, wr_id, wrl_id, ltT, ltF, leT, leF, eqT, eqF, ne_eq, not_true_eq_false, not_false_eq_true, Option.bind_some, Ok_some, bi_0, bi_n0, bi_01, n_words hF']
    refine Ok_bind (n_parts a.1 (by omega) hi.2.2 (gat_ok q.1 hok)) (fun v2 d2 f2 => ?_)
    (try dsimp only)
    have hF2 : d2.m 133 = F := (f2.1 133 (by omega)).trans hF'
    refine lpM (fun k e (y : zV × Int) => m_partsShares_52 e w u y.1 y.2 k) (fun k e y => y.2 = sm k (fun o => bi (π o)) ∧ Fr 133 134 d2 e ∧ e.m 133 = rowF F w u k π (dsh (wds F (1 - w)) π wt)) 0 (wds F (1 - w)) q.1 d2 ((0, b), 0) ⟨rfl, Fr.rf, by rw [rowF_0]; exact hF2⟩ (fun e y hj => ?_) (fun k e y hk hk2 hj hnext => ?_)
    · have e1 : wds (rowF F w u (wds F (1 - w)) π (dsh (wds F (1 - w)) π wt)) (1 - w) = wds F (1 - w) := rowF_rd (by omega) (by omega)
      obtain ⟨g, n⟩ := y
      (try dsimp only at hj ⊢)
      rw [m_partsShares_52_e]
      simp (disch := omega) only [↓reduceIte, zinT, wr_id, wrl_id, ltT, ltF, leT, leF, eqT, eqF, ne_eq, not_true_eq_false, not_false_eq_true, Option.bind_some, Ok_some, bi_0, bi_n0, bi_01, n_words hj.2.2, e1]
      exact ⟨hj.2.2, fun r r1 r2 => ((hj.2.1 r r1).trans (f2.1 r (by omega))).trans (hi.1 r (by omega))⟩
    · obtain ⟨g, n⟩ := y
      (try dsimp only at hj ⊢)
      have e1 : wds (rowF F w u k π (dsh (wds F (1 - w)) π wt)) (1 - w) = wds F (1 - w) := rowF_rd (by omega) (by omega)
      have e2 : shr (rowF F w u k π (dsh (wds F (1 - w)) π wt)) w u k = shr F w u k := rowF_rd (by omega) (by omega)
      have e3 : ptn (rowF F w u k π (dsh (wds F (1 - w)) π wt)) w u k = π k := by rw [← hπ k hk hk2]; unfold ptn; rw [e2]
      have b1 := cnt_bi (π := π) hk (by omega : k ≤ wds F (1 - w))
      have c1 := hi32 k hk hk2
      rw [← e2] at c1
      have hs := n_isPartner hj.2.2 h1 h2 h3 h4 hk (by omega : k < 40) c1
      rw [m_partsShares_52_e]
      simp (disch := omega) only [↓reduceIte, zinT, wr_id, wrl_id, ltT, ltF, leT, leF, eqT, eqF, ne_eq, not_true_eq_false, not_false_eq_true, Option.bind_some, Ok_some, bi_0, bi_n0, bi_01, n_words hj.2.2, e1, hs, e3]
      by_cases hp : π k = true
      · have b2 := cnt_lt (π := π) hk hk2 hp
        have b3 := gat_n (m := wds F (1 - w)) (π := π) (wt := wt) q.1
        have b4 := cnt_bi (π := π) q.1 (Int.le_refl (wds F (1 - w)))
        have b5 := hj.1
        have e4 : e.m 145 (zix n) = dsh (wds F (1 - w)) π wt k := by
          rw [hj.2.1 145 (by omega), b5]
          exact f2.2 _ b1.1 (by omega)
        rw [hp]
        simp (disch := omega) only [↓reduceIte, zinT, wr_id, wrl_id, ltT, ltF, leT, leF, eqT, eqF, ne_eq, not_true_eq_false, not_false_eq_true, Option.bind_some, Ok_some, bi_0, bi_n0, bi_01, if_true, m_setsShare_e, e4]
        refine hnext _ (_, _) ?_
        refine ⟨?_, hj.2.1.up (by omega) (by omega), ?_⟩
        · (try dsimp only)
          rw [sm_s _ hk, hp, b5]; rfl
        · rw [u_133, hj.2.2, rowF_s h1 h2 h3 h4 hk (by omega), if_pos hp]
      · have hp' : π k = false := by simpa using hp
        rw [hp']
        simp (disch := omega) only [↓reduceIte, zinT, wr_id, wrl_id, ltT, ltF, leT, leF, eqT, eqF, ne_eq, not_true_eq_false, not_false_eq_true, Option.bind_some, Ok_some, bi_0, bi_n0, bi_01, if_false, Bool.false_eq_true]
        refine hnext _ (_, _) ?_
        refine ⟨?_, hj.2.1, ?_⟩
        · (try dsimp only)
          rw [sm_s _ hk, hp', hj.1]; simp [bi]
        · rw [hj.2.2, rowF_s h1 h2 h3 h4 hk (by omega), if_neg hp]
  · have hF' : t.m 133 = F := (hi.1 133 (by omega)).trans hF
    have a := cnt_bi (π := π) hk (Int.le_refl k)
    rw [← gat_n (wt := wt) hk] at a
    have hs := n_isPartner hF' h1 h2 h3 h4 hk (by omega : k < 40) (hi32 k hk hk2)
    rw [hπ k hk hk2] at hs
    have hn := hi.2.1
    subst hn
    (try dsimp only)
    rw [m_partsShares_4_e]
    simp (disch := omega) only [↓reduceIte, zinT, wr_id, wrl_id, ltT, ltF, leT, leF, eqT, eqF, ne_eq, not_true_eq_false, not_false_eq_true, Option.bind_some, Ok_some, bi_0, bi_n0, bi_01, n_words hF', hs]
    by_cases hp : π k = true
    · have fin : ∀ t' : zD P, Fr 143 147 d t' → (∀ i, 0 ≤ i → i < (gat k π wt).1 → t'.m 143 (zix i) = (gat k π wt).2 i) → Fr 143 147 d (t'.up 143 (zix (gat k π wt).1) (wt k)) ∧ (gat k π wt).1 + 1 = (gat (k + 1) π wt).1 ∧ ∀ i, 0 ≤ i → i < (gat k π wt).1 + 1 → (t'.up 143 (zix (gat k π wt).1) (wt k)).m 143 (zix i) = (gat (k + 1) π wt).2 i := by
        intro t' x1 x2
        refine ⟨x1.up (by omega) (by omega), by rw [gat_s hk, if_pos hp], fun i i0 i1 => ?_⟩
        rw [gat_s hk, if_pos hp, u_143, zfu_z (by omega)]
        (try dsimp only)
        by_cases e : i = (gat k π wt).1
        · rw [if_pos e, if_pos e]
        · rw [if_neg e, if_neg e]; exact x2 i i0 (by omega)
      rw [hp]
      rcases hb with ⟨rfl, hb⟩ | ⟨rfl, hb⟩
      · have e5 : t.m 147 (zix ((40 * u) + k)) = wt k := by rw [hi.1 147 (by omega)]; exact (hb k hk hk2).1
        have e6 := (hb k hk hk2).2
        have e7 := hok k hk hk2
        simp (disch := omega) only [↓reduceIte, zinT, wr_id, wrl_id, ltT, ltF, leT, leF, eqT, eqF, ne_eq, not_true_eq_false, not_false_eq_true, Option.bind_some, Ok_some, bi_0, bi_n0, bi_01, if_true, e5]
        refine hnext _ _ ?_
        exact fin t hi.1 hi.2.2
      · simp (disch := omega) only [↓reduceIte, zinT, wr_id, wrl_id, ltT, ltF, leT, leF, eqT, eqF, ne_eq, not_true_eq_false, not_false_eq_true, Option.bind_some, Ok_some, bi_0, bi_n0, bi_01, if_true]
        refine Ok_bind (hb t k hi.1 hk hk2 hp) (fun v3 d3 f3 => ?_)
        obtain ⟨rfl, f3⟩ := f3
        simp (disch := omega) only [↓reduceIte, zinT, wr_id, wrl_id, ltT, ltF, leT, leF, eqT, eqF, ne_eq, not_true_eq_false, not_false_eq_true, Option.bind_some, Ok_some, bi_0, bi_n0, bi_01]
        refine hnext _ _ ?_
        exact fin d3 (hi.1.tr (f3.mo (by omega) (by omega))) (fun i a b => by rw [f3 143 (by omega)]; exact hi.2.2 i a b)
    · have hp' : π k = false := by simpa using hp
      rw [hp']
      simp (disch := omega) only [↓reduceIte, zinT, wr_id, wrl_id, ltT, ltF, leT, leF, eqT, eqF, ne_eq, not_true_eq_false, not_false_eq_true, Option.bind_some, Ok_some, bi_0, bi_n0, bi_01, if_false, Bool.false_eq_true]
      refine hnext _ _ ?_
      rw [gat_s hk, if_neg hp]
      exact ⟨hi.1, rfl, hi.2.2⟩
end
