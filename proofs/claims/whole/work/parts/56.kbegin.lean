/-! SHARES BEGUN: the class. -/
section
variable {P : zP} {d : zD P} {F G : Nat → Int}
theorem k_weighAtFirst (h : CA d G) {w u : Int} (h1 : 0 ≤ w) (h2 : w < 2) (h3 : 0 ≤ u) (h4 : u < wds G w) : Ok (ro_weighAtFirst d w u) (fun _ d' => gM d d' (gat (wds G (1 - w)) (ptn G w u) (fwt G w u))) := by
  have q0 := h.wf.wds_ h1 h2
  have q := h.wf.wds_ (s := 1 - w) (by omega) (by omega)
  have hl := h.wf.ltd_
  rw [ro_weighAtFirst_e, pa_clear_e]
  simp (disch := omega) only [↓reduceIte, zinT, wr_id, wrl_id, ltT, ltF, leT, leF, eqT, eqF, ne_eq, not_true_eq_false, not_false_eq_true, Option.bind_some, Ok_some, bi_0, bi_n0, bi_01]
  refine lpM (fun k t (g : zV) => ro_weighAtFirst_8 t w u k g) (fun k t _ => gM d t (gat k (ptn G w u) (fwt G w u))) 0 (wds G (1 - w)) q.1 _ (3, 0) ⟨Fr.rf.up (by omega) (by omega), by rw [u_109_3]; rfl, fun i _ b => by have : (gat 0 (ptn G w u) (fwt G w u)).1 = 0 := rfl; omega⟩ (fun t g hi => ?_) (fun k t g hk hk2 hi hnext => ?_)
  · have hc : CA t G := h.Fr hi.1 (by omega)
    (try dsimp only)
    rw [ro_weighAtFirst_8_e]
    simp (disch := omega) only [↓reduceIte, zinT, wr_id, wrl_id, ltT, ltF, leT, leF, eqT, eqF, ne_eq, not_true_eq_false, not_false_eq_true, Option.bind_some, Ok_some, bi_0, bi_n0, bi_01, hc.wds_]
    exact hi
  · have hc : CA t G := h.Fr hi.1 (by omega)
    have b := cnt_bi (π := ptn G w u) hk (Int.le_refl k)
    rw [← gat_n (wt := fwt G w u) hk] at b
    (try dsimp only)
    rw [ro_weighAtFirst_8_e]
    simp (disch := omega) only [↓reduceIte, zinT, wr_id, wrl_id, ltT, ltF, leT, leF, eqT, eqF, ne_eq, not_true_eq_false, not_false_eq_true, Option.bind_some, Ok_some, bi_0, bi_n0, bi_01, hc.wds_, k_arePartners hc]
    by_cases hp : ptn G w u k = true
    · have tk := gM_take (wt := fwt G w u) hi hk (by omega) hp
      rw [hp]
      by_cases cl : ltd G = 0
      · have ef : fwt G w u k = 1 := if_pos cl
        rw [ef] at tk
        simp (disch := omega) only [↓reduceIte, zinT, wr_id, wrl_id, ltT, ltF, leT, leF, eqT, eqF, ne_eq, not_true_eq_false, not_false_eq_true, Option.bind_some, Ok_some, bi_0, bi_n0, bi_01, hc.ltd_, k_weigh hi.2.1, if_false, Bool.true_eq_false]
        refine hnext _ _ ?_
        exact tk
      · have ef : fwt G w u k = 1 + 3 * (if w = 0 then lik G u k else lik G k u) := if_neg cl
        rw [ef] at tk
        rcases (by omega : w = 0 ∨ w = 1) with rfl | rfl
        · have v1 : k < wds G 1 := by rw [show (1 : Int) - 0 = 1 by omega] at hk2; exact hk2
          have n10 : (1 : Int) - 0 = 1 := by omega
          have cm := k_common0 (d := t) h.wf h3 h4 hk v1
          have lb := lik_le h.wf h3 h4 hk v1
          rw [if_pos rfl] at tk
          simp (disch := omega) only [↓reduceIte, zinT, wr_id, wrl_id, ltT, ltF, leT, leF, eqT, eqF, ne_eq, not_true_eq_false, not_false_eq_true, Option.bind_some, Ok_some, bi_0, bi_n0, bi_01, hc.ltd_, n10, hc.key_, cm, k_weigh hi.2.1, if_false, Bool.true_eq_false]
          refine hnext _ _ ?_
          exact tk
        · have v1 : k < wds G 0 := by rw [show (1 : Int) - 1 = 0 by omega] at hk2; exact hk2
          have n11 : (1 : Int) - 1 = 0 := by omega
          have cm := k_common1 (d := t) h.wf hk v1 h3 h4
          have lb := lik_le h.wf hk v1 h3 h4
          rw [if_neg (by decide)] at tk
          simp (disch := omega) only [↓reduceIte, zinT, wr_id, wrl_id, ltT, ltF, leT, leF, eqT, eqF, ne_eq, not_true_eq_false, not_false_eq_true, Option.bind_some, Ok_some, bi_0, bi_n0, bi_01, hc.ltd_, n11, hc.key_, cm, k_weigh hi.2.1, if_false, Bool.true_eq_false]
          refine hnext _ _ ?_
          exact tk
    · have hp' : ptn G w u k = false := by simpa using hp
      rw [hp']
      simp (disch := omega) only [↓reduceIte, zinT, wr_id, wrl_id, ltT, ltF, leT, leF, eqT, eqF, ne_eq, not_true_eq_false, not_false_eq_true, Option.bind_some, Ok_some, bi_0, bi_n0, bi_01, if_true]
      refine hnext _ _ ?_
      exact gM_skip hi hk hp'
theorem k_begin (h : CA d (mkN F)) : Ok (ro_begin d) (fun _ d' => CI d' (mkF F) ∧ Fr2 36 41 109 113 d d') := by
  have hw := h.wf
  rw [ro_begin_e]
  refine lpM (fun w t (g : zV) => ro_begin_2 t w g) (fun w t _ => Fr2 36 41 109 113 d t ∧ (∀ w' u v, 0 ≤ w' → w' < w → 0 ≤ u → u < 40 → 0 ≤ v → v < 40 → t.m (35 + (1 + zix w')) (zix ((u * 40) + v)) = if shr (mkF F) w' u v = -1 then 0 else shr (mkF F) w' u v) ∧ ∀ w' k, 0 ≤ w' → w' < w → 0 ≤ k → k < 8 → t.m (38 + (1 + zix w')) (zix k) = 12500) 0 2 (by omega) d (3, 0) ⟨Fr2.rf, fun w' u v a b => by omega, fun w' k a b => by omega⟩ (fun t g hi => ?_) (fun w t g h1 h2 hi hnext => ?_)
  · (try dsimp only)
    rw [ro_begin_2_e]
    simp (disch := omega) only [↓reduceIte, zinT, wr_id, wrl_id, ltT, ltF, leT, leF, eqT, eqF, ne_eq, not_true_eq_false, not_false_eq_true, Option.bind_some, Ok_some, bi_0, bi_n0, bi_01]
    refine ⟨ci_new h mkF_same (mkF_wf hw) (fun w u v a1 a2 a3 a4 a5 a6 => mkF_ptn hw a1 a2 a3 a4 a5 a6) (fun r r1 r2 => hi.1 r (by omega) (by omega)) hi.2.1 (fun w k a1 a2 a3 a4 => by rw [hi.2.2 w k a1 a2 a3 a4, mkF_ner a1 a2 a3 a4]), hi.1⟩
  · have q := hw.wds_ h1 h2
    have q' := hw.wds_ (s := 1 - w) (by omega) (by omega)
    have z2 := zix2 h1 h2
    have zz : ∀ w', 0 ≤ w' → w' < w → zix w' ≠ zix w := fun w' a c e => by rw [zix_id (by omega), zix_id (by omega)] at e; omega
    have k35 : zkd (35 + (1 + zix w)) = 20 := by
      rw [zix_id (by omega)]
      rcases (by omega : w = 0 ∨ w = 1) with rfl | rfl <;> rfl
    have n35 : zln P (35 + (1 + zix w)) = 1600 := by
      rw [zix_id (by omega)]
      rcases (by omega : w = 0 ∨ w = 1) with rfl | rfl <;> rfl
    have k38 : zkd (38 + (1 + zix w)) = 20 := by
      rw [zix_id (by omega)]
      rcases (by omega : w = 0 ∨ w = 1) with rfl | rfl <;> rfl
    have n38 : zln P (38 + (1 + zix w)) = 8 := by
      rw [zix_id (by omega)]
      rcases (by omega : w = 0 ∨ w = 1) with rfl | rfl <;> rfl
    (try dsimp only)
    rw [ro_begin_2_e]
    simp (disch := omega) only [↓reduceIte, zinT, wr_id, wrl_id, ltT, ltF, leT, leF, eqT, eqF, ne_eq, not_true_eq_false, not_false_eq_true, Option.bind_some, Ok_some, bi_0, bi_n0, bi_01]
    refine Ok_bind (k_fill (v := 0) k35 n35 (by omega)) (fun v1 d1 f1 => ?_)
    simp (disch := omega) only [↓reduceIte, zinT, wr_id, wrl_id, ltT, ltF, leT, leF, eqT, eqF, ne_eq, not_true_eq_false, not_false_eq_true, Option.bind_some, Ok_some, bi_0, bi_n0, bi_01]
    refine Ok_bind (k_fill (v := 12500) k38 n38 (by omega)) (fun v2 d2 f2 => ?_)
    have fr2 : Fr2 36 41 109 113 d d2 := fun r r1 r2 => ((f2.1 r (by omega)).trans (f1.1 r (by omega))).trans (hi.1 r r1 r2)
    have s2 : ∀ u v, 0 ≤ u → u < 40 → 0 ≤ v → v < 40 → d2.m (35 + (1 + zix w)) (zix ((u * 40) + v)) = 0 := fun u v a b c e => by
      rw [f2.1 _ (by omega)]
      exact f1.2 _ (by omega) (by omega)
    have o2 : ∀ w' u v, 0 ≤ w' → w' < w → 0 ≤ u → u < 40 → 0 ≤ v → v < 40 → d2.m (35 + (1 + zix w')) (zix ((u * 40) + v)) = if shr (mkF F) w' u v = -1 then 0 else shr (mkF F) w' u v := fun w' u v a b c e f g => by
      have := zz w' a b
      have := zix2 a (by omega : w' < 2)
      rw [f2.1 _ (by omega), f1.1 _ (by omega)]
      exact hi.2.1 w' u v a b c e f g
    have n2 : ∀ w' k, 0 ≤ w' → w' < w + 1 → 0 ≤ k → k < 8 → d2.m (38 + (1 + zix w')) (zix k) = 12500 := fun w' k a b c e => by
      by_cases ew : w' = w
      · rw [ew]; exact f2.2 k c (by omega)
      · have := zz w' a (by omega)
        have := zix2 a (by omega : w' < 2)
        rw [f2.1 _ (by omega), f1.1 _ (by omega)]
        exact hi.2.2 w' k a (by omega) c e
    (try dsimp only)
    refine lpD (fun u t => ro_begin_19 t w u) (fun u t => (∀ r, r ≠ 35 + (1 + zix w) → (r < 109 ∨ 113 ≤ r) → t.m r = d2.m r) ∧ ∀ u' v', 0 ≤ u' → u' < 40 → 0 ≤ v' → v' < 40 → t.m (35 + (1 + zix w)) (zix ((u' * 40) + v')) = if u' < u ∧ shr (mkN F) w u' v' ≠ -1 then nwS (mkN F) w (fwt (mkN F) w) u' v' else 0) 0 (wds (mkN F) w) q.1 d2 ⟨fun _ _ _ => rfl, fun u' v' a b c e => by rw [if_neg (by omega)]; exact s2 u' v' a b c e⟩ (fun t hj => ?_) (fun u t hk hk2 hj hnext2 => ?_)
    · have hc : CA t (mkN F) := h.fr (fun r r1 r2 => (hj.1 r (by omega) (by omega)).trans (fr2 r (by omega) (by omega)))
      (try dsimp only)
      rw [ro_begin_19_e]
      simp (disch := omega) only [↓reduceIte, zinT, wr_id, wrl_id, ltT, ltF, leT, leF, eqT, eqF, ne_eq, not_true_eq_false, not_false_eq_true, Option.bind_some, Ok_some, bi_0, bi_n0, bi_01, hc.wds_]
      refine hnext _ _ ⟨fun r r1 r2 => (hj.1 r (by omega) (by omega)).trans (fr2 r r1 r2), fun w' u v a b c e f g => ?_, fun w' k a b c e => ?_⟩
      · by_cases ew : w' = w
        · subst ew
          rw [hj.2 u v c e f g, mkF_shr hw h1 h2 c e f g]
          by_cases cs : shr (mkN F) w' u v = -1
          · rw [if_neg (fun x => x.2 cs), if_pos cs, if_pos rfl]
          · have o := hw.out h1 h2 c e f g cs
            have nb := fwt_nw hw h1 h2 u v c o.1 f g cs
            rw [if_pos ⟨o.1, cs⟩, if_neg cs, if_neg (by omega)]
        · have := zz w' a (by omega)
          have := zix2 a (by omega : w' < 2)
          rw [hj.1 _ (by omega) (by omega)]
          exact o2 w' u v a (by omega) c e f g
      · have := zix2 a (by omega : w' < 2)
        rw [hj.1 _ (by omega) (by omega)]
        exact n2 w' k a b c e
    · have hc : CA t (mkN F) := h.fr (fun r r1 r2 => (hj.1 r (by omega) (by omega)).trans (fr2 r (by omega) (by omega)))
      (try dsimp only)
      rw [ro_begin_19_e]
      simp (disch := omega) only [↓reduceIte, zinT, wr_id, wrl_id, ltT, ltF, leT, leF, eqT, eqF, ne_eq, not_true_eq_false, not_false_eq_true, Option.bind_some, Ok_some, bi_0, bi_n0, bi_01, hc.wds_]
      refine Ok_bind (k_weighAtFirst hc h1 h2 hk hk2) (fun v2 d3 f3 => ?_)
      (try dsimp only)
      have hc3 : CA d3 (mkN F) := hc.Fr f3.1 (by omega)
      refine Ok_bind (k_dealShares hc3 h1 h2 hk (by omega) f3.2.1 f3.2.2 (gat_ok q'.1 (fun v a b => by have := fwt_ok hw h1 h2 hk hk2 v a b; omega))) (fun v4 d4 f4 => ?_)
      (try dsimp only)
      refine hnext2 _ ⟨fun r r1 r2 => ((f4.1 r r1 (by omega)).trans (f3.1 r (by omega))).trans (hj.1 r r1 r2), fun u' v' a1 a2 a3 a4 => ?_⟩
      rw [f4.2 u' v' a1 a2 a3 a4, f3.1 _ (by omega), hj.2 u' v' a1 a2 a3 a4]
      by_cases c : shr (mkN F) w u' v' = -1
      · have c' : ptn (mkN F) w u' v' = false := by simp [ptn, c]
        have n1 : ¬ (u' = u ∧ v' < wds (mkN F) (1 - w) ∧ ptn (mkN F) w u v' = true) := fun x => by
          have := x.2.2
          rw [← x.1, c'] at this
          cases this
        have n2 : ¬ (u' < u ∧ shr (mkN F) w u' v' ≠ -1) := fun x => x.2 c
        have n3 : ¬ (u' < u + 1 ∧ shr (mkN F) w u' v' ≠ -1) := fun x => x.2 c
        rw [if_neg n1, if_neg n2, if_neg n3]
      · have c' := ptn_f.mpr c
        have o := hw.out h1 h2 a1 a2 a3 a4 c
        by_cases c2 : u' = u
        · subst c2
          rw [if_pos ⟨rfl, o.2, c'⟩, if_pos ⟨by omega, c⟩]
          rfl
        · rw [if_neg (fun x => c2 x.1)]
          by_cases c3 : u' < u
          · rw [if_pos ⟨c3, c⟩, if_pos ⟨by omega, c⟩]
          · rw [if_neg (fun x => c3 x.1), if_neg (fun x => by have := x.1; omega)]
end
