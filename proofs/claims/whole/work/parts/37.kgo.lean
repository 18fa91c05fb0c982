/-! THE CLASS'S ROUND. -/
section
variable {P : zP} {d : zD P} {F : Nat → Int}
theorem fro {e : zD P} {r r' : Nat} (h : ∀ q, q ≠ r → e.m q = d.m q) (hr : r' ≠ r) : e.m r' = d.m r' := h r' hr
/-- gathering by weigh -/
def gM (d t : zD P) (g : Int × (Int → Int)) : Prop := Fr 109 111 d t ∧ t.m 109 3 = g.1 ∧ ∀ i, 0 ≤ i → i < g.1 → t.m 110 (zix i) = g.2 i
theorem gM_take {t : zD P} {m : Int} {π : Int → Bool} {wt : Int → Int} (h : gM d t (gat m π wt)) (hm : 0 ≤ m) (hm2 : m ≤ 40) (hp : π m = true) : gM d ((t.up 110 (zix (gat m π wt).1) (wt m)).up 109 3 ((gat m π wt).1 + 1)) (gat (m + 1) π wt) := by
  have a := cnt_bi (π := π) hm (Int.le_refl m)
  rw [← gat_n (wt := wt) hm] at a
  refine ⟨(h.1.up (by omega) (by omega)).up (by omega) (by omega), ?_, fun i i0 i1 => ?_⟩
  · rw [u_109_3, gat_s hm, if_pos hp]; rfl
  · rw [gat_s hm, if_pos hp] at i1 ⊢
    (try dsimp only at i1 ⊢)
    rw [up_ne (by omega), u_110, zfu_z (by omega)]
    by_cases e : i = (gat m π wt).1
    · rw [if_pos e, if_pos e]
    · rw [if_neg e, if_neg e]; exact h.2.2 i i0 (by omega)
theorem gM_skip {t : zD P} {m : Int} {π : Int → Bool} {wt : Int → Int} (h : gM d t (gat m π wt)) (hm : 0 ≤ m) (hp : π m = false) : gM d t (gat (m + 1) π wt) := by
  rw [gat_s hm, if_neg (by rw [hp]; decide)]
  exact h
/-- row u of a way's shares has become nw; the rest of them is as in d -/
def rowM (d t : zD P) (w u : Int) (m : Int) (π : Int → Bool) (nw : Int → Int) : Prop := ∀ u' v', 0 ≤ u' → u' < 40 → 0 ≤ v' → v' < 40 → t.m (35 + (1 + zix w)) (zix ((u' * 40) + v')) = if u' = u ∧ v' < m ∧ π v' = true then nw v' else d.m (35 + (1 + zix w)) (zix ((u' * 40) + v'))
theorem k_dealShares (h : CA d F) {w u : Int} {wt : Int → Int} (h1 : 0 ≤ w) (h2 : w < 2) (h3 : 0 ≤ u) (h4 : u < 40) (hn : d.m 109 3 = (gat (wds F (1 - w)) (ptn F w u) wt).1) (hW : ∀ k, 0 ≤ k → k < (gat (wds F (1 - w)) (ptn F w u) wt).1 → d.m 110 (zix k) = (gat (wds F (1 - w)) (ptn F w u) wt).2 k) (hok : wOK (gat (wds F (1 - w)) (ptn F w u) wt).1 (gat (wds F (1 - w)) (ptn F w u) wt).2) : Ok (ro_dealShares d w u) (fun _ d' => (∀ r, r ≠ 35 + (1 + zix w) → (r < 110 ∨ 113 ≤ r) → d'.m r = d.m r) ∧ rowM d d' w u (wds F (1 - w)) (ptn F w u) (dsh (wds F (1 - w)) (ptn F w u) wt)) := by
  have q := h.wf.wds_ (s := 1 - w) (by omega) (by omega)
  have z2 := zix2 h1 h2
  have a := cnt_bi (π := ptn F w u) q.1 (Int.le_refl _)
  have a' := a
  rw [← gat_n (wt := wt) q.1] at a'
  rw [ro_dealShares_e]
  refine Ok_bind (k_deal hn a'.1 (by omega) hW hok) (fun v1 d1 f1 => ?_)
  (try dsimp only)
  refine lpM (fun k t c => ro_dealShares_7 t w u c k) (fun k t c => c = sm k (fun o => bi (ptn F w u o)) ∧ (∀ r, r ≠ 35 + (1 + zix w) → t.m r = d1.m r) ∧ rowM d t w u k (ptn F w u) (dsh (wds F (1 - w)) (ptn F w u) wt)) 0 (wds F (1 - w)) q.1 d1 0 ⟨rfl, fun r _ => rfl, fun u' v' _ _ b _ => ?_⟩ (fun t c hi => ?_) (fun k t c hk hk2 hi hnext => ?_)
  · rw [if_neg (by omega), f1.1 _ (by omega)]
  · have hc : CA t F := (h.Fr f1.1 (by omega)).fr (fun r r1 r2 => hi.2.1 r (by omega))
    (try dsimp only)
    rw [ro_dealShares_7_e]
    simp (disch := omega) only [↓reduceIte, zinT, wr_id, wrl_id, ltT, ltF, leT, leF, eqT, eqF, ne_eq, not_true_eq_false, not_false_eq_true, Option.bind_some, Ok_some, bi_0, bi_n0, bi_01, hc.wds_]
    exact ⟨fun r r1 r2 => (hi.2.1 r r1).trans (f1.1 r r2), hi.2.2⟩
  · have hc : CA t F := (h.Fr f1.1 (by omega)).fr (fun r r1 r2 => hi.2.1 r (by omega))
    have b := cnt_bi (π := ptn F w u) hk (by omega : k ≤ wds F (1 - w))
    (try dsimp only)
    rw [ro_dealShares_7_e]
    simp (disch := omega) only [↓reduceIte, zinT, wr_id, wrl_id, ltT, ltF, leT, leF, eqT, eqF, ne_eq, not_true_eq_false, not_false_eq_true, Option.bind_some, Ok_some, bi_0, bi_n0, bi_01, hc.wds_, k_arePartners hc]
    by_cases hp : ptn F w u k = true
    · have b2 := cnt_lt (π := ptn F w u) hk hk2 hp
      have hn' : t.m 109 3 = (gat (wds F (1 - w)) (ptn F w u) wt).1 := by rw [hi.2.1 109 (by omega), f1.1 109 (by omega)]; exact hn
      have e1 : t.m 112 (zix c) = dsh (wds F (1 - w)) (ptn F w u) wt k := by
        rw [hi.2.1 112 (by omega), hi.1]
        exact f1.2 _ b.1 (by rw [gat_n q.1]; exact b2)
      have e0 := gat_n (m := wds F (1 - w)) (π := ptn F w u) (wt := wt) q.1
      have ec := hi.1
      have hg := k_got hn' (k := c) (by omega) (by omega) (by omega)
      rw [hp]
      simp (disch := omega) only [↓reduceIte, zinT, wr_id, wrl_id, ltT, ltF, leT, leF, eqT, eqF, ne_eq, not_true_eq_false, not_false_eq_true, Option.bind_some, Ok_some, bi_0, bi_n0, bi_01, hg, e1, if_false, Bool.true_eq_false]
      refine hnext _ _ ?_
      refine ⟨?_, fun r r1 => (up_ne r1).trans (hi.2.1 r r1), fun u' v' a1 a2 a3 a4 => ?_⟩
      · rw [sm_s _ hk, hp, hi.1]; rfl
      · rw [u_35s ⟨h1, h2⟩, zfu_z (by omega), hi.2.2 u' v' a1 a2 a3 a4]
        by_cases c1 : (u' * 40) + v' = (u * 40) + k
        · have c2 : u' = u ∧ v' = k := by omega
          rw [if_pos c1, if_pos ⟨c2.1, by omega, by rw [c2.2]; exact hp⟩, c2.2]
        · rw [if_neg c1]
          by_cases c3 : u' = u ∧ v' < k ∧ ptn F w u v' = true
          · rw [if_pos c3, if_pos ⟨c3.1, by omega, c3.2.2⟩]
          · rw [if_neg c3, if_neg (fun x => c3 ⟨x.1, by omega, x.2.2⟩)]
    · have hp' : ptn F w u k = false := by simpa using hp
      rw [hp']
      simp (disch := omega) only [↓reduceIte, zinT, wr_id, wrl_id, ltT, ltF, leT, leF, eqT, eqF, ne_eq, not_true_eq_false, not_false_eq_true, Option.bind_some, Ok_some, bi_0, bi_n0, bi_01, if_true]
      refine hnext _ _ ?_
      refine ⟨?_, hi.2.1, fun u' v' a1 a2 a3 a4 => ?_⟩
      · rw [sm_s _ hk, hp', hi.1]; simp [bi]
      · rw [hi.2.2 u' v' a1 a2 a3 a4]
        by_cases c3 : u' = u ∧ v' < k ∧ ptn F w u v' = true
        · rw [if_pos c3, if_pos ⟨c3.1, by omega, c3.2.2⟩]
        · rw [if_neg c3]
          by_cases c4 : u' = u ∧ v' < k + 1 ∧ ptn F w u v' = true
          · by_cases c5 : v' < k
            · exact absurd ⟨c4.1, c5, c4.2.2⟩ c3
            · exact absurd c4.2.2 (by rw [show v' = k by omega, hp']; decide)
          · rw [if_neg c4]
theorem k_weighCounts (h : CA d F) {w u : Int} {T : (Int → Int) × (Int → Int)} (h1 : 0 ≤ w) (h2 : w < 2) (h3 : 0 ≤ u) (h4 : u < 40) (ht : tM (d.m 113) (d.m 114) T) (hb : tB T 2000000000) : Ok (ro_weighCounts d w u) (fun _ d' => gM d d' (gat (wds F (1 - w)) (ptn F w u) (fun v => T.1 (40 * u + v)))) := by
  have q := h.wf.wds_ (s := 1 - w) (by omega) (by omega)
  rw [ro_weighCounts_e, pa_clear_e]
  simp (disch := omega) only [↓reduceIte, zinT, wr_id, wrl_id, ltT, ltF, leT, leF, eqT, eqF, ne_eq, not_true_eq_false, not_false_eq_true, Option.bind_some, Ok_some, bi_0, bi_n0, bi_01]
  refine lpD (fun k t => ro_weighCounts_5 t w u k) (fun k t => gM d t (gat k (ptn F w u) (fun v => T.1 (40 * u + v)))) 0 (wds F (1 - w)) q.1 _ ⟨Fr.rf.up (by omega) (by omega), by rw [u_109_3]; rfl, fun i _ b => by have : (gat 0 (ptn F w u) (fun v => T.1 (40 * u + v))).1 = 0 := rfl; omega⟩ (fun t hi => ?_) (fun k t hk hk2 hi hnext => ?_)
  · have hc : CA t F := h.Fr hi.1 (by omega)
    (try dsimp only)
    rw [ro_weighCounts_5_e]
    simp (disch := omega) only [↓reduceIte, zinT, wr_id, wrl_id, ltT, ltF, leT, leF, eqT, eqF, ne_eq, not_true_eq_false, not_false_eq_true, Option.bind_some, Ok_some, bi_0, bi_n0, bi_01, hc.wds_]
    exact hi
  · have hc : CA t F := h.Fr hi.1 (by omega)
    have b := cnt_bi (π := ptn F w u) hk (Int.le_refl k)
    rw [← gat_n (wt := fun v => T.1 (40 * u + v)) hk] at b
    have e1 : t.m 113 (zix ((u * 40) + k)) = T.1 (40 * u + k) := by
      rw [hi.1 113 (by omega), ht.1 _ (by omega) (by omega), show u * 40 + k = 40 * u + k by omega]
    have hb' := hb (40 * u + k)
    (try dsimp only)
    rw [ro_weighCounts_5_e]
    simp (disch := omega) only [↓reduceIte, zinT, wr_id, wrl_id, ltT, ltF, leT, leF, eqT, eqF, ne_eq, not_true_eq_false, not_false_eq_true, Option.bind_some, Ok_some, bi_0, bi_n0, bi_01, hc.wds_, k_arePartners hc]
    by_cases hp : ptn F w u k = true
    · rw [hp]
      simp (disch := omega) only [↓reduceIte, zinT, wr_id, wrl_id, ltT, ltF, leT, leF, eqT, eqF, ne_eq, not_true_eq_false, not_false_eq_true, Option.bind_some, Ok_some, bi_0, bi_n0, bi_01, e1, k_weigh hi.2.1, if_false, Bool.true_eq_false]
      refine hnext _ ?_
      exact gM_take hi hk (by omega) hp
    · have hp' : ptn F w u k = false := by simpa using hp
      rw [hp']
      simp (disch := omega) only [↓reduceIte, zinT, wr_id, wrl_id, ltT, ltF, leT, leF, eqT, eqF, ne_eq, not_true_eq_false, not_false_eq_true, Option.bind_some, Ok_some, bi_0, bi_n0, bi_01, if_true]
      refine hnext _ ?_
      exact gM_skip hi hk hp'
theorem k_dealNears {w : Int} {T : (Int → Int) × (Int → Int)} (h1 : 0 ≤ w) (h2 : w < 2) (ht : tM (d.m 113) (d.m 114) T) (hb : tB T 2000000000) : Ok (ro_dealNears d w) (fun _ d' => (∀ r, r ≠ 38 + (1 + zix w) → (r < 109 ∨ 113 ≤ r) → d'.m r = d.m r) ∧ ∀ k, 0 ≤ k → k < 8 → d'.m (38 + (1 + zix w)) (zix k) = pt 8 T.2 k) := by
  have z2 := zix2 h1 h2
  rw [ro_dealNears_e, pa_clear_e]
  simp (disch := omega) only [↓reduceIte, zinT, wr_id, wrl_id, ltT, ltF, leT, leF, eqT, eqF, ne_eq, not_true_eq_false, not_false_eq_true, Option.bind_some, Ok_some, bi_0, bi_n0, bi_01]
  refine lpD (fun k t => ro_dealNears_5 t w k) (fun k t => Fr 109 111 d t ∧ t.m 109 3 = k ∧ ∀ i, 0 ≤ i → i < k → t.m 110 (zix i) = T.2 i) 0 8 (by omega) _ ⟨Fr.rf.up (by omega) (by omega), by rw [u_109_3]; rfl, fun i _ _ => by omega⟩ (fun t hi => ?_) (fun k t hk hk2 hi hnext => ?_)
  · (try dsimp only)
    rw [ro_dealNears_5_e]
    simp (disch := omega) only [↓reduceIte, zinT, wr_id, wrl_id, ltT, ltF, leT, leF, eqT, eqF, ne_eq, not_true_eq_false, not_false_eq_true, Option.bind_some, Ok_some, bi_0, bi_n0, bi_01]
    refine Ok_bind (k_deal hi.2.1 (by omega) (by omega) hi.2.2 (fun k a b => by have := hb k; omega)) (fun v2 d2 f2 => ?_)
    (try dsimp only)
    have n2 : d2.m 109 3 = 8 := by rw [f2.1 109 (by omega)]; exact hi.2.1
    refine lpD (fun k t => ro_dealNears_23 t w k) (fun k e => (∀ r, r ≠ 38 + (1 + zix w) → e.m r = d2.m r) ∧ ∀ i, 0 ≤ i → i < k → e.m (38 + (1 + zix w)) (zix i) = pt 8 T.2 i) 0 8 (by omega) d2 ⟨fun r _ => rfl, fun i _ _ => by omega⟩ (fun e hj => ?_) (fun k e hk hk2 hj hnext => ?_)
    · (try dsimp only)
      rw [ro_dealNears_23_e]
      simp (disch := omega) only [↓reduceIte, zinT, wr_id, wrl_id, ltT, ltF, leT, leF, eqT, eqF, ne_eq, not_true_eq_false, not_false_eq_true, Option.bind_some, Ok_some, bi_0, bi_n0, bi_01]
      exact ⟨fun r r1 r2 => ((hj.1 r r1).trans (f2.1 r (by omega))).trans (hi.1 r (by omega)), hj.2⟩
    · have n3 : e.m 109 3 = 8 := by rw [hj.1 109 (by omega)]; exact n2
      have e3 : e.m 112 (zix k) = pt 8 T.2 k := by rw [hj.1 112 (by omega)]; exact f2.2 k hk hk2
      (try dsimp only)
      rw [ro_dealNears_23_e]
      simp (disch := omega) only [↓reduceIte, zinT, wr_id, wrl_id, ltT, ltF, leT, leF, eqT, eqF, ne_eq, not_true_eq_false, not_false_eq_true, Option.bind_some, Ok_some, bi_0, bi_n0, bi_01, k_got n3, e3]
      refine hnext _ ?_
      refine ⟨fun r r1 => (up_ne r1).trans (hj.1 r r1), ?_⟩
      rw [u_38s ⟨h1, h2⟩]
      exact zfu_next (g := fun i => pt 8 T.2 i) hj.2 hk (by omega)
  · have e1 : t.m 114 (zix k) = T.2 k := by rw [hi.1 114 (by omega)]; exact ht.2 k hk hk2
    have hb' := hb k
    (try dsimp only)
    rw [ro_dealNears_5_e]
    simp (disch := omega) only [↓reduceIte, zinT, wr_id, wrl_id, ltT, ltF, leT, leF, eqT, eqF, ne_eq, not_true_eq_false, not_false_eq_true, Option.bind_some, Ok_some, bi_0, bi_n0, bi_01, e1, k_weigh hi.2.1]
    refine hnext _ ?_
    refine ⟨(hi.1.up (by omega) (by omega)).up (by omega) (by omega), by rw [u_109_3]; rfl, ?_⟩
    rw [up_ne (by omega), u_110]
    exact zfu_next (g := fun i => T.2 i) hi.2.2 hk (by omega)
end
