/-! THE CLASS'S ROUND, whole. -/
def Fr2 {P : zP} (a b c e : Nat) (d d' : zD P) : Prop := ∀ r, (r < a ∨ b ≤ r) → (r < c ∨ e ≤ r) → d'.m r = d.m r
theorem Fr2.rf {P : zP} {a b c e : Nat} {d : zD P} : Fr2 a b c e d d := fun _ _ _ => rfl
theorem Fr2.tr {P : zP} {a b c e : Nat} {x y z : zD P} (h : Fr2 a b c e x y) (h2 : Fr2 a b c e y z) : Fr2 a b c e x z := fun r r1 r2 => (h2 r r1 r2).trans (h r r1 r2)
theorem Fr2.mo {P : zP} {a b c e a' b' c' e' : Nat} {x y : zD P} (h : Fr2 a b c e x y) (h1 : a' ≤ a) (h2 : b ≤ b') (h3 : c' ≤ c) (h4 : e ≤ e') : Fr2 a' b' c' e' x y := fun r r1 r2 => h r (by omega) (by omega)
theorem Fr.two {P : zP} {a b c e lo hi : Nat} {x y : zD P} (h : Fr lo hi x y) (h1 : (a ≤ lo ∧ hi ≤ b) ∨ (c ≤ lo ∧ hi ≤ e)) : Fr2 a b c e x y := fun r r1 r2 => h r (by omega)
theorem dsh_le {m : Int} {π : Int → Bool} {wt : Int → Int} {v : Int} (hm : m ≤ 40) (h0 : 0 ≤ v) (h1 : v < m) (hp : π v = true) (hw : ∀ v, 0 ≤ v → v < m → 0 ≤ wt v ∧ wt v ≤ 40000000000) : 0 ≤ dsh m π wt v ∧ dsh m π wt v ≤ 200000 := by
  have a := cnt_bi (π := π) h0 (by omega : v ≤ m)
  have b := cnt_lt (π := π) h0 h1 hp
  have c := cnt_bi (π := π) (k := m) (n := m) (by omega) (Int.le_refl m)
  have e := gat_n (π := π) (wt := wt) (m := m) (by omega)
  unfold dsh
  exact pt_le (by omega) (gat_ok (by omega) hw) _ a.1 (by omega)
section
variable {F : Nat → Int}
theorem goS_ptn {w n w' u v : Int} {nw : Int → Int → Int} (h1 : 0 ≤ w) (h2 : w < 2) (h3 : 0 ≤ w') (h4 : w' < 2) (hn : n ≤ 40) (h5 : 0 ≤ u) (h6 : u < 40) (h7 : 0 ≤ v) (h8 : v < 40) (hnw : ∀ u v, 0 ≤ u → u < n → 0 ≤ v → v < 40 → shr F w u v ≠ -1 → 0 ≤ nw u v ∧ nw u v ≤ 200000) : ptn (goS F w n nw) w' u v = ptn F w' u v := by
  unfold ptn
  rw [goS_shr h1 h2 h3 h4 hn h5 h6 h7 h8]
  by_cases c : w' = w ∧ u < n ∧ shr F w' u v ≠ -1
  · have c2 := c.2.2
    rw [c.1] at c2
    have := hnw u v h5 c.2.1 h7 h8 c2
    rw [if_pos c, decide_eq_false c.2.2, decide_eq_false (by omega)]
  · rw [if_neg c]
theorem goS_wf (hw : WF F) {w n : Int} {nw : Int → Int → Int} (h1 : 0 ≤ w) (h2 : w < 2) (hn : n ≤ 40) (hnw : ∀ u v, 0 ≤ u → u < n → 0 ≤ v → v < 40 → shr F w u v ≠ -1 → 0 ≤ nw u v ∧ nw u v ≤ 200000) : WF (goS F w n nw) := by
  refine (goS_same h1).wf hw (fun w' k w0 w1 k0 k1 => ?_) (fun w' p i j w0 w1 p0 p1 i0 i1 j0 j1 => ?_) (fun w' u v w0 w1 u0 u1 v0 v1 hne => ?_) (fun w' k w0 w1 k0 k1 => ?_)
  · rw [shf_at, goS_shr h1 h2 w0 w1 hn (by omega) (by omega) (by omega) (by omega)]
    have := hw.shr_ w0 w1 (u := k / 40) (v := k % 40) (by omega) (by omega) (by omega) (by omega)
    by_cases c : w' = w ∧ k / 40 < n ∧ shr F w' (k / 40) (k % 40) ≠ -1
    · have c2 := c.2.2
      rw [c.1] at c2
      have := hnw (k / 40) (k % 40) (by omega) c.2.1 (by omega) (by omega) c2
      rw [if_pos c]
      omega
    · rw [if_neg c]; exact this
  · have q := hw.ptn_ w0 w1 p0 p1 i0 i1 j0 j1
    have q1 := hw.wrd_ p0 p1 w0 w1 i0 i1
    have q2 := hw.wrd_ p0 p1 (s := 1 - w') (by omega) (by omega) j0 j1
    have q3 := hw.wds_ w0 w1
    have q4 := hw.wds_ (s := 1 - w') (by omega) (by omega)
    rw [goS_shr h1 h2 w0 w1 hn q1.1 (by omega) q2.1 (by omega)]
    split
    · rename_i c
      have c2 := c.2.2
      rw [c.1] at c2 q1 q2 ⊢
      exact (hnw _ _ q1.1 (by have := c.2.1; rw [c.1] at this; exact this) q2.1 (by rw [c.1] at q4; omega) c2).1
    · exact q
  · rw [goS_shr h1 h2 w0 w1 hn u0 u1 v0 v1] at hne
    refine hw.out w0 w1 u0 u1 v0 v1 (fun e => ?_)
    rw [if_neg (fun q => q.2.2 e)] at hne
    exact hne e
  · rw [goS_ner h1 w0 w1 k0 k1]
    exact hw.ner_ w0 w1 k0 k1
theorem goN_wf (hw : WF F) {w : Int} {g : Int → Int} (h1 : 0 ≤ w) (h2 : w < 2) (hg : ∀ k, 0 ≤ k → k < 8 → 0 ≤ g k ∧ g k ≤ 200000) : WF (goN F w g) := by
  refine (goN_same h1 h2).wf hw (fun w' k w0 w1 k0 k1 => ?_) (fun w' p i j w0 w1 p0 p1 i0 i1 j0 j1 => ?_) (fun w' u v w0 w1 u0 u1 v0 v1 hne => ?_) (fun w' k w0 w1 k0 k1 => ?_)
  · rw [shf_at, goN_shr h1 h2 w0 w1 (by omega) (by omega) (by omega) (by omega), ← shf_at]
    exact hw.shf_ w0 w1 k0 k1
  · have q1 := hw.wrd_ p0 p1 w0 w1 i0 i1
    have q2 := hw.wrd_ p0 p1 (s := 1 - w') (by omega) (by omega) j0 j1
    have q3 := hw.wds_ w0 w1
    have q4 := hw.wds_ (s := 1 - w') (by omega) (by omega)
    rw [goN_shr h1 h2 w0 w1 q1.1 (by omega) q2.1 (by omega)]
    exact hw.ptn_ w0 w1 p0 p1 i0 i1 j0 j1
  · rw [goN_shr h1 h2 w0 w1 u0 u1 v0 v1] at hne
    exact hw.out w0 w1 u0 u1 v0 v1 hne
  · rw [goN_ner h1 h2 w0 w1 k0 k1]
    split
    · exact hg k k0 k1
    · exact hw.ner_ w0 w1 k0 k1
theorem goN_ptn {w w' u v : Int} {g : Int → Int} (h1 : 0 ≤ w) (h2 : w < 2) (h3 : 0 ≤ w') (h4 : w' < 2) (h5 : 0 ≤ u) (h6 : u < 40) (h7 : 0 ≤ v) (h8 : v < 40) : ptn (goN F w g) w' u v = ptn F w' u v := by
  unfold ptn
  rw [goN_shr h1 h2 h3 h4 h5 h6 h7 h8]
theorem goW_ok (hw : WF F) {w u : Int} (h1 : 0 ≤ w) (h2 : w < 2) : ∀ v, 0 ≤ v → v < wds F (1 - w) → 0 ≤ goW F w u v ∧ goW F w u v ≤ 40000000000 := by
  intro v _ _
  have := cnt_le hw h1 h2 (40 * u + v)
  unfold goW
  omega
theorem nwS_le (hw : WF F) {w : Int} {wt : Int → Int → Int} (h1 : 0 ≤ w) (h2 : w < 2) (hok : ∀ u v, 0 ≤ u → u < 40 → 0 ≤ v → v < wds F (1 - w) → 0 ≤ wt u v ∧ wt u v ≤ 40000000000) : ∀ u v, 0 ≤ u → u < wds F w → 0 ≤ v → v < 40 → shr F w u v ≠ -1 → 0 ≤ nwS F w wt u v ∧ nwS F w wt u v ≤ 200000 := by
  intro u v u0 u1 v0 v1 hne
  have q3 := hw.wds_ h1 h2
  have q4 := hw.wds_ (s := 1 - w) (by omega) (by omega)
  have o := hw.out h1 h2 u0 (by omega) v0 v1 hne
  exact dsh_le (by omega) v0 o.2 (ptn_f.mpr hne) (fun v a b => hok u v u0 (by omega) a b)
theorem goF_wf (hw : WF F) {w : Int} (h1 : 0 ≤ w) (h2 : w < 2) : WF (goF F w) := by
  have q3 := hw.wds_ h1 h2
  have a := goS_wf (n := wds F w) (nw := nwS F w (goW F w)) hw h1 h2 q3.2 (nwS_le hw h1 h2 (fun u v _ _ a b => goW_ok hw h1 h2 v a b))
  unfold goF
  split
  · exact a
  · exact goN_wf a h1 h2 (pt_le (by omega) (fun k _ _ => by have := cnt_le hw h1 h2 k; omega))
theorem goF_same {w : Int} (h1 : 0 ≤ w) (h2 : w < 2) : SameA F (goF F w) := by
  unfold goF
  split
  · exact goS_same h1
  · intro q hq
    exact (goN_same h1 h2 q hq).trans (goS_same h1 q hq)
theorem goF_ptn (hw : WF F) {w w' u v : Int} (h1 : 0 ≤ w) (h2 : w < 2) (h3 : 0 ≤ w') (h4 : w' < 2) (h5 : 0 ≤ u) (h6 : u < 40) (h7 : 0 ≤ v) (h8 : v < 40) : ptn (goF F w) w' u v = ptn F w' u v := by
  have q3 := hw.wds_ h1 h2
  have a := goS_ptn (F := F) (n := wds F w) (nw := nwS F w (goW F w)) h1 h2 h3 h4 q3.2 h5 h6 h7 h8 (nwS_le hw h1 h2 (fun u v _ _ a b => goW_ok hw h1 h2 v a b))
  unfold goF
  split
  · exact a
  · rw [goN_ptn h1 h2 h3 h4 h5 h6 h7 h8, a]
theorem goF_shr {w w' u v : Int} (hw : WF F) (h1 : 0 ≤ w) (h2 : w < 2) (h3 : 0 ≤ w') (h4 : w' < 2) (h5 : 0 ≤ u) (h6 : u < 40) (h7 : 0 ≤ v) (h8 : v < 40) : shr (goF F w) w' u v = if w' = w ∧ u < wds F w ∧ shr F w' u v ≠ -1 then nwS F w (goW F w) u v else shr F w' u v := by
  have q3 := hw.wds_ h1 h2
  unfold goF
  split
  · exact goS_shr h1 h2 h3 h4 q3.2 h5 h6 h7 h8
  · rw [goN_shr h1 h2 h3 h4 h5 h6 h7 h8]
    exact goS_shr h1 h2 h3 h4 q3.2 h5 h6 h7 h8
theorem goF_ner {w w' k : Int} (h1 : 0 ≤ w) (h2 : w < 2) (h3 : 0 ≤ w') (h4 : w' < 2) (h5 : 0 ≤ k) (h6 : k < 8) : ner (goF F w) w' k = if plc F ≠ 0 ∧ w' = w then pt 8 (cnt F w).2 k else ner F w' k := by
  unfold goF
  split
  · rename_i c
    rw [goS_ner h1 h3 h4 h5 h6, if_neg (fun q => q.1 c)]
  · rename_i c
    rw [goN_ner h1 h2 h3 h4 h5 h6]
    by_cases c2 : w' = w
    · rw [if_pos c2, if_pos ⟨c, c2⟩]
    · rw [if_neg c2, if_neg (fun q => c2 q.2), goS_ner h1 h3 h4 h5 h6]
end
section
variable {P : zP} {d : zD P} {F : Nat → Int}
theorem ci_new {t : zD P} {G : Nat → Int} (hd : CA d F) (hS : SameA F G) (hG : WF G) (hp : ∀ w u v, 0 ≤ w → w < 2 → 0 ≤ u → u < 40 → 0 ≤ v → v < 40 → ptn G w u v = ptn F w u v) (h13 : ∀ r, 13 ≤ r → r < 29 → t.m r = d.m r) (hs : ∀ w u v, 0 ≤ w → w < 2 → 0 ≤ u → u < 40 → 0 ≤ v → v < 40 → t.m (35 + (1 + zix w)) (zix ((u * 40) + v)) = if shr G w u v = -1 then 0 else shr G w u v) (hn : ∀ w k, 0 ≤ w → w < 2 → 0 ≤ k → k < 8 → t.m (38 + (1 + zix w)) (zix k) = ner G w k) : CI t G := by
  refine ⟨hS.ca hG hp (hd.fr h13), fun w k w0 w1 k0 k1 => ?_, hn⟩
  have := hs w (k / 40) (k % 40) w0 w1 (by omega) (by omega) (by omega) (by omega)
  rw [show k / 40 * 40 + k % 40 = k by omega] at this
  rw [shf_at]
  exact this
theorem k_go (h : CI d F) {w : Int} (h1 : 0 ≤ w) (h2 : w < 2) : Ok (ro_go d w) (fun _ d' => CI d' (goF F w) ∧ Fr2 36 41 109 115 d d') := by
  have q := h.wf.wds_ h1 h2
  have q' := h.wf.wds_ (s := 1 - w) (by omega) (by omega)
  have z2 := zix2 h1 h2
  have zz : ∀ w', 0 ≤ w' → w' < 2 → w' ≠ w → zix w' ≠ zix w := fun w' a b c e => by rw [zix_id (by omega), zix_id (by omega)] at e; omega
  have hT := cnt_le h.wf h1 h2
  have hT' : tB (cnt F w) 2000000000 := fun a => by have := hT a; omega
  have hpl := h.wf.plc_
  rw [ro_go_e]
  refine Ok_bind (k_countAll h h1 h2) (fun v1 d1 f1 => ?_)
  (try dsimp only)
  refine lpD (fun u t => ro_go_6 t w u) (fun u t => (∀ r, r ≠ 35 + (1 + zix w) → (r < 109 ∨ 113 ≤ r) → t.m r = d1.m r) ∧ ∀ u' v', 0 ≤ u' → u' < 40 → 0 ≤ v' → v' < 40 → t.m (35 + (1 + zix w)) (zix ((u' * 40) + v')) = if u' < u ∧ shr F w u' v' ≠ -1 then nwS F w (goW F w) u' v' else d.m (35 + (1 + zix w)) (zix ((u' * 40) + v'))) 0 (wds F w) q.1 d1 ⟨fun _ _ _ => rfl, fun u' v' a _ _ _ => by rw [if_neg (by omega), f1.1 _ (by omega)]⟩ (fun t hi => ?_) (fun u t hk hk2 hi hnext => ?_)
  · have hc : CA t F := h.ca.fr (fun r r1 r2 => (hi.1 r (by omega) (by omega)).trans (f1.1 r (by omega)))
    have hs : ∀ w' u' v', 0 ≤ w' → w' < 2 → 0 ≤ u' → u' < 40 → 0 ≤ v' → v' < 40 → t.m (35 + (1 + zix w')) (zix ((u' * 40) + v')) = if shr (goF F w) w' u' v' = -1 then 0 else shr (goF F w) w' u' v' := by
      intro w' u' v' a1 a2 a3 a4 a5 a6
      have z3 := zix2 a1 a2
      have e := goF_shr h.wf h1 h2 a1 a2 a3 a4 a5 a6
      by_cases c : w' = w
      · subst c
        rw [hi.2 u' v' a3 a4 a5 a6]
        by_cases c2 : shr F w' u' v' = -1
        · rw [if_neg (fun x => x.2.2 c2)] at e
          rw [if_neg (fun x => x.2 c2), e, h.shr_ a1 a2 a3 a4 a5 a6]
        · have o := h.wf.out a1 a2 a3 a4 a5 a6 c2
          have b := nwS_le (wt := goW F w') h.wf h1 h2 (fun u v _ _ a b => goW_ok h.wf h1 h2 v a b) u' v' a3 o.1 a5 a6 c2
          rw [if_pos ⟨rfl, o.1, c2⟩] at e
          rw [if_pos ⟨o.1, c2⟩, e, if_neg (by omega)]
      · have := zz w' a1 a2 c
        rw [if_neg (fun x => c x.1)] at e
        rw [hi.1 _ (by omega) (by omega), f1.1 _ (by omega), e, h.shr_ a1 a2 a3 a4 a5 a6]
    (try dsimp only)
    rw [ro_go_6_e]
    simp (disch := omega) only [↓reduceIte, zinT, wr_id, wrl_id, ltT, ltF, leT, leF, eqT, eqF, ne_eq, not_true_eq_false, not_false_eq_true, Option.bind_some, Ok_some, bi_0, bi_n0, bi_01, hc.wds_, hc.plc_]
    by_cases hp : plc F = 0
    · rw [if_pos hp]
      refine Ok_ret ⟨ci_new hc (goF_same h1 h2) (goF_wf h.wf h1 h2) (fun w' u v a1 a2 a3 a4 a5 a6 => goF_ptn h.wf h1 h2 a1 a2 a3 a4 a5 a6) (fun _ _ _ => rfl) hs (fun w' k a1 a2 a3 a4 => ?_), fun r r1 r2 => (hi.1 r (by omega) (by omega)).trans (f1.1 r (by omega))⟩
      have z3 := zix2 a1 a2
      rw [goF_ner h1 h2 a1 a2 a3 a4, if_neg (fun x => x.1 hp), hi.1 _ (by omega) (by omega), f1.1 _ (by omega)]
      exact h.ner_ a1 a2 a3 a4
    · rw [if_neg hp]
      have ht : tM (t.m 113) (t.m 114) (cnt F w) := by rw [hi.1 113 (by omega) (by omega), hi.1 114 (by omega) (by omega)]; exact f1.2
      refine Ok_bind (k_dealNears h1 h2 ht hT') (fun v2 d2 f2 => ?_)
      refine Ok_ret ⟨ci_new hc (goF_same h1 h2) (goF_wf h.wf h1 h2) (fun w' u v a1 a2 a3 a4 a5 a6 => goF_ptn h.wf h1 h2 a1 a2 a3 a4 a5 a6) (fun r r1 r2 => f2.1 r (by omega) (by omega)) (fun w' u' v' a1 a2 a3 a4 a5 a6 => ?_) (fun w' k a1 a2 a3 a4 => ?_), fun r r1 r2 => ((f2.1 r (by omega) (by omega)).trans (hi.1 r (by omega) (by omega))).trans (f1.1 r (by omega))⟩
      · have z3 := zix2 a1 a2
        rw [f2.1 _ (by omega) (by omega)]
        exact hs w' u' v' a1 a2 a3 a4 a5 a6
      · have z3 := zix2 a1 a2
        rw [goF_ner h1 h2 a1 a2 a3 a4]
        by_cases c : w' = w
        · rw [if_pos ⟨hp, c⟩, c]
          exact f2.2 k a3 a4
        · have := zz w' a1 a2 c
          rw [if_neg (fun x => c x.2), f2.1 _ (by omega) (by omega), hi.1 _ (by omega) (by omega), f1.1 _ (by omega)]
          exact h.ner_ a1 a2 a3 a4
  · have hc : CA t F := h.ca.fr (fun r r1 r2 => (hi.1 r (by omega) (by omega)).trans (f1.1 r (by omega)))
    have ht : tM (t.m 113) (t.m 114) (cnt F w) := by rw [hi.1 113 (by omega) (by omega), hi.1 114 (by omega) (by omega)]; exact f1.2
    (try dsimp only)
    rw [ro_go_6_e]
    simp (disch := omega) only [↓reduceIte, zinT, wr_id, wrl_id, ltT, ltF, leT, leF, eqT, eqF, ne_eq, not_true_eq_false, not_false_eq_true, Option.bind_some, Ok_some, bi_0, bi_n0, bi_01, hc.wds_]
    refine Ok_bind (k_weighCounts hc h1 h2 hk (by omega) ht hT') (fun v2 d2 f2 => ?_)
    (try dsimp only)
    have hc2 : CA d2 F := hc.Fr f2.1 (by omega)
    refine Ok_bind (k_dealShares hc2 h1 h2 hk (by omega) f2.2.1 f2.2.2 (gat_ok q'.1 (goW_ok h.wf h1 h2))) (fun v3 d3 f3 => ?_)
    (try dsimp only)
    refine hnext _ ?_
    refine ⟨fun r r1 r2 => ((f3.1 r r1 (by omega)).trans (f2.1 r (by omega))).trans (hi.1 r r1 r2), fun u' v' a1 a2 a3 a4 => ?_⟩
    rw [f3.2 u' v' a1 a2 a3 a4, f2.1 _ (by omega), hi.2 u' v' a1 a2 a3 a4]
    by_cases c : shr F w u' v' = -1
    · have c' : ptn F w u' v' = false := by simp [ptn, c]
      have n1 : ¬ (u' = u ∧ v' < wds F (1 - w) ∧ ptn F w u v' = true) := fun x => by
        have := x.2.2
        rw [← x.1, c'] at this
        cases this
      have n2 : ¬ (u' < u ∧ shr F w u' v' ≠ -1) := fun x => x.2 c
      have n3 : ¬ (u' < u + 1 ∧ shr F w u' v' ≠ -1) := fun x => x.2 c
      rw [if_neg n1, if_neg n2, if_neg n3]
    · have c' := ptn_f.mpr c
      have o := h.wf.out h1 h2 a1 a2 a3 a4 c
      by_cases c2 : u' = u
      · subst c2
        rw [if_pos ⟨rfl, o.2, c'⟩, if_pos ⟨by omega, c⟩]
        rfl
      · rw [if_neg (fun x => c2 x.1)]
        by_cases c3 : u' < u
        · rw [if_pos ⟨c3, c⟩, if_pos ⟨by omega, c⟩]
        · rw [if_neg (fun x => c3 x.1), if_neg (fun x => by have := x.1; omega)]
end
