/-! PAIRS, DROP AND LETTERS, both sides. -/
theorem ORD.same {F G : Nat → Int} (h : ORD F) (hw : WFc F) (S : SameA F G) : ORD G := fun s s0 s1 => by
  have p24 := hw.1
  obtain ⟨o1, o2⟩ := h s s0 s1
  refine ⟨fun w w0 w1 => ?_, fun p i w p0 p1 i0 i1 w0 w1 => ?_⟩
  · rw [S.wds_ s0 s1] at w1
    obtain ⟨p, i, hp, hi, hww⟩ := o1 w w0 w1
    have l := hw.2.1 p s hp.1 hp.2 s0 s1
    exact ⟨p, i, by rw [S.prs_]; exact hp, by rw [S.lng_ hp.1 (by omega) s0 s1]; exact hi, by rw [S.wrd_ hp.1 (by omega) s0 s1 hi.1 (by omega)]; exact hww⟩
  · rw [S.prs_] at p1
    rw [S.lng_ p0 (by omega) s0 s1] at i1
    have l := hw.2.1 p s p0 p1 s0 s1
    rw [S.wrd_ p0 (by omega) s0 s1 i0 (by omega)] at w1
    obtain ⟨p', i', hp, hi, hww⟩ := o2 p i w p0 p1 i0 i1 w0 w1
    have l' := hw.2.1 p' s hp.1 (Int.lt_of_le_of_lt hp.2 p1) s0 s1
    exact ⟨p', i', hp, by rw [S.lng_ hp.1 (by omega) s0 s1]; exact hi, by rw [S.wrd_ hp.1 (by omega) s0 s1 hi.1 (by omega)]; exact hww⟩
theorem mt_same {F G : Nat → Int} {w u v : Int} (hw : WFc F) (S : SameA F G) (h : mt F (fun _ _ _ => True) w u v) : mt G (fun _ _ _ => True) w u v := by
  have p24 := hw.1
  obtain ⟨p, i, j, a1, a2, a3, a4, a5⟩ := h
  have l0 := hw.2.1 p 0 a1.1 a1.2 (by omega) (by omega)
  have l1 := hw.2.1 p 1 a1.1 a1.2 (by omega) (by omega)
  refine ⟨p, i, j, by rw [S.prs_]; exact a1, by rw [S.lng_ a1.1 (by omega) (by omega) (by omega)]; exact a2, by rw [S.lng_ a1.1 (by omega) (by omega) (by omega)]; exact a3, trivial, ?_⟩
  rw [S.wrd_ a1.1 (by omega) (by omega) (by omega) a2.1 (by omega), S.wrd_ a1.1 (by omega) (by omega) (by omega) a3.1 (by omega)]
  exact a5
theorem PTI_mk {G : Nat → Int} (hw : WFc G) : PTI (mkF G) := fun w u v w0 w1 u0 u1 v0 v1 hne => by
  have S : SameA G (mkF G) := SameA.tr mkC_same mkF_same
  have e := mkF_ptn (wf_mkN hw) w0 w1 u0 u1 v0 v1
  have z := mkN_shr hw w0 w1 u0 u1 v0 v1
  refine mt_same hw S (Classical.byContradiction (fun c => ?_))
  unfold ptn at e
  rw [z.2 c, decide_eq_false hne, decide_eq_true rfl] at e
  exact absurd e (by decide)
theorem ORX_mk {G : Nat → Int} (hw : WFc G) (h : ORD G) : ORX (mkF G) := ⟨h.same hw (SameA.tr mkC_same mkF_same), PTI_mk hw⟩
/-- each new word came at a place -/
def vus (v0 v : Int × (Int → Int)) (ky : Int → Int → Int) (c : Int → Int → Prop) : Prop := ∀ w, v0.1 ≤ w → w < v.1 → ∃ r i, c r i ∧ vfi v (ky r i) = w
theorem vfi_new {v : Int × (Int → Int)} {K : Int} (n0 : 0 ≤ v.1) (c : vfi v K = -1) : vfi (vad v K) K = v.1 := by
  unfold vad
  rw [if_pos c]
  unfold vfi
  refine first_at n0 (by (try dsimp only); omega) (decide_eq_true (if_pos rfl)) (fun j j0 j1 => ?_)
  have b := first_before (p := fun w => decide (v.2 w = K)) j0 j1 (Or.inr c)
  refine decide_eq_false (fun h => of_decide_eq_false b ?_)
  (try dsimp only at h)
  rw [if_neg (by omega)] at h
  exact h
theorem vus_s {v0 v : Int × (Int → Int)} {ky : Int → Int → Int} {c c' : Int → Int → Prop} {r k : Int} (h : vus v0 v ky c) (n0 : 0 ≤ v0.1) (hv : v0.1 ≤ v.1) (hc : ∀ x y, c x y → c' x y) (hr : c' r k) : vus v0 (vad v (ky r k)) ky c' := fun w w0 w1 => by
  by_cases e : vfi v (ky r k) = -1
  · have ev : (vad v (ky r k)).1 = v.1 + 1 := by unfold vad; rw [if_pos e]
    rw [ev] at w1
    by_cases ew : w = v.1
    · exact ⟨r, k, hr, by rw [vfi_new (by omega) e, ew]⟩
    · obtain ⟨x, y, hxy, hw⟩ := h w w0 (by omega)
      exact ⟨x, y, hc x y hxy, by rw [vfi_x (by omega) vx_ad (by omega)]; exact hw⟩
  · have ev : vad v (ky r k) = v := by unfold vad; rw [if_neg e]
    rw [ev] at w1 ⊢
    obtain ⟨x, y, hxy, hw⟩ := h w w0 w1
    exact ⟨x, y, hc x y hxy, hw⟩
theorem vus_all {ln : Int → Int} {ky : Int → Int → Int} {R : Int} {v0 : Int × (Int → Int)} (n0 : 0 ≤ v0.1) (hl : ∀ r, 0 ≤ r → r < R → 0 ≤ ln r) {r k : Int} (r0 : 0 ≤ r) (r1 : r < R) (k0 : 0 ≤ k) (k1 : k ≤ ln r) : vus v0 (vrw ky r k (vall ln ky r v0)) ky (fun x y => (0 ≤ x ∧ x < r ∧ 0 ≤ y ∧ y < ln x) ∨ (x = r ∧ 0 ≤ y ∧ y < k)) := by
  have mono : ∀ q, 0 ≤ q → q ≤ R → v0.1 ≤ (vall ln ky q v0).1 := fun q q0 q1 => by
    have x := vx_all (ln := ln) (ky := ky) (v := v0) hl (Int.le_refl 0) q0 q1
    rw [vall_0] at x
    exact x.1
  have row : ∀ q, 0 ≤ q → q < R → vus v0 (vall ln ky q v0) ky (fun x y => 0 ≤ x ∧ x < q ∧ 0 ≤ y ∧ y < ln x) → ∀ m, 0 ≤ m → m ≤ ln q → vus v0 (vrw ky q m (vall ln ky q v0)) ky (fun x y => (0 ≤ x ∧ x < q ∧ 0 ≤ y ∧ y < ln x) ∨ (x = q ∧ 0 ≤ y ∧ y < m)) := fun q q0 q1 hq m m0 m1 => by
    have := fo_ind (I := fun m v => v0.1 ≤ v.1 ∧ vus v0 v ky (fun x y => (0 ≤ x ∧ x < q ∧ 0 ≤ y ∧ y < ln x) ∨ (x = q ∧ 0 ≤ y ∧ y < m))) (s := vall ln ky q v0) (f := fun i v => vad v (ky q i)) (n := m) m0 ⟨mono q q0 (by omega), fun w w0 w1 => by
      obtain ⟨x, y, hxy, hw⟩ := hq w w0 w1
      exact ⟨x, y, Or.inl hxy, hw⟩⟩ (fun i v i0 i1 hi => ⟨Int.le_trans hi.1 vx_ad.1, vus_s hi.2 n0 hi.1 (fun x y hxy => by omega) (by omega)⟩)
    exact this.2
  have all : ∀ q : Nat, (q : Int) < R → vus v0 (vall ln ky q v0) ky (fun x y => 0 ≤ x ∧ x < q ∧ 0 ≤ y ∧ y < ln x) := by
    intro q
    induction q with
    | zero => intro _ w w0 w1; rw [show ((0 : Nat) : Int) = 0 from rfl, vall_0] at w1; omega
    | succ q ih =>
      intro hq w w0 w1
      have l := hl q (by omega) (by omega)
      have e : vall ln ky ((q + 1 : Nat) : Int) v0 = vrw ky q (ln q) (vall ln ky q v0) := by
        rw [show ((q + 1 : Nat) : Int) = (q : Int) + 1 by omega, vall_s (by omega)]
      rw [e] at w1 ⊢
      obtain ⟨x, y, hxy, hw⟩ := row q (by omega) (by omega) (ih (by omega)) (ln q) l (Int.le_refl _) w w0 w1
      refine ⟨x, y, ?_, hw⟩
      rcases hxy with hxy | ⟨rfl, y0, y1⟩
      · exact ⟨hxy.1, by omega, hxy.2.2.1, hxy.2.2.2⟩
      · exact ⟨by omega, by omega, y0, y1⟩
  have a := all r.toNat (by omega)
  rw [show ((r.toNat : Nat) : Int) = r by omega] at a
  exact row r r0 r1 a k k0 k1
theorem ORD_ap {F G : Nat → Int} {ln : Int → Int → Int} {ky : Int → Int → Int → Int} {R : Int} (h : ORD F) (hF : WFc F) (R1 : 1 ≤ R) (l6 : ∀ s q, 0 ≤ s → s < 2 → 0 ≤ q → q < R → 1 ≤ ln s q ∧ ln s q ≤ 6) (ap : apG F G ln ky R) : ORD G := fun s s0 s1 => by
  obtain ⟨o1, o2⟩ := h s s0 s1
  obtain ⟨g1, g2, g3, g4, g5, g6, g7, g8, g9⟩ := ap
  have p24 := hF.1
  have n0 : 0 ≤ (vF F s).1 := (hF.2.2.2.1 s s0 s1).1.1
  have hl : ∀ q, 0 ≤ q → q < R → 0 ≤ ln s q := fun q q0 q1 => by have := l6 s q s0 s1 q0 q1; omega
  have old : ∀ w, 0 ≤ w → w < wds F s → ∃ p i, (0 ≤ p ∧ p < prs F) ∧ (0 ≤ i ∧ i < lng G p s) ∧ wrd G p s i = w := fun w w0 w1 => by
    obtain ⟨p, i, hp, hi, hw⟩ := o1 w w0 w1
    exact ⟨p, i, hp, by rw [g3 p s hp.1 hp.2 s0 s1]; exact hi, by rw [g4 p s i hp.1 hp.2 s0 s1 hi.1 hi.2]; exact hw⟩
  have has := fun q i (q0 : 0 ≤ q) (q1 : q < R) (i0 : 0 ≤ i) (i1 : i < ln s q) => vall_has (ln := ln s) (ky := ky s) (v := vF F s) n0 hl q0 q1 i0 i1
  have new : ∀ q k w, 0 ≤ q → q < R → 0 ≤ k → k ≤ ln s q → wds F s ≤ w → w < (vrw (ky s) q k (vall (ln s) (ky s) q (vF F s))).1 → ∃ p i, (0 ≤ p ∧ p ≤ prs F + q) ∧ (0 ≤ i ∧ i < lng G p s) ∧ wrd G p s i = w := fun q k w q0 q1 k0 k1 w0 w1 => by
    obtain ⟨x, y, hxy, hw⟩ := vus_all n0 hl q0 q1 k0 k1 w w0 w1
    have xy : 0 ≤ x ∧ x ≤ q ∧ 0 ≤ y ∧ y < ln s x := by
      rcases hxy with e | ⟨rfl, e0, e1⟩
      · omega
      · omega
    have x1 := vx_all (ln := ln s) (ky := ky s) (v := vF F s) hl (Int.le_refl 0) q0 (by omega)
    rw [vall_0] at x1
    have x2 := vx_rw0 (ky := ky s) (r := q) (v := vall (ln s) (ky s) q (vF F s)) k0
    have x3 := vx_rw (ky := ky s) (r := q) (v := vall (ln s) (ky s) q (vF F s)) (a := k) (b := ln s q) k0 k1
    rw [← vall_s q0] at x3
    have x4 := vx_all (ln := ln s) (ky := ky s) (v := vF F s) hl (a := q + 1) (b := R) (by omega) (by omega) (Int.le_refl R)
    have nn := Int.le_trans n0 (vx_tr x1 x2).1
    have e := vfi_x (K := ky s x y) nn (vx_tr x3 x4) (by have : 0 ≤ w := Int.le_trans n0 w0; omega)
    refine ⟨prs F + x, y, by omega, by rw [g5 x s xy.1 (by omega) s0 s1]; exact xy.2.2, ?_⟩
    rw [g6 x s y xy.1 (by omega) s0 s1 xy.2.2.1 xy.2.2.2]
    show vfi (vG F ln ky R s) (ky s x y) = w
    unfold vG
    rw [e]
    exact hw
  refine ⟨fun w w0 w1 => ?_, fun p i w p0 p1 i0 i1 w0 w1 => ?_⟩
  · by_cases c : w < wds F s
    · obtain ⟨p, i, hp, hi, hw⟩ := old w w0 c
      exact ⟨p, i, by omega, hi, hw⟩
    · rw [(g2 s s0 s1).1] at w1
      have lR := l6 s (R - 1) s0 s1 (by omega) (by omega)
      have eR : vG F ln ky R s = vrw (ky s) (R - 1) (ln s (R - 1)) (vall (ln s) (ky s) (R - 1) (vF F s)) := by
        unfold vG
        have := vall_s (ln := ln s) (ky := ky s) (r := R - 1) (v := vF F s) (by omega)
        rw [show R - 1 + 1 = R by omega] at this
        exact this
      rw [eR] at w1
      obtain ⟨p, i, hp, hi, hw⟩ := new (R - 1) (ln s (R - 1)) w (by omega) (by omega) (by omega) (Int.le_refl _) (by omega) w1
      exact ⟨p, i, by omega, hi, hw⟩
  · by_cases cp : p < prs F
    · rw [g3 p s p0 cp s0 s1] at i1
      rw [g4 p s i p0 cp s0 s1 i0 i1] at w1
      obtain ⟨p', i', hp, hi, hw⟩ := o2 p i w p0 cp i0 i1 w0 w1
      exact ⟨p', i', hp, by rw [g3 p' s hp.1 (by omega) s0 s1]; exact hi, by rw [g4 p' s i' hp.1 (by omega) s0 s1 hi.1 hi.2]; exact hw⟩
    · have ep : p = prs F + (p - prs F) := by omega
      rw [ep, g5 (p - prs F) s (by omega) (by omega) s0 s1] at i1
      rw [ep, g6 (p - prs F) s i (by omega) (by omega) s0 s1 i0 i1] at w1
      by_cases c : w < wds F s
      · obtain ⟨p', i', hp, hi, hw⟩ := old w w0 c
        exact ⟨p', i', by omega, hi, hw⟩
      · have hs := has (p - prs F) i (by omega) (by omega) i0 i1
        have w1' : w < vfi (vrw (ky s) (p - prs F) (i + 1) (vall (ln s) (ky s) (p - prs F) (vF F s))) (ky s (p - prs F) i) := by
          rw [← hs.2]
          exact w1
        have x1 := vx_all (ln := ln s) (ky := ky s) (v := vF F s) hl (a := 0) (b := p - prs F) (Int.le_refl 0) (by omega) (by omega)
        rw [vall_0] at x1
        have x2 := vx_rw0 (ky := ky s) (r := p - prs F) (v := vall (ln s) (ky s) (p - prs F) (vF F s)) (b := i + 1) (by omega)
        have nn := Int.le_trans n0 (vx_tr x1 x2).1
        have lt : vfi (vrw (ky s) (p - prs F) (i + 1) (vall (ln s) (ky s) (p - prs F) (vF F s))) (ky s (p - prs F) i) < (vrw (ky s) (p - prs F) (i + 1) (vall (ln s) (ky s) (p - prs F) (vF F s))).1 := by
          rcases first_range (p := fun w => decide ((vrw (ky s) (p - prs F) (i + 1) (vall (ln s) (ky s) (p - prs F) (vF F s))).2 w = ky s (p - prs F) i)) nn with e | e
          · have := hs.1
            rw [hs.2] at this
            exact absurd e this
          · exact e.2.1
        obtain ⟨p', i', hp, hi, hw⟩ := new (p - prs F) (i + 1) w (by omega) (by omega) (by omega) (by omega) (by omega) (Int.lt_trans w1' lt)
        exact ⟨p', i', by omega, hi, hw⟩
theorem ORD_dp {F : Nat → Int} (h : ORD F) (hF : WFc F) (h1 : 1 ≤ prs F) : ORD (dpF F) := fun s s0 s1 => by
  obtain ⟨o1, o2⟩ := h s s0 s1
  obtain ⟨q1, q2, q3⟩ := dpF_r (F := F)
  have p24 := hF.1
  have mp := mxR_p (F := F) (s := s) (N := prs F - 1) (by omega) (fun p p0 p1 => by have := hF.2.1 p s p0 (by omega) s0 s1; omega) (fun p i p0 p1 i0 i1 => (hF.2.2.1 p s i p0 (by omega) s0 s1 i0 i1).1)
  have el : ∀ p, 0 ≤ p → p < 24 → lng (dpF F) p s = lng F p s := fun p a b => q3 ((24 + (20 * p)) + s) (by omega) (by omega) (by omega) (by omega)
  have eW : ∀ p i, 0 ≤ p → p < 24 → 0 ≤ i → i < 6 → wrd (dpF F) p s i = wrd F p s i := fun p i a b i0 i1 => q3 ((((24 + (20 * p)) + 2) + (6 * s)) + i) (by omega) (by omega) (by omega) (by omega)
  have snd : ∀ p i w, 0 ≤ p → p < prs F - 1 → 0 ≤ i → i < lng F p s → 0 ≤ w → w < wrd F p s i → ∃ p' i', (0 ≤ p' ∧ p' ≤ p) ∧ (0 ≤ i' ∧ i' < lng (dpF F) p' s) ∧ wrd (dpF F) p' s i' = w := fun p i w p0 p1 i0 i1 w0 w1 => by
    obtain ⟨p', i', hp, hi, hw⟩ := o2 p i w p0 (by omega) i0 i1 w0 w1
    have l := hF.2.1 p' s hp.1 (by omega) s0 s1
    exact ⟨p', i', hp, by rw [el p' hp.1 (by omega)]; exact hi, by rw [eW p' i' hp.1 (by omega) hi.1 (by omega)]; exact hw⟩
  refine ⟨fun w w0 w1 => ?_, fun p i w p0 p1 i0 i1 w0 w1 => ?_⟩
  · rw [q2 s s0 s1] at w1
    rcases mp.2.2 with e | ⟨p, i, hc, e⟩
    · omega
    · have l := hF.2.1 p s hc.1.1 (by omega) s0 s1
      by_cases c : w = wrd F p s i
      · exact ⟨p, i, by rw [q1]; exact hc.1, by rw [el p hc.1.1 (by omega)]; exact hc.2, by rw [eW p i hc.1.1 (by omega) hc.2.1 (by omega)]; exact c.symm⟩
      · obtain ⟨p', i', hp, hi, hw⟩ := snd p i w hc.1.1 hc.1.2 hc.2.1 hc.2.2 w0 (by omega)
        exact ⟨p', i', by rw [q1]; omega, hi, hw⟩
  · rw [q1] at p1
    have l := hF.2.1 p s p0 (by omega) s0 s1
    rw [el p p0 (by omega)] at i1
    rw [eW p i p0 (by omega) i0 (by omega)] at w1
    exact snd p i w p0 p1 i0 i1 w0 w1
theorem mkF_hi {G : Nat → Int} (h : WFc G) {q : Nat} (hq : 4344 ≤ q) : mkF G q = G q := by
  have S : SameA G (mkN G) := mkC_same
  have w0 := (h.2.2.2.1 0 (by omega) (by omega)).1
  have w1 := (h.2.2.2.1 1 (by omega) (by omega)).1
  have e0 : wds (mkN G) 0 = wds G 0 := S.wds_ (by omega) (by omega)
  have e1 : wds (mkN G) 1 = wds G 1 := S.wds_ (by omega) (by omega)
  unfold mkF goS
  rw [if_neg (by omega)]
  unfold mkF0 goS
  rw [if_neg (by omega)]
  unfold mkN
  rw [mkC_n (by omega), if_neg (by omega)]
section
variable {P : zP} {d t : zD P} {F G : Nat → Int} {B : Int → Int} {T : Int}
theorem b_pairs (h : INV d F B T) {n : Int} (hn : I32 n) : BO d (fun d => wl_pairs d n) (fun d => m_pairs d n) := by
  have lo : lowE F (cpF F 0 2) := cpF_low (by omega)
  have wc := h.wf.c
  have wl := wc.low lo
  have c1 : CI d (cpF F 0 2) := h.ci.same (fun q hq => lo q (by omega))
  have oF1 : ORX (cpF F 0 2) := (show sx F (cpF F 0 2) from fun q q0 _ _ _ _ => lo q (by omega)).ORX h.wf h.2.2.2.2.2.1
  obtain ⟨v0, s0, e0, nf0, ga, gb⟩ := n_pairs h.f wc h.tq.n h.o hn
  obtain ⟨G0, hG0⟩ : ∃ G, (prd (cutB B n) n 12 0).1 = 0 → prs (cpF F 0 2) + (prd (cutB B n) n 12 0).2.2 ≤ 24 → ¬ OVF (cpF F 0 2) (cln (cutB B n)) (cky (cutB B n)) (prd (cutB B n) n 12 0).2.2 → pqC T n → apG (cpF F 0 2) G (cln (cutB B n)) (cky (cutB B n)) (prd (cutB B n) n 12 0).2.2 ∧ WFc G := by
    by_cases q1 : pqC T n ∧ (prd (cutB B n) n 12 0).1 = 0 ∧ prs (cpF F 0 2) + (prd (cutB B n) n 12 0).2.2 ≤ 24 ∧ ¬ OVF (cpF F 0 2) (cln (cutB B n)) (cky (cutB B n)) (prd (cutB B n) n 12 0).2.2
    · obtain ⟨G, a1, a2, -⟩ := (((gb q1.1).2.2 q1.2.1).2 q1.2.2.1).2 q1.2.2.2
      exact ⟨G, fun _ _ _ _ => ⟨a1, a2⟩⟩
    · exact ⟨F, fun a b c e => absurd ⟨e, a, b, c⟩ q1⟩
  by_cases hC : pqC T n
  · obtain ⟨v, s, e, fx, -, f2⟩ := k_pairs (G := G0) c1 h.tq hn (fun a b c => hG0 a b c hC)
    have ks : ∀ r, ¬ pkS r → s.m r = d.m r := fun r hr => fx r hr
    have n133 : ¬ pkS 133 := by unfold pkS tkP; omega
    have n132 : ¬ pkS 132 := by unfold pkS tkP; omega
    have n134 : ¬ pkS 134 := by unfold pkS tkP; omega
    obtain ⟨v', s', e', nf, -, g2⟩ := n_pairs (t := s) ((ks 133 n133).trans h.f) wc (h.tq.n.fr (by rw [ks 132 n132]) (ks 134 n134)) (by rw [ks 132 n132]; exact h.o) hn
    obtain ⟨t0, f3, f4⟩ := f2 hC
    obtain ⟨t3, g3, g4⟩ := g2 hC
    have fin : ∀ K : Nat → Int, v = v' → CI s K → s'.m 133 = K → hiE F K → ORX K → BO d (fun d => wl_pairs d n) (fun d => m_pairs d n) := fun K ev hci hk hh ho => by
      refine ⟨v, s, s', K, B, 0, e, by rw [ev]; exact e', ?_⟩
      exact INV.mk2 h (hci.fr (fun r r0 r1 => nf.1 r (by omega))) hk (TQ_0 (by rw [nf.1 11 (by omega)]; exact t0) t3) hh ho (by rw [nf.2.2, ks 132 n132]) (fun r hr => (nf.1 r (by omega)).trans (ks r (by unfold pkS tkP; omega))) (by rw [nf.2.1, ks 132 n132])
    by_cases q1 : (prd (cutB B n) n 12 0).1 = 0
    · have f5 := f4 q1
      have g5 := g4 q1
      by_cases q2 : prs (cpF F 0 2) + (prd (cutB B n) n 12 0).2.2 ≤ 24
      · by_cases q3 : OVF (cpF F 0 2) (cln (cutB B n)) (cky (cutB B n)) (prd (cutB B n) n 12 0).2.2
        · have f6 := (f5.2 q2).1 q3
          have g6 := (g5.2 q2).1 q3
          exact fin (s'.m 133) (f6.1.trans g6.1.symm) (f6.2.same (fun q hq => (g6.2 q (by omega)).trans (lo q (by omega)).symm)) rfl (fun q _ q1 => g6.2 q q1) ((show sx F (s'.m 133) from fun q q0 _ _ _ _ => g6.2 q (by omega)).ORX h.wf h.2.2.2.2.2.1)
        · obtain ⟨G1, a1, a2, a3, a4, a5⟩ := (g5.2 q2).2 q3
          obtain ⟨v2, s2, e2, -, -, f2'⟩ := k_pairs (G := G1) c1 h.tq hn (fun _ _ _ => ⟨a1, a2⟩)
          have es := e2.symm.trans e
          have ev : v2 = v ∧ s2 = s := by
            injection es with es
            injection es with x y
            exact ⟨x, y⟩
          obtain ⟨rfl, rfl⟩ := ev
          have f6 := (((f2' hC).2.2 q1).2 q2).2 q3
          have R1 := (prd_G (H := cutB B n) (n := n) 12 0 q1)
          have sg := cutB_s h.tq.n (n := n) (by have := hC.1; omega) hC.2
          have l6 : ∀ s q, 0 ≤ s → s < 2 → 0 ≤ q → q < (prd (cutB B n) n 12 0).2.2 → 1 ≤ cln (cutB B n) s q ∧ cln (cutB B n) s q ≤ 6 := fun s q s0 s1 q0 q1' => by
            have x := a2.2.1 (prs (cpF F 0 2) + q) s (by have := wl.1; omega) (by have := a1.1; omega) s0 s1
            rw [a1.2.2.2.2.1 q s q0 q1' s0 s1] at x
            exact x
          refine fin (mkF G1) (f6.1.trans a3.symm) f6.2 a4 (fun q hq0 hq1 => ?_) (ORX_mk a2 (ORD_ap oF1.1 wl (by omega) l6 a1))
          rw [mkF_hi a2 hq0, a5 q hq0]
          exact lo q hq1
      · have f6 := f5.1 (by omega)
        have g6 := g5.1 (by omega)
        exact fin F (f6.1.trans g6.1.symm) (f6.2.same (fun q hq => (lo q (by omega)).symm)) g6.2 (fun _ _ _ => rfl) h.2.2.2.2.2.1
    · have f5 := f3 q1
      have g5 := g3 q1
      exact fin F (f5.1.trans g5.1.symm) (f5.2.same (fun q hq => (lo q (by omega)).symm)) g5.2 (fun _ _ _ => rfl) h.2.2.2.2.2.1
  · have ek : wl_pairs d n = some (-1, d) := by
      have hT := h.tq.2.2.1
      have hn' := hn
      unfold I32 at hn'
      rw [wl_pairs_e, wr_id (by omega), wr_id (by omega), wr_id (by omega)]
      unfold pqC at hC
      by_cases a1 : n < 1
      · rw [if_pos a1]
      rw [if_neg a1]
      by_cases a2 : 200 < n
      · rw [if_pos a2]
      rw [if_neg a2, k_holds h.tq.1 hT hn, bi_f (by omega), Option.bind_some]
      (try dsimp only)
      rw [if_neg (fun hh => hh (show wr 0 = 0 from rfl))]
    obtain ⟨rfl, es⟩ := ga hC
    rw [es] at e0
    exact ⟨-1, d, d, F, B, T, ek, e0, h⟩
theorem b_drop (h : INV d F B T) : BO d (fun d => wl_drop d) (fun d => m_drop d) := by
  have wc := h.wf.c
  have p24 := wc.1
  obtain ⟨v, s, e, fx, f1, f2⟩ := k_drop h.ci
  have n133 : ¬ tkP 133 := by unfold tkP; omega
  have n132 : ¬ tkP 132 := by unfold tkP; omega
  have n134 : ¬ tkP 134 := by unfold tkP; omega
  obtain ⟨v', s', e', nf, t3, t4, g1, g2⟩ := n_drop (t := s) ((fx 133 n133).trans h.f) wc
  by_cases c : prs F = 0
  · obtain ⟨rfl, rfl⟩ := f1 c
    obtain ⟨rfl, rfl⟩ := g1 c
    exact ⟨-1, s', s', F, B, T, e, e', h⟩
  · have c1 : 1 ≤ prs F := by omega
    have f3 := f2 c1
    have g3 := g2 c1
    have dwc := (dpF_wf wc c1).1
    refine ⟨v, s, s', mkF (dpF F), B, T, e, by rw [f3.1, ← g3.1]; exact e', ?_⟩
    refine INV.mk2 h (f3.2.fr (fun r r0 r1 => nf.1 r (by omega))) g3.2 (h.tq.fr ?_ ?_ ?_ ?_) (fun q q0 q1 => ?_) (ORX_mk dwc (ORD_dp h.2.2.2.2.2.1.1 wc c1)) (by rw [nf.2.2, fx 132 n132]) (fun r hr => (nf.1 r (by omega)).trans (fx r (by unfold tkP; omega))) (by rw [nf.2.1, fx 132 n132])
    · rw [nf.1 11 (by omega), fx 11 (by unfold tkP; omega)]
    · rw [nf.1 12 (by omega), fx 12 (by unfold tkP; omega)]
    · rw [t3, fx 132 n132]
    · rw [t4, fx 134 n134]
    · rw [mkF_hi dwc q0]
      unfold dpF
      rw [if_neg (by omega), if_neg (by omega), if_neg (by omega)]
theorem b_byLetters (h : INV d F B T) {a : Int} (ha : a = 0 ∨ a = 1) : BO d (fun d => wl_byLetters d a) (fun d => m_byLetters d a) := by
  have y2 : zin 2 18180 := of_eq_true (zinT (by omega))
  have z2 : zix 2 = 2 := by rw [zix_id (by omega)]; rfl
  have hw := h.wf
  have eF2 : F (zix 2) = ltd F := rfl
  have pb := hw.ltd_
  have p24 := hw.prs_
  by_cases c : ltd F = a
  · refine BO_a 0 h ?_ (fun s hs => ?_)
    · (try dsimp only)
      rw [wl_byLetters_e, h.ci.ca.ltd_, if_neg (by rw [c]; exact fun x => x rfl)]
      exact Ok_ret ⟨rfl, qF.rf⟩
    · (try dsimp only)
      rw [m_byLetters_e, if_pos y2, hs.f, eF2, c]
      rcases ha with rfl | rfl
      · rw [if_pos zz0, if_neg (fun x => x rfl)]
        exact Ok_ret ⟨rfl, rF.rf⟩
      · rw [if_neg oz1, if_neg (fun x => x rfl)]
        exact Ok_ret ⟨rfl, rF.rf⟩
  · have e : sx F (stF F 2 a) := stF_sx (Or.inr (Or.inl rfl))
    have te : ∀ p i, 0 ≤ p → p < 24 → 0 ≤ i → i < 6 → tld (stF F 2 a) p i = tld F p i := fun p i p0 p1 i0 i1 => by
      unfold tld stF
      rw [zix_id (by omega), if_neg (by omega)]
    have l1 : lst (stF F 2 a) = lst F := by
      unfold lst stF
      rw [zix_id (by omega), if_neg (by decide)]
    have l2 : plc (stF F 2 a) = plc F := by
      unfold plc stF
      rw [zix_id (by omega), if_neg (by decide)]
    have l3 : ltd (stF F 2 a) = a := by
      unfold ltd stF
      rw [z2, if_pos rfl]
    have wG : WF (stF F 2 a) := hw.sx e (fun p i p0 p1 i0 i1 => by rw [te p i p0 (by omega) i0 i1]; exact hw.tld_ p0 p1 i0 i1) (by rw [l1]; exact hw.lst_) (by rw [l3]; exact ha) (by rw [l2]; exact hw.plc_)
    have wcG := wG.c
    have wN := wf_mkN wcG
    have S : SameA (stF F 2 a) (mkN (stF F 2 a)) := mkC_same
    have e13 : (d.up 13 5 a).m 13 = zfu (d.m 13) 5 a := u_13_5
    have er : ∀ r, r ≠ 13 → (d.up 13 5 a).m r = d.m r := fun r r1 => up_ne r1
    have caG : CA (d.up 13 5 a) (stF F 2 a) := by
      refine ⟨wG, h.ci.1.2.sx hw e (fun r r0 r1 => er r (by omega)) (fun p i p0 p1 i0 i1 => ?_) ?_ ?_ ?_⟩
      · have q := h.ci.1.2.2.2.2.2.2.2.1 p i p0 p1 i0 i1
        rw [er (13 + 15) (by decide), q]
        by_cases cp : p < prs F
        · rw [if_pos cp, if_pos cp, te p i p0 p1 i0 i1]
        · rw [if_neg cp, if_neg cp]
      · rw [e13, zfu_n, if_pos rfl, l3]
      · rw [e13, zfu_n, if_neg (by decide), l2]; exact h.ci.ca.plc_
      · rw [e13, zfu_n, if_neg (by decide), l1]; exact h.ci.ca.lst_
    have caN : CA (d.up 13 5 a) (mkN (stF F 2 a)) := by
      refine S.ca wN (fun w u v w0 w1 u0 u1 v0 v1 => ?_) caG
      have z := mkN_shr wcG w0 w1 u0 u1 v0 v1
      have es := e.shr_ (w := w) (u := u) (v := v) w0 w1 u0 u1 v0 v1
      have po := (e.PTI hw h.2.2.2.2.2.1.2) w u v w0 w1 u0 u1 v0 v1
      unfold ptn
      by_cases cm : mt (stF F 2 a) (fun _ _ _ => True) w u v
      · rw [z.1 cm]
        obtain ⟨p, i, j, a1, a2, a3, a4, a5⟩ := cm
        have ge : 0 ≤ shr (stF F 2 a) w u v := by
          rcases a5 with ⟨rfl, rfl, rfl⟩ | ⟨rfl, rfl, rfl⟩
          · exact wG.ptn_ (w := 0) (by omega) (by omega) a1.1 a1.2 a2.1 a2.2 a3.1 a3.2
          · exact wG.ptn_ (w := 1) (by omega) (by omega) a1.1 a1.2 a3.1 a3.2 a2.1 a2.2
        rw [decide_eq_false (show ¬ (0 : Int) = -1 by decide), decide_eq_false (show ¬ shr (stF F 2 a) w u v = -1 by omega)]
      · rw [z.2 cm]
        have : shr (stF F 2 a) w u v = -1 := Classical.byContradiction (fun x => cm (po x))
        rw [this]
    obtain ⟨v, s, ev, hci, hfr⟩ := k_begin caN
    have er2 : ∀ r, r ≠ 13 → (r < 36 ∨ 41 ≤ r) → (r < 109 ∨ 113 ≤ r) → s.m r = d.m r := fun r r1 r2 r3 => (hfr r r2 r3).trans (er r r1)
    have sF : s.m 133 = F := (er2 133 (by decide) (by omega) (by omega)).trans h.f
    obtain ⟨v', s', ev', hF', hfr'⟩ := n_makesNew (d := s.up 133 (zix 2) a) (F := stF F 2 a) (by
      rw [u_133, sF, z2]
      rfl) wN
    have er3 : ∀ r, r ≠ 13 → (r < 36 ∨ 41 ≤ r) → (r < 109 ∨ 113 ≤ r) → r ≠ 133 → (r < 143 ∨ 147 ≤ r) → s'.m r = d.m r := fun r r1 r2 r3 r4 r5 => (hfr' r (by omega) (by omega)).trans ((up_ne r4).trans (er2 r r1 r2 r3))
    have e13' : s'.m 13 = s.m 13 := (hfr' 13 (by omega) (by omega)).trans (up_ne (by decide))
    have ci' : CI s' (mkF (stF F 2 a)) := hci.fr (fun r r0 r1 => (hfr' r (by omega) (by omega)).trans (up_ne (by omega)))
    have inv : INV s' (mkF (stF F 2 a)) B T := INV.mk2 h ci' hF' (h.tq.fr (by rw [er3 11 (by decide) (by omega) (by omega) (by decide) (by omega)]) (er3 12 (by decide) (by omega) (by omega) (by decide) (by omega)) (by rw [er3 132 (by decide) (by omega) (by omega) (by decide) (by omega)]) (er3 134 (by decide) (by omega) (by omega) (by decide) (by omega))) (fun q q0 q1 => by
      rw [mkF_hi wcG q0]
      unfold stF
      rw [if_neg (by omega)]) (ORX_mk wcG (e.ORD hw h.2.2.2.2.2.1.1)) (by rw [er3 132 (by decide) (by omega) (by omega) (by decide) (by omega)]) (fun r hr => er3 r (by omega) (by omega) (by omega) (by omega) (by omega)) (by rw [er3 132 (by decide) (by omega) (by omega) (by decide) (by omega)])
    refine ⟨1, s, s', mkF (stF F 2 a), B, T, ?_, ?_, inv⟩
    · (try dsimp only)
      rw [wl_byLetters_e, h.ci.ca.ltd_, if_pos (by rw [wr_id (by omega), wr_id (by omega)]; exact c), if_pos ha, ev, Option.bind_some]
    · (try dsimp only)
      rw [m_byLetters_e, if_pos y2, sF, eF2]
      rcases ha with rfl | rfl
      · rw [if_pos zz0, if_pos (by rw [wr_id (by omega), wr_id (by omega)]; exact c), if_pos zz0, if_pos y2, ev', Option.bind_some]
      · rw [if_neg oz1, if_pos (by rw [wr_id (by omega), wr_id (by omega)]; exact c), if_neg oz1, if_pos y2, ev', Option.bind_some]
end
