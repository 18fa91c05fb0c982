/-! PAIRS COME: pairs, the model whole. -/
def lowE (F F' : Nat → Int) : Prop := ∀ q : Nat, q < 9090 → F' q = F q
theorem LI_ap {C F : Nat → Int} {ln : Int → Int → Int} {ky : Int → Int → Int → Int} {R : Int} (hF : WFc F) (R0 : 0 ≤ R) (h24 : prs F + R ≤ 24) (l6 : ∀ s q, 0 ≤ s → s < 2 → 0 ≤ q → q < R → 1 ≤ ln s q ∧ ln s q ≤ 6) (h : LI C F ln ky R (VR F ln ky R (fun _ => 0))) : apG F C ln ky R ∧ WFc C ∧ ¬ OVF F ln ky R := by
  obtain ⟨h1, h2, h3, h4, h5, h6, h7, h8⟩ := h
  have p0 := hF.1
  have ev : ∀ s, VR F ln ky R (fun _ => 0) s = vG F ln ky R s := fun s => by unfold VR vG; rw [vrw_0]
  have g2 : ∀ s, 0 ≤ s → s < 2 → VW C s ∧ wds C s = (vG F ln ky R s).1 ∧ ∀ w, 0 ≤ w → w < (vG F ln ky R s).1 → key C s w = (vG F ln ky R s).2 w := fun s s0 s1 => by rw [← ev s]; exact h2 s s0 s1
  have mono : ∀ s, 0 ≤ s → s < 2 → wds F s ≤ wds C s := fun s s0 s1 => by
    have x := vx_all (ln := ln s) (ky := ky s) (v := vF F s) (fun q q0 q1 => by have := l6 s q s0 s1 q0 q1; omega) (Int.le_refl 0) R0 (Int.le_refl R)
    rw [vall_0] at x
    rw [(g2 s s0 s1).2.1]
    exact x.1
  have vn : ∀ s q i, 0 ≤ s → s < 2 → 0 ≤ q → q < R → 0 ≤ i → i < ln s q → wrd C (prs F + q) s i = vfi (vG F ln ky R s) (ky s q i) ∧ 0 ≤ vfi (vG F ln ky R s) (ky s q i) ∧ vfi (vG F ln ky R s) (ky s q i) < wds C s := fun s q i s0 s1 q0 q1 i0 i1 => by
    have g := (h5 q s q0 q1 s0 s1).2 i i0 i1
    rw [ev s] at g
    refine ⟨g.1, ?_⟩
    have v0 := (g2 s s0 s1).1.1.1
    rw [(g2 s s0 s1).2.1] at v0 ⊢
    rcases first_range (p := fun w => decide ((vG F ln ky R s).2 w = ky s q i)) v0 with e | e
    · exact absurd e g.2
    · exact ⟨e.1, e.2.1⟩
  refine ⟨⟨h1, fun s s0 s1 => ⟨(g2 s s0 s1).2.1, fun w w0 w1 => (g2 s s0 s1).2.2 w w0 (by rw [← (g2 s s0 s1).2.1]; exact w1)⟩, fun p s a b c f => (h3 p s a b c f).1, fun p s i a b c f i0 i1 => (h3 p s a b c f).2 i i0 i1, fun q s a b c f => (h5 q s a b c f).1, fun q s i a b c f i0 i1 => (vn s q i c f a b i0 i1).1, h4, h6, h7⟩, ⟨by omega, fun p s a b c f => ?_, fun p s i a b c f i0 i1 => ?_, fun s s0 s1 => (g2 s s0 s1).1, fun p i a b i0 i1 => ?_, by rw [h7.1]; exact hF.2.2.2.2.2.1, by rw [h7.2.1]; exact hF.2.2.2.2.2.2.1, by rw [h7.2.2]; exact hF.2.2.2.2.2.2.2⟩, ?_⟩
  · by_cases cp : p < prs F
    · rw [(h3 p s a cp c f).1]
      exact hF.2.1 p s a cp c f
    · rw [show p = prs F + (p - prs F) by omega, (h5 (p - prs F) s (by omega) (by omega) c f).1]
      exact l6 s (p - prs F) c f (by omega) (by omega)
  · by_cases cp : p < prs F
    · rw [(h3 p s a cp c f).1] at i1
      rw [(h3 p s a cp c f).2 i i0 i1]
      have x := hF.2.2.1 p s i a cp c f i0 i1
      have y := mono s c f
      omega
    · rw [show p = prs F + (p - prs F) by omega, (h5 (p - prs F) s (by omega) (by omega) c f).1] at i1
      have v := vn s (p - prs F) i c f (by omega) (by omega) i0 i1
      rw [show p = prs F + (p - prs F) by omega, v.1]
      exact v.2
  · by_cases cp : p < prs F
    · rw [h4 p i a cp i0 i1]
      exact hF.2.2.2.2.1 p i a cp i0 i1
    · rw [show p = prs F + (p - prs F) by omega, h6 (p - prs F) i (by omega) (by omega) i0 i1]
      omega
  · rintro (hh | hh)
    · have g := g2 0 (by omega) (by omega)
      have b := g.1.1
      rw [g.2.1] at b
      omega
    · have g := g2 1 (by omega) (by omega)
      have b := g.1.1
      rw [g.2.1] at b
      omega
theorem LI_0 {F : Nat → Int} {ln : Int → Int → Int} {ky : Int → Int → Int → Int} (hF : WFc F) : LI F F ln ky 0 (VR F ln ky 0 (fun _ => 0)) := by
  have ev : ∀ s, VR F ln ky 0 (fun _ => 0) s = vF F s := fun s => by unfold VR; rw [vrw_0, vall_0]
  refine ⟨by omega, fun s s0 s1 => by rw [ev s]; exact ⟨hF.2.2.2.1 s s0 s1, rfl, fun _ _ _ => rfl⟩, fun p s _ _ _ _ => ⟨rfl, fun _ _ _ => rfl⟩, fun p i _ _ _ _ => rfl, fun q s a b _ _ => by omega, fun q i a b _ _ => by omega, ⟨rfl, rfl, rfl⟩, fun q _ => rfl⟩
theorem cpF_low {F : Nat → Int} {a b : Nat} (hb : 2 ≤ b) : lowE F (cpF F a b) := fun q hq => by
  unfold cpF
  rw [if_neg (by omega)]
theorem WFc.low {F G : Nat → Int} (h : WFc F) (e : lowE F G) : WFc G := by
  have p0 := h.1
  have r1 : ∀ x : Int, 0 ≤ x → x < 9090 → G (zix x) = F (zix x) := fun x x0 x1 => e _ (by rw [zix_id (by omega)]; omega)
  have ep : prs G = prs F := r1 0 (by omega) (by omega)
  have ew : ∀ s, 0 ≤ s → s < 2 → wds G s = wds F s := fun s s0 s1 => r1 (4 + s) (by omega) (by omega)
  obtain ⟨h1, h2, h3, h4, h5, h6, h7, h8⟩ := h
  have el : ∀ p s, 0 ≤ p → p < 24 → 0 ≤ s → s < 2 → lng G p s = lng F p s := fun p s a b c f => r1 ((24 + (20 * p)) + s) (by omega) (by omega)
  have eW : ∀ p s i, 0 ≤ p → p < 24 → 0 ≤ s → s < 2 → 0 ≤ i → i < 6 → wrd G p s i = wrd F p s i := fun p s i a b c f i0 i1 => r1 ((((24 + (20 * p)) + 2) + (6 * s)) + i) (by omega) (by omega)
  refine ⟨by rw [ep]; exact h1, fun p s a b c f => ?_, fun p s i a b c f i0 i1 => ?_, fun s s0 s1 => ?_, fun p i a b i0 i1 => ?_, by rw [show lst G = lst F from r1 1 (by omega) (by omega)]; exact h6, by rw [show ltd G = ltd F from r1 2 (by omega) (by omega)]; exact h7, by rw [show plc G = plc F from r1 3 (by omega) (by omega)]; exact h8⟩
  · rw [ep] at b
    rw [el p s a (by omega) c f]
    exact h2 p s a b c f
  · rw [ep] at b
    rw [el p s a (by omega) c f] at i1
    have l := h2 p s a b c f
    rw [eW p s i a (by omega) c f i0 (by omega), ew s c f]
    exact h3 p s i a b c f i0 i1
  · have v := h4 s s0 s1
    exact (VW_eq v s0 s1 rfl (ew s s0 s1) (fun q q0 q1 => e q (by have := v.1; omega))).1
  · rw [ep] at b
    rw [show tld G p i = tld F p i from r1 (((24 + (20 * p)) + 14) + i) (by omega) (by omega)]
    exact h5 p i a b i0 i1
section
variable {P : zP} {d t : zD P} {F : Nat → Int}
def pqC (T n : Int) : Prop := (1 ≤ n ∧ n ≤ 200) ∧ n ≤ T
theorem lY.nf {s : zD P} (h : lY t s) : nF t s := ⟨fun r hr => h.1 r (by omega) (by omega) (by omega), h.2 1 (by decide) (by decide) (by decide) (by decide), h.2 8 (by decide) (by decide) (by decide) (by decide)⟩
theorem nF.fx {s : zD P} (h : Fx (fun r => r = 133) t s) : nF t s := ⟨fun r hr => h r (by omega), by rw [h 132 (by decide)], by rw [h 132 (by decide)]⟩
theorem n_pairs (hF : t.m 133 = F) (hw : WFc F) {B : Int → Int} {T n : Int} (h : TN t B T) (h8 : t.m 132 8 = 0) (hn : I32 n) : Ok (m_pairs t n) (fun v s => nF t s ∧ (¬ pqC T n → v = -1 ∧ s = t) ∧ (pqC T n → s.m 132 3 = 0 ∧ ((prd (cutB B n) n 12 0).1 ≠ 0 → v = -1000 * (prd (cutB B n) n 12 0).1 - (prd (cutB B n) n 12 0).2.1 ∧ s.m 133 = F) ∧ ((prd (cutB B n) n 12 0).1 = 0 → (24 < prs (cpF F 0 2) + (prd (cutB B n) n 12 0).2.2 → v = -3 ∧ s.m 133 = F) ∧ (prs (cpF F 0 2) + (prd (cutB B n) n 12 0).2.2 ≤ 24 → (OVF (cpF F 0 2) (cln (cutB B n)) (cky (cutB B n)) (prd (cutB B n) n 12 0).2.2 → v = -4 ∧ lowE F (s.m 133)) ∧ (¬ OVF (cpF F 0 2) (cln (cutB B n)) (cky (cutB B n)) (prd (cutB B n) n 12 0).2.2 → ∃ G, apG (cpF F 0 2) G (cln (cutB B n)) (cky (cutB B n)) (prd (cutB B n) n 12 0).2.2 ∧ WFc G ∧ v = prs G ∧ s.m 133 = mkF G ∧ ∀ q : Nat, 4344 ≤ q → G q = cpF F 0 2 q))))) := by
  have zz : wr 0 = 0 := rfl
  have oz : ¬ wr 1 = 0 := by rw [wr_id (by omega)]; omega
  have y0 : zin 0 18180 := of_eq_true (zinT (by omega))
  have hT := h.2.1
  have hn' := hn
  unfold I32 at hn'
  rw [m_pairs_e, n_in (by unfold I32; omega), Option.bind_some]
  (try dsimp only)
  by_cases c1 : 1 ≤ n ∧ n ≤ 200
  · rw [bi_t c1, if_neg oz, h.1, wr_id (by omega), wr_id (by omega)]
    by_cases c2 : n ≤ T
    · have hC : pqC T n := ⟨c1, c2⟩
      have sg := cutB_s h (n := n) (by omega) c2
      rw [if_pos c2]
      have hs : src (t.up 132 3 0) (cutB B n) n := src_up3 (Or.inl ⟨h8, cutB_n h c2⟩)
      refine Ok_bind (n_readsAll0 hs sg) (fun v s f => ?_)
      obtain ⟨⟨fa, fb, fc, fd⟩, fe⟩ := f
      have f3 : nF t s := nF.rf.up3.tr fa.nf
      have e3 : s.m 132 3 = 0 := by rw [fa.2 3 (by decide) (by decide) (by decide) (by decide), u_132_3, zfu_n, if_pos rfl]
      have eF : s.m 133 = F := by rw [fa.1 133 (by decide) (by decide), up_ne (by decide)]; exact hF
      (try dsimp only)
      by_cases c3 : (prd (cutB B n) n 12 0).1 = 0
      · have g := prd_G (H := cutB B n) (n := n) 12 0 c3
        have e7 := fe c3
        rw [fd c3, if_pos oz, if_pos y0, eF, e7]
        have wl := hw.low (cpF_low (F := F) (a := 0) (b := 2) (by omega))
        have pp : prs (cpF F 0 2) = F (zix 0) := cpF_low (F := F) (a := 0) (b := 2) (by omega) _ (by rw [zix_id (by omega)]; omega)
        have p0 := wl.1
        generalize hR : (prd (cutB B n) n 12 0).2.2 = R at *
        by_cases c4 : prs (cpF F 0 2) + R ≤ 24
        · rw [if_pos (by rw [← pp, wr_id (by omega), wr_id (by omega)]; exact c4)]
          refine Ok_bind (n_copies eF (a := 0) (b := 2) (by omega) (by omega) (by decide)) (fun v2 s2 f2 => ?_)
          obtain ⟨f2a, f2b⟩ := f2
          have f2b' : s2.m 133 = cpF F 0 2 := f2b
          (try dsimp only)
          have l6 : ∀ s q, 0 ≤ s → s < 2 → 0 ≤ q → q < R → 1 ≤ cln (cutB B n) s q ∧ cln (cutB B n) s q ≤ 6 := fun s q s0 s1 q0 q1 => by
            have key : ∀ m : Nat, (m : Int) < R → 0 ≤ sst (cutB B n) 0 m ∧ sst (cutB B n) 0 m ≤ n := by
              intro m
              induction m with
              | zero =>
                intro _
                have e : sst (cutB B n) 0 ((0 : Nat) : Int) = 0 := cst_0 (H := cutB B n)
                rw [e]
                exact ⟨Int.le_refl _, by omega⟩
              | succ m ih =>
                intro hm
                have i := ih (by omega)
                have c := clG_l (s := 1) sg (g.2.1 m (by omega) (by omega)) i.1 i.2 (by omega) (by omega)
                have e : sst (cutB B n) 0 ((m + 1 : Nat) : Int) = (sen (cutB B n) 6 0 (sst (cutB B n) 1 m)).2.1 + 1 := by
                  have := cst_s (H := cutB B n) (r := (m : Int)) (by omega)
                  rw [show ((m + 1 : Nat) : Int) = (m : Int) + 1 by omega]
                  exact this
                have mid := g.2.2.2 m (by omega) (by omega)
                have s0' := sen_0 (q := sst (cutB B n) 1 m) sg 6 c.2.1.1 c.2.1.2
                have lt := sg.lt (k := (sen (cutB B n) 6 0 (sst (cutB B n) 1 m)).2.1) (by rw [mid.2]; decide)
                rw [e]
                omega
            have kq := key q.toNat (by omega)
            rw [show ((q.toNat : Nat) : Int) = q by omega] at kq
            exact (clG_l sg (g.2.1 q q0 q1) kq.1 kq.2 s0 s1).1
          have hs3 : src (s2.up 132 10 1) (cutB B n) n := by
            have a := hs.fy fa
            unfold src at a ⊢
            rw [u_132_10, zfu_n, if_neg (by decide), up_ne (by decide), up_ne (by decide), f2a 132 (by decide), f2a 134 (by decide)]
            rcases a with a | ⟨a1, a2, a3⟩
            · exact Or.inl a
            · rw [fa.2 8 (by decide) (by decide) (by decide) (by decide), u_132_3, zfu_n, if_neg (by decide), h8] at a1
              exact absurd a1 (by decide)
          have hb3 : (s2.up 132 10 1).m 133 = cpF F 0 2 := by rw [up_ne (by decide)]; exact f2b'
          have f4 : nF t (s2.up 132 10 1) := ⟨fun r hr => by rw [up_ne (by omega), f2a r (by omega)]; exact f3.1 r hr, by rw [u_132_10, zfu_n, if_neg (by decide), f2a 132 (by decide)]; exact f3.2.1, by rw [u_132_10, zfu_n, if_neg (by decide), f2a 132 (by decide)]; exact f3.2.2⟩
          have e34 : (s2.up 132 10 1).m 132 3 = 0 := by rw [u_132_10, zfu_n, if_neg (by decide), f2a 132 (by decide)]; exact e3
          have e10 : (s2.up 132 10 1).m 132 10 = 1 := by rw [u_132_10, zfu_n, if_pos rfl]
          generalize s2.up 132 10 1 = w at hs3 hb3 f4 e34 e10 ⊢
          rw [m_readsAll_e]
          have base5 : ∀ k, k ≠ 4 → k ≠ 5 → k ≠ 7 → (((w.up 132 4 0).up 132 5 n).up 132 7 0).m 132 k = w.m 132 k := fun k k1 k2 k3 => by rw [u_132_7, zfu_n, if_neg k3, u_132_5, zfu_n, if_neg k2, u_132_4, zfu_n, if_neg k1]
          have base : ∀ r, r ≠ 132 → (((w.up 132 4 0).up 132 5 n).up 132 7 0).m r = w.m r := fun r hr => by rw [up_ne hr, up_ne hr, up_ne hr]
          have hru : mR (((w.up 132 4 0).up 132 5 n).up 132 7 0) (cutB B n) n (sst (cutB B n) 0 0) := by
            refine ⟨⟨?_, ?_⟩, ?_, sg, Int.le_refl _, sg.2.2.1⟩
            · rw [u_132_7, zfu_n, if_neg (by decide), u_132_5, zfu_n, if_neg (by decide), u_132_4, zfu_n, if_pos rfl]; rfl
            · rw [u_132_7, zfu_n, if_neg (by decide), u_132_5, zfu_n, if_pos rfl]
            · unfold src at hs3 ⊢
              rw [base5 8 (by decide) (by decide) (by decide), base 134 (by decide), base 133 (by decide)]
              exact hs3
          have u7 : (((w.up 132 4 0).up 132 5 n).up 132 7 0).m 132 7 = 0 := by rw [u_132_7, zfu_n, if_pos rfl]
          have ub : (((w.up 132 4 0).up 132 5 n).up 132 7 0).m 133 = cpF F 0 2 := by rw [base 133 (by decide)]; exact hb3
          have u10 : (((w.up 132 4 0).up 132 5 n).up 132 7 0).m 132 10 = 1 := by rw [base5 10 (by decide) (by decide) (by decide)]; exact e10
          have uf : nF t (((w.up 132 4 0).up 132 5 n).up 132 7 0) := ⟨fun r hr => by rw [base r (by omega)]; exact f4.1 r hr, by rw [base5 1 (by decide) (by decide) (by decide)]; exact f4.2.1, by rw [base5 8 (by decide) (by decide) (by decide)]; exact f4.2.2⟩
          have u3 : (((w.up 132 4 0).up 132 5 n).up 132 7 0).m 132 3 = 0 := by rw [base5 3 (by decide) (by decide) (by decide)]; exact e34
          generalize ((w.up 132 4 0).up 132 5 n).up 132 7 0 = u at hru u7 ub u10 uf u3 ⊢
          have pi0 : PI u (cpF F 0 2) (cln (cutB B n)) (cky (cutB B n)) R 0 u := ⟨lY.rf, Or.inl ⟨u10, by rw [ub]; exact LI_0 wl⟩⟩
          have R12 : R ≤ 12 := by omega
          have all : Ok ((m_readsPair u 1).bind fun q1 => m_readsAll_13 q1.2 (0, n) 1 q1.1) (fun v s => v = 1 ∧ PI u (cpF F 0 2) (cln (cutB B n)) (cky (cutB B n)) R R s) := by
            refine Ok_bind (n_pairL wl (r := 0) (by omega) (by omega) R12 c4 l6 (g.2.1 0 (by omega) (by omega)) pi0 hru u7) (fun v3 s3 f5 => ?_)
            obtain ⟨rfl, fa5, fb5, fc5⟩ := f5
            exact n_allL wl R12 c4 l6 (fun r r0 r1 => g.2.1 r r0 r1) g.2.2.1 (fun r r0 r1 => g.2.2.2 r r0 r1) (R.toNat - 1) 0 s3 (0, n) (by omega) (by omega) fa5 fb5 fc5
          refine Ok_bind all (fun v4 s4 f5 => ?_)
          obtain ⟨rfl, hp5⟩ := f5
          have nf4 : nF t s4 := uf.tr hp5.1.nf
          have e43 : s4.m 132 3 = 0 := by rw [hp5.1.2 3 (by decide) (by decide) (by decide) (by decide)]; exact u3
          (try dsimp only)
          rcases hp5.2 with ⟨hr5, hli⟩ | ⟨hr5, hov, hp, hh⟩
          · obtain ⟨hap, hwc, hno⟩ := LI_ap wl (by omega) c4 l6 hli
            rw [hr5, if_neg oz, if_pos oz]
            refine Ok_bind (n_makesNew rfl (wf_mkN hwc)) (fun v6 s6 f6 => ?_)
            obtain ⟨f6a, f6b⟩ := f6
            have nf6 : nF t s6 := nf4.tr ⟨fun r hr => f6b r (by omega) (by omega), by rw [f6b 132 (by omega) (by omega)], by rw [f6b 132 (by omega) (by omega)]⟩
            have pG : (mkF (s4.m 133)) (zix 0) = prs (s4.m 133) := by
              have S : SameA (s4.m 133) (mkF (s4.m 133)) := SameA.tr mkC_same mkF_same
              exact S.prs_
            (try dsimp only)
            rw [if_pos y0, f6a, pG]
            refine Ok_ret ⟨nf6, fun hh => absurd hC hh, fun _ => ⟨?_, fun hh => absurd c3 hh, fun _ => ⟨fun hh => by omega, fun _ => ⟨fun hh => absurd hh hno, fun _ => ⟨s4.m 133, hap, hwc, rfl, f6a, hp5.hi⟩⟩⟩⟩⟩
            rw [f6b 132 (by omega) (by omega)]
            exact e43
          · rw [hr5, if_pos zz]
            refine Ok_bind (n_copies (F := s4.m 133) rfl (a := 2) (b := 0) (by omega) (by omega) (by decide)) (fun v6 s6 f6 => ?_)
            obtain ⟨f6a, f6b⟩ := f6
            refine Ok_ret ⟨nf4.tr (nF.fx f6a), fun hh => absurd hC hh, fun _ => ⟨?_, fun hh => absurd c3 hh, fun _ => ⟨fun hh => by omega, fun _ => ⟨fun _ => ⟨rfl, fun q hq => ?_⟩, fun hh => absurd hov hh⟩⟩⟩⟩
            · rw [f6a 132 (by decide)]; exact e43
            · have f6b' : s6.m 133 = cpF (s4.m 133) 2 0 := f6b
              rw [f6b']
              unfold cpF
              by_cases cq : q < 4545
              · rw [if_pos (by omega), hh _ (by omega)]
                unfold cpF
                rw [if_pos (by omega)]
                exact congrArg F (by omega)
              · rw [if_neg (by omega), hh q (by omega)]
                unfold cpF
                rw [if_neg (by omega)]
        · rw [if_neg (by rw [← pp, wr_id (by omega), wr_id (by omega)]; exact c4)]
          exact Ok_ret ⟨f3, fun hh => absurd hC hh, fun _ => ⟨e3, fun hh => absurd c3 hh, fun _ => ⟨fun _ => ⟨rfl, eF⟩, fun hh => absurd hh c4⟩⟩⟩
      · have g := fc c3
        rw [g.1, if_neg (fun hh => hh zz), g.2]
        exact Ok_ret ⟨f3, fun hh => absurd hC hh, fun _ => ⟨e3, fun _ => ⟨rfl, eF⟩, fun hh => absurd hh c3⟩⟩
    · rw [if_neg c2]
      exact Ok_ret ⟨nF.rf, fun _ => ⟨rfl, rfl⟩, fun hh => absurd hh.2 c2⟩
  · rw [bi_f c1, if_pos zz]
    exact Ok_ret ⟨nF.rf, fun _ => ⟨rfl, rfl⟩, fun hh => absurd hh.1 c1⟩
end
