/-! JOINS, the model. -/
section
variable {P : zP} {d t : zD P} {F : Nat → Int}
/-- what joins leaves of the rest -/
def jF (t s : zD P) : Prop := (∀ r, r < 132 ∨ r = 134 → s.m r = t.m r) ∧ s.m 132 1 = t.m 132 1 ∧ s.m 132 3 = t.m 132 3 ∧ s.m 132 8 = 0
theorem n_joins {W : Int} (hF : t.m 133 = F) (hw : WFc F) (h8 : t.m 132 8 = 0) (hs : WFs F) (hn0 : shl F ≠ 0) (nk : nkS (sgF F) W) : Ok (m_joins t) (fun v s => jF t s ∧ ((∃ m, 0 ≤ m ∧ m < W ∧ jfP (sgF F) m) → v = -5 ∧ s.m 133 = F) ∧ ((∀ m, 0 ≤ m → m < W → ¬ jfP (sgF F) m) → (24 < prs (cpF F 0 2) + (jnS (sgF F) W).1 → v = -3 ∧ s.m 133 = F) ∧ (prs (cpF F 0 2) + (jnS (sgF F) W).1 ≤ 24 → (OVF (cpF F 0 2) (jnS (sgF F) W).2.1 (jnS (sgF F) W).2.2 (jnS (sgF F) W).1 → v = -4 ∧ lowE F (s.m 133)) ∧ (¬ OVF (cpF F 0 2) (jnS (sgF F) W).2.1 (jnS (sgF F) W).2.2 (jnS (sgF F) W).1 → ∃ G, apG (cpF F 0 2) G (jnS (sgF F) W).2.1 (jnS (sgF F) W).2.2 (jnS (sgF F) W).1 ∧ WFc G ∧ v = prs G ∧ s.m 133 = mkF G ∧ ∀ q : Nat, 4344 ≤ q → G q = cpF F 0 2 q)))) := by
  have y0 : zin 0 18180 := of_eq_true (zinT (by omega))
  have yS : zin 4344 18180 := of_eq_true (zinT (by omega))
  have eS : F (zix 4344) = shl F := rfl
  have lb := hs.1
  obtain ⟨sg, sh0⟩ := hs.2 hn0
  have W16 := nk.1
  rw [m_joins_e, if_pos yS, hF, eS, if_pos (by rw [wr_id (by omega)]; exact hn0)]
  refine Ok_bind (n_matches hF h8 hs hn0) (fun v1 s1 f1 => ?_)
  obtain ⟨x1, fs, tn⟩ := f1
  obtain ⟨H, hH⟩ : ∃ H, H = sgF F := ⟨_, rfl⟩
  have cells0 : ∀ k, 0 ≤ k → k < shl F → F (zix (4345 + k)) = H k := fun k k0 k1 => by
    rw [hH]
    unfold sgF
    rw [if_pos (by omega)]
  rw [← hH] at sg sh0 fs tn nk ⊢
  have e133 : s1.m 133 = F := (x1.1 133 (by decide) (by omega)).trans hF
  have jf1 : jF t s1 := ⟨fun r hr => x1.1 r (by omega) (by omega), x1.2 1 (by decide) (by decide) (by decide), x1.2 3 (by decide) (by decide) (by decide), (x1.2 8 (by decide) (by decide) (by decide)).trans h8⟩
  (try dsimp only)
  refine Ok_bind (n_joins0 sg sh0 fs tn nk) (fun v2 s2 f2 => ?_)
  obtain ⟨rfl, a1, a2⟩ := f2
  (try dsimp only)
  by_cases ff : ∃ m, 0 ≤ m ∧ m < W ∧ jfP H m
  · rw [a1 ff, if_neg (by rw [wr_id (by omega)]; omega)]
    refine Ok_ret ⟨jf1, fun _ => ⟨rfl, e133⟩, fun hh => ?_⟩
    obtain ⟨m, b0, b1, b2⟩ := ff
    exact absurd b2 (hh m b0 b1)
  · have nf : ∀ m, 0 ≤ m → m < W → ¬ jfP H m := fun m b0 b1 b2 => ff ⟨m, b0, b1, b2⟩
    have jn := jn_ok sg sh0 nk nf W.toNat (by omega)
    have wk := wk_in sg sh0 nk W.toNat (by omega)
    rw [show ((W.toNat : Nat) : Int) = W by omega] at jn wk
    have hM := (sh_ok sg sh0 (s := 0) (by omega) (by omega)).1
    have wl := hw.low (cpF_low (F := F) (a := 0) (b := 2) (by omega))
    have lo := cpF_low (F := F) (a := 0) (b := 2) (by omega)
    have pp : prs (cpF F 0 2) = F (zix 0) := lo _ (by rw [zix_id (by omega)]; omega)
    have p0 := wl.1
    rw [a2 nf, if_pos (by rw [wr_id (by omega)]; omega), if_pos y0, e133]
    by_cases c4 : prs (cpF F 0 2) + (jnS H W).1 ≤ 24
    · rw [if_pos (by rw [← pp, wr_id (by omega), wr_id (by omega)]; exact c4)]
      refine Ok_bind (n_copies e133 (a := 0) (b := 2) (by omega) (by omega) (by decide)) (fun v3 s3 f3 => ?_)
      obtain ⟨f3a, f3b⟩ := f3
      have f3b' : s3.m 133 = cpF F 0 2 := f3b
      have u8 : ((s3.up 132 10 1).up 132 8 1).m 132 8 = 1 := by rw [u_132_8, zfu_n, if_pos rfl]
      have u10 : ((s3.up 132 10 1).up 132 8 1).m 132 10 = 1 := by rw [u_132_8, zfu_n, if_neg (by decide), u_132_10, zfu_n, if_pos rfl]
      have uk : ∀ k, k ≠ 8 → k ≠ 10 → ((s3.up 132 10 1).up 132 8 1).m 132 k = s2.m 132 k := fun k k1 k2 => by rw [u_132_8, zfu_n, if_neg k1, u_132_10, zfu_n, if_neg k2, f3a 132 (by decide)]
      have ur : ∀ r, r ≠ 132 → r ≠ 133 → ((s3.up 132 10 1).up 132 8 1).m r = s2.m r := fun r r1 r2 => by rw [up_ne r1, up_ne r1, f3a r r2]
      have ub : ((s3.up 132 10 1).up 132 8 1).m 133 = cpF F 0 2 := by rw [up_ne (by decide), up_ne (by decide)]; exact f3b'
      (try dsimp only)
      generalize (s3.up 132 10 1).up 132 8 1 = u at u8 u10 uk ur ub ⊢
      have fsu : fsR u H := fun w w0 w1 => by
        rw [ur 140 (by decide) (by decide), ur 136 (by decide) (by decide), ur 137 (by decide) (by decide), ur 138 (by decide) (by decide), ur 139 (by decide) (by decide)]
        exact fs w w0 w1
      have tnu : tnQ u H (fun _ _ => True) := fun i j i0 i1 j0 j1 c => by
        rw [ur 141 (by decide) (by decide), ur 142 (by decide) (by decide)]
        exact tn i j i0 i1 j0 j1 c
      have pi0 : PI u (cpF F 0 2) (jnS H W).2.1 (jnS H W).2.2 (jnS H W).1 0 u := ⟨lY.rf, Or.inl ⟨u10, by rw [ub]; exact LI_0 wl⟩⟩
      refine Ok_bind (n_joins1 wl sg sh0 lb.2 fsu tnu nk nf c4 (fun k k0 k1 => by rw [lo _ (by rw [zix_id (by omega)]; omega)]; exact cells0 k k0 k1) u8 pi0) (fun v4 s4 f4 => ?_)
      obtain ⟨J4, hp4⟩ := f4
      have w8 : (s4.up 132 8 0).m 132 8 = 0 := by rw [u_132_8, zfu_n, if_pos rfl]
      have wk' : ∀ k, k ≠ 8 → (s4.up 132 8 0).m 132 k = s4.m 132 k := fun k k1 => by rw [u_132_8, zfu_n, if_neg k1]
      have wr' : ∀ r, r ≠ 132 → (s4.up 132 8 0).m r = s4.m r := fun r r1 => up_ne r1
      (try dsimp only)
      generalize s4.up 132 8 0 = w at w8 wk' wr' ⊢
      have jf5 : jF t w := by
        refine ⟨fun r hr => ?_, ?_, ?_, w8⟩
        · rw [wr' r (by omega), J4.1 r (by omega) (by omega) (by omega), ur r (by omega) (by omega)]
          exact jf1.1 r hr
        · rw [wk' 1 (by decide), J4.2 1 (by decide) (by decide) (by decide) (by decide), uk 1 (by decide) (by decide)]
          exact jf1.2.1
        · rw [wk' 3 (by decide), J4.2 3 (by decide) (by decide) (by decide) (by decide), uk 3 (by decide) (by decide)]
          exact jf1.2.2.1
      have w133 : w.m 133 = s4.m 133 := wr' 133 (by decide)
      have hi4 := hp4.hi
      rw [wk' 10 (by decide)]
      rcases hp4.2 with ⟨hr5, hli⟩ | ⟨hr5, hov, hp, hh⟩
      · obtain ⟨hap, hwc, hno⟩ := LI_ap wl jn.1.1 c4 (fun s q s0 s1 q0 q1 => (jn.2 s q s0 s1 q0 q1).1) hli
        rw [hr5, if_pos oz1]
        refine Ok_bind (n_makesNew w133 (wf_mkN hwc)) (fun v6 s6 f6 => ?_)
        obtain ⟨f6a, f6b⟩ := f6
        have pG : (mkF (s4.m 133)) (zix 0) = prs (s4.m 133) := by
          have S : SameA (s4.m 133) (mkF (s4.m 133)) := SameA.tr mkC_same mkF_same
          exact S.prs_
        have jf6 : jF t s6 := ⟨fun r hr => (f6b r (by omega) (by omega)).trans (jf5.1 r hr), by rw [f6b 132 (by omega) (by omega)]; exact jf5.2.1, by rw [f6b 132 (by omega) (by omega)]; exact jf5.2.2.1, by rw [f6b 132 (by omega) (by omega)]; exact jf5.2.2.2⟩
        (try dsimp only)
        rw [if_pos y0, f6a, pG]
        exact Ok_ret ⟨jf6, fun x => absurd x ff, fun _ => ⟨fun x => by omega, fun _ => ⟨fun x => absurd x hno, fun _ => ⟨s4.m 133, hap, hwc, rfl, f6a, hi4⟩⟩⟩⟩
      · rw [hr5, if_neg (fun x => x zz0)]
        refine Ok_bind (n_copies (F := s4.m 133) w133 (a := 2) (b := 0) (by omega) (by omega) (by decide)) (fun v6 s6 f6 => ?_)
        obtain ⟨f6a, f6b⟩ := f6
        have jf6 : jF t s6 := ⟨fun r hr => (f6a r (by omega)).trans (jf5.1 r hr), by rw [f6a 132 (by decide)]; exact jf5.2.1, by rw [f6a 132 (by decide)]; exact jf5.2.2.1, by rw [f6a 132 (by decide)]; exact jf5.2.2.2⟩
        refine Ok_ret ⟨jf6, fun x => absurd x ff, fun _ => ⟨fun x => by omega, fun _ => ⟨fun _ => ⟨rfl, fun q hq => ?_⟩, fun x => absurd hov x⟩⟩⟩
        have f6b' : s6.m 133 = cpF (s4.m 133) 2 0 := f6b
        rw [f6b']
        unfold cpF
        by_cases cq : q < 4545
        · rw [if_pos (by omega), hh _ (by omega)]
          unfold cpF
          rw [if_pos (by omega)]
          exact congrArg F (by omega)
        · rw [if_neg (by omega), hh q (by omega)]
          unfold cpF
          rw [if_neg (by omega)]
    · rw [if_neg (by rw [← pp, wr_id (by omega), wr_id (by omega)]; exact c4)]
      exact Ok_ret ⟨jf1, fun x => absurd x ff, fun _ => ⟨fun _ => ⟨rfl, e133⟩, fun x => absurd x c4⟩⟩
theorem ORD_ap0 {F G : Nat → Int} {ln : Int → Int → Int} {ky : Int → Int → Int → Int} (h : ORD F) (ap : apG F G ln ky 0) : ORD G := fun s s0 s1 => by
  obtain ⟨o1, o2⟩ := h s s0 s1
  obtain ⟨g1, g2, g3, g4, -⟩ := ap
  have ew : wds G s = wds F s := by
    rw [(g2 s s0 s1).1]
    unfold vG
    rw [vall_0]
    rfl
  refine ⟨fun w w0 w1 => ?_, fun p i w p0 p1 i0 i1 w0 w1 => ?_⟩
  · rw [ew] at w1
    obtain ⟨p, i, hp, hi, hw⟩ := o1 w w0 w1
    exact ⟨p, i, by omega, by rw [g3 p s hp.1 hp.2 s0 s1]; exact hi, by rw [g4 p s i hp.1 hp.2 s0 s1 hi.1 hi.2]; exact hw⟩
  · have p2 : p < prs F := by omega
    rw [g3 p s p0 p2 s0 s1] at i1
    rw [g4 p s i p0 p2 s0 s1 i0 i1] at w1
    obtain ⟨p', i', hp, hi, hw⟩ := o2 p i w p0 p2 i0 i1 w0 w1
    exact ⟨p', i', hp, by rw [g3 p' s hp.1 (by omega) s0 s1]; exact hi, by rw [g4 p' s i' hp.1 (by omega) s0 s1 hi.1 hi.2]; exact hw⟩
end
