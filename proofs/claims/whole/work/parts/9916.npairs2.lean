/-! PAIRS COME: the model takes a text of pairs. -/
section
variable {P : zP} {d t : zD P} {F : Nat → Int}
/-- a clause that is good -/
def clG (H : Int → Int) (r : Int) : Prop := (sen H 6 0 (sst H 0 r)).1 = 0 ∧ H (sen H 6 0 (sst H 0 r)).2.1 = 61 ∧ (sen H 6 0 (sst H 1 r)).1 = 0
theorem prd_G {H : Int → Int} {n : Int} : ∀ (m : Nat) (k : Int), (prd H n m k).1 = 0 → (k < (prd H n m k).2.2 ∧ (prd H n m k).2.2 ≤ k + m) ∧ (∀ r, k ≤ r → r < (prd H n m k).2.2 → clG H r) ∧ (sen H 6 0 (sst H 1 ((prd H n m k).2.2 - 1))).2.1 = n ∧ (∀ r, k ≤ r → r < (prd H n m k).2.2 - 1 → (sen H 6 0 (sst H 1 r)).2.1 ≠ n ∧ H (sen H 6 0 (sst H 1 r)).2.1 = 59)
  | 0, k, h => absurd (show (4 : Int) = 0 from h) (by decide)
  | m + 1, k, h => by
    unfold prd at h ⊢
    by_cases c1 : (sen H 6 0 (sst H 0 k)).1 ≠ 0
    · rw [if_pos c1] at h; exact absurd h c1
    rw [if_neg c1] at h ⊢
    by_cases c2 : H (sen H 6 0 (sst H 0 k)).2.1 ≠ 61
    · rw [if_pos c2] at h; exact absurd (show (1 : Int) = 0 from h) (by decide)
    rw [if_neg c2] at h ⊢
    by_cases c3 : (sen H 6 0 (sst H 1 k)).1 ≠ 0
    · rw [if_pos c3] at h; exact absurd h c3
    rw [if_neg c3] at h ⊢
    have gk : clG H k := ⟨Classical.byContradiction c1, Classical.byContradiction c2, Classical.byContradiction c3⟩
    by_cases c4 : (sen H 6 0 (sst H 1 k)).2.1 = n
    · rw [if_pos c4]
      (try dsimp only)
      rw [show k + 1 - 1 = k by omega]
      refine ⟨by omega, fun r r0 r1 => ?_, c4, fun r r0 r1 => by omega⟩
      have e : r = k := by omega
      rw [e]; exact gk
    · rw [if_neg c4] at h ⊢
      by_cases c5 : H (sen H 6 0 (sst H 1 k)).2.1 ≠ 59
      · rw [if_pos c5] at h; exact absurd (show (1 : Int) = 0 from h) (by decide)
      rw [if_neg c5] at h ⊢
      have r := prd_G m (k + 1) h
      refine ⟨by omega, fun q q0 q1 => ?_, r.2.2.1, fun q q0 q1 => ?_⟩
      · by_cases e : q = k
        · rw [e]; exact gk
        · exact r.2.1 q (by omega) q1
      · by_cases e : q = k
        · rw [e]; exact ⟨c4, Classical.byContradiction c5⟩
        · exact r.2.2.2 q (by omega) q1
/-- lengths of rows -/
theorem clG_l {H : Int → Int} {n r s : Int} (sg : sgn H n) (h : clG H r) (q0 : 0 ≤ sst H 0 r) (q1 : sst H 0 r ≤ n) (s0 : 0 ≤ s) (s1 : s < 2) : (1 ≤ cln H s r ∧ cln H s r ≤ 6) ∧ (0 ≤ sst H s r ∧ sst H s r ≤ n) ∧ (∀ i, 0 ≤ i → i < cln H s r → 0 ≤ cky H s r i ∧ cky H s r i < 34359738368) := by
  have a0 := sen_0 sg 6 q0 q1
  have e1 : sst H 1 r = (sen H 6 0 (sst H 0 r)).2.1 + 1 := rfl
  have lt := sg.lt (k := (sen H 6 0 (sst H 0 r)).2.1) (by rw [h.2.1]; decide)
  rcases (by omega : s = 0 ∨ s = 1) with rfl | rfl
  · have b := a0.2 h.1
    unfold cln cky
    exact ⟨by omega, ⟨q0, q1⟩, fun i i0 i1 => kyW_b (by have := (b.2.1 i i0 i1).2; omega)⟩
  · have a1 := sen_0 (q := sst H 1 r) sg 6 (by omega) (by omega)
    have b := a1.2 h.2.2
    unfold cln cky
    exact ⟨by omega, by omega, fun i i0 i1 => kyW_b (by have := (b.2.1 i i0 i1).2; omega)⟩
theorem n_pairL (hF : WFc F) {H : Int → Int} {n R r : Int} {u : zD P} (r0 : 0 ≤ r) (r1 : r < R) (R12 : R ≤ 12) (h24 : prs F + R ≤ 24) (l6 : ∀ s q, 0 ≤ s → s < 2 → 0 ≤ q → q < R → 1 ≤ cln H s q ∧ cln H s q ≤ 6) (hg : clG H r) (h : PI t F (cln H) (cky H) R r u) (hr : mR u H n (sst H 0 r)) (h7 : u.m 132 7 = r) : Ok (m_readsPair u 1) (fun v s => v = 1 ∧ PI t F (cln H) (cky H) R (r + 1) s ∧ mR s H n (sen H 6 0 (sst H 1 r)).2.1 ∧ s.m 132 7 = r + 1) := by
  have zz : wr 0 = 0 := rfl
  have oz : ¬ wr 1 = 0 := by rw [wr_id (by omega)]; omega
  have y0 : zin 0 18180 := of_eq_true (zinT (by omega))
  have sg := hr.2.2.1
  have p0 := hF.1
  have z0 : zix 0 = 0 := by rw [zix_id (by omega)]; rfl
  have es : (sen H 6 0 (sst H 0 r)).2.1 + 1 = sst H 1 r := rfl
  have s0 := sen_0 sg 6 hr.2.2.2.1 hr.2.2.2.2
  have hp := h.p
  rw [m_readsPair_e, h7, if_pos (by rw [wr_id (by omega), wr_id (by omega)]; omega)]
  have goes : ∀ w : zD P, lY t w → SI w F (cln H) (cky H) R r 0 0 w → mR w H n (sst H 0 r) → w.m 132 7 = r + 1 → Ok (m_readsPair_18 w 1 20) (fun v s => v = 1 ∧ PI t F (cln H) (cky H) R (r + 1) s ∧ mR s H n (sen H 6 0 (sst H 1 r)).2.1 ∧ s.m 132 7 = r + 1) := fun w hy hsi hrw hw7 => by
    rw [m_readsPair_18_e, if_pos (by rw [wr_id (by omega)]; omega)]
    refine Ok_bind (n_sentence (b := 1) (side := 0) (Or.inr rfl) (fun k s s' hk hx => hk.x hx) (lay_ok (t := w) hF r0 r1 l6 (by omega) (by omega) hg.1 rfl (fun i => rfl)) hrw hsi) (fun v s f => ?_)
    have f2 := f.2.2.1 hg.1
    (try dsimp only)
    rw [f2.1, if_neg oz, n_sign f.1 (by omega), if_pos hg.2.1, Option.bind_some, es]
    (try dsimp only)
    rw [if_neg oz]
    have lt := sg.lt (k := (sen H 6 0 (sst H 0 r)).2.1) (by rw [hg.2.1]; decide)
    have i1 : SI w F (cln H) (cky H) R r 1 0 (s.up 132 4 (sst H 1 r)) := (SI_1 f2.2).x mX.rf.up4
    have hr1 : mR (s.up 132 4 (sst H 1 r)) H n (sst H 1 r) := f.1.up4 (by rw [← es]; omega) (by rw [← es]; omega)
    generalize s.up 132 4 (sst H 1 r) = s1 at i1 hr1 ⊢
    refine Ok_bind (n_sentence (b := 1) (side := 1) (Or.inr rfl) (fun k s s' hk hx => hk.x hx) (lay_ok (t := w) hF r0 r1 l6 (by omega) (by omega) hg.2.2 rfl (fun i => rfl)) hr1 i1) (fun v' s' g => ?_)
    have g2 := g.2.2.1 hg.2.2
    have hi1 : SI w F (cln H) (cky H) R r 1 (cln H 1 r) s' := g2.2
    have pe : s'.m 133 (zix 0) = prs F + r := by
      rcases hi1.2 with ⟨-, q⟩ | ⟨-, -, q, -⟩
      · exact q.1.1
      · exact q
    (try dsimp only)
    rw [g2.1, if_neg oz, if_neg oz, if_neg oz, if_pos y0, if_pos y0, pe]
    have fin := SI_end hF r0 r1 l6 hy hi1
    refine Ok_ret ⟨rfl, fin, ⟨?_, ?_, g.1.2.2⟩, ?_⟩
    · rw [up_ne (by decide)]; exact g.1.1
    · refine src_lY g.1.2.1 (lX.rf.upF.y) (fun q hq => ?_)
      rw [u_133, zfu_n, if_neg (by rw [z0]; omega)]
    · rw [up_ne (by decide), hi1.1.2 7 (by decide) (by decide) (by decide)]
      exact hw7
  have y7 : lY t (u.up 132 7 (r + 1)) := h.1.up7
  have e133 : (u.up 132 7 (r + 1)).m 133 = u.m 133 := up_ne (by decide)
  refine lpD (fun k w => m_readsPair_18 w 1 k) (fun k w => lY t w ∧ w.m 132 10 = u.m 132 10 ∧ w.m 132 7 = r + 1 ∧ mR w H n (sst H 0 r) ∧ ∀ q : Nat, w.m 133 q = if 24 + 20 * (prs F + r) ≤ q ∧ (q : Int) < 24 + 20 * (prs F + r) + k then 0 else u.m 133 q) 0 20 (by omega) _ ⟨y7, by rw [u_132_7, zfu_n, if_neg (by decide)], by rw [u_132_7, zfu_n, if_pos rfl], hr.up7, fun q => by rw [if_neg (by omega), e133]⟩ (fun w hw => ?_) (fun k w k0 k1 hw hnext => ?_)
  · obtain ⟨w1, w2, w3, w4, w5⟩ := hw
    exact goes w w1 (PI_0 hF r0 r1 h24 l6 h w2 w5) w4 w3
  · obtain ⟨w1, w2, w3, w4, w5⟩ := hw
    have pw : w.m 133 (zix 0) = prs F + r := by rw [w5, if_neg (by rw [z0]; omega)]; exact hp
    have zk : zin (((24 + (20 * (prs F + r))) + k)) 18180 := of_eq_true (zinT (by omega))
    (try dsimp only)
    rw [m_readsPair_18_e, if_neg (by rw [wr_id (by omega), wr_id (by omega)]; omega), if_neg oz, if_pos y0, pw, if_pos zk]
    refine hnext _ ?_
    refine ⟨w1.tr lX.rf.upF.y, by rw [up_ne (by decide)]; exact w2, by rw [up_ne (by decide)]; exact w3, ⟨?_, ?_, w4.2.2⟩, fun q => ?_⟩
    · rw [up_ne (by decide)]; exact w4.1
    · refine src_lY w4.2.1 (lX.rf.upF.y) (fun q hq => ?_)
      rw [u_133, zfu_n, if_neg (by rw [zix_id (by omega)]; omega)]
    · rw [u_133, zfu_n, zix_id (by omega), w5]
      by_cases e : q = (((24 + (20 * (prs F + r))) + k)).toNat
      · rw [if_pos e, if_pos (by omega)]
      · rw [if_neg e]
        by_cases e2 : 24 + 20 * (prs F + r) ≤ q ∧ (q : Int) < 24 + 20 * (prs F + r) + k
        · rw [if_pos e2, if_pos (by omega)]
        · rw [if_neg e2, if_neg (by omega)]
theorem n_allL (hF : WFc F) {H : Int → Int} {n R : Int} (R12 : R ≤ 12) (h24 : prs F + R ≤ 24) (l6 : ∀ s q, 0 ≤ s → s < 2 → 0 ≤ q → q < R → 1 ≤ cln H s q ∧ cln H s q ≤ 6) (hG : ∀ r, 0 ≤ r → r < R → clG H r) (hend : (sen H 6 0 (sst H 1 (R - 1))).2.1 = n) (hmid : ∀ r, 0 ≤ r → r < R - 1 → (sen H 6 0 (sst H 1 r)).2.1 ≠ n ∧ H (sen H 6 0 (sst H 1 r)).2.1 = 59) : ∀ (m : Nat) (r : Int) (u : zD P) (g : zV), 0 ≤ r → r + 1 + m = R → PI t F (cln H) (cky H) R (r + 1) u → mR u H n (sen H 6 0 (sst H 1 r)).2.1 → u.m 132 7 = r + 1 → Ok (m_readsAll_13 u g 1 1) (fun v s => v = 1 ∧ PI t F (cln H) (cky H) R R s)
  | 0, r, u, g, r0, rm, h, hr, h7 => by
    have oz : ¬ wr 1 = 0 := by rw [wr_id (by omega)]; omega
    have e : r = R - 1 := by omega
    have n240 := hr.2.2.1.2.2
    rw [e] at hr
    rw [m_readsAll_13_e, if_neg oz, hr.1.1, hr.1.2, hend, if_pos (by omega), if_pos (Or.inr rfl)]
    refine Ok_ret ⟨rfl, ?_⟩
    rw [show r + 1 = R by omega] at h
    exact h
  | m + 1, r, u, g, r0, rm, h, hr, h7 => by
    have zz : wr 0 = 0 := rfl
    have oz : ¬ wr 1 = 0 := by rw [wr_id (by omega)]; omega
    have sg := hr.2.2.1
    have n240 := sg.2.2
    have qq := hr.2.2.2
    have md := hmid r r0 (by omega)
    have lt := sg.lt (k := (sen H 6 0 (sst H 1 r)).2.1) (by rw [md.2]; decide)
    have es := cst_s (H := H) r0
    rw [m_readsAll_13_e, if_neg oz, hr.1.1, hr.1.2, if_neg (by rw [wr_id (by omega), wr_id (by omega)]; omega), n_sign hr (by omega), if_pos md.2, Option.bind_some, ← es]
    (try dsimp only)
    rw [if_neg oz]
    have hr4 : mR (u.up 132 4 (cst H (r + 1))) H n (sst H 0 (r + 1)) := hr.up4 (by rw [es]; omega) (by rw [es]; omega)
    have h4 : PI t F (cln H) (cky H) R (r + 1) (u.up 132 4 (cst H (r + 1))) := by
      refine ⟨h.1.tr mX.rf.up4.l.y, ?_⟩
      rw [u_132_4, zfu_n, if_neg (by decide), up_ne (by decide)]
      exact h.2
    have w7 : (u.up 132 4 (cst H (r + 1))).m 132 7 = r + 1 := by rw [u_132_4, zfu_n, if_neg (by decide)]; exact h7
    generalize u.up 132 4 (cst H (r + 1)) = w at hr4 h4 w7 ⊢
    refine Ok_bind (n_pairL hF (r := r + 1) (by omega) (by omega) R12 h24 l6 (hG _ (by omega) (by omega)) h4 hr4 w7) (fun v s f => ?_)
    obtain ⟨rfl, fa, fb, fc⟩ := f
    (try dsimp only)
    rw [if_neg oz]
    exact n_allL hF R12 h24 l6 hG hend hmid m (r + 1) s g (by omega) (by omega) fa fb fc
/-- copies of the file -/
noncomputable def cpF (F : Nat → Int) (a b : Nat) : Nat → Int := fun q => if 4545 * b ≤ q ∧ q < 4545 * b + 4545 then F (q - 4545 * b + 4545 * a) else F q
theorem n_copies (hF : t.m 133 = F) {a b : Int} (a0 : 0 ≤ a ∧ a < 4) (b0 : 0 ≤ b ∧ b < 4) (hab : a ≠ b) : Ok (m_copies t a b) (fun _ s => Fx (fun r => r = 133) t s ∧ s.m 133 = cpF F a.toNat b.toNat) := by
  rw [m_copies_e]
  refine lpD (fun k s => m_copies_2 s a b k) (fun k s => Fx (fun r => r = 133) t s ∧ ∀ q : Nat, s.m 133 q = if 4545 * b ≤ q ∧ (q : Int) < 4545 * b + k then F (q - 4545 * b.toNat + 4545 * a.toNat) else F q) 0 4545 (by omega) t ⟨Fx.rf, fun q => by rw [if_neg (by omega), hF]⟩ (fun s hi => ?_) (fun k s k0 k1 hi hnext => ?_)
  · (try dsimp only)
    rw [m_copies_2_e, if_pos (by omega)]
    refine Ok_ret ⟨hi.1, ?_⟩
    funext q
    rw [hi.2 q]
    unfold cpF
    by_cases c : 4545 * b ≤ q ∧ (q : Int) < 4545 * b + 4545
    · rw [if_pos c, if_pos (by omega)]
    · rw [if_neg c, if_neg (by omega)]
  · have za : zin (((4545 * a) + k)) 18180 := of_eq_true (zinT (by omega))
    have zb : zin (((4545 * b) + k)) 18180 := of_eq_true (zinT (by omega))
    (try dsimp only)
    rw [m_copies_2_e, if_neg (by rw [wr_id (by omega), wr_id (by omega)]; omega), if_pos za, if_pos zb]
    refine hnext _ ?_
    refine ⟨hi.1.up rfl, fun q => ?_⟩
    rw [u_133, zfu_n, zix_id (by omega), hi.2 q]
    by_cases e : q = ((4545 * b) + k).toNat
    · have e2 : zix ((4545 * a) + k) = (4545 * a + k).toNat := zix_id (by omega)
      rw [if_pos e, if_pos (by omega), hi.2, if_neg (by rw [e2]; omega), e2]
      congr 1
      omega
    · rw [if_neg e]
      by_cases c : 4545 * b ≤ q ∧ (q : Int) < 4545 * b + k
      · rw [if_pos c, if_pos (by omega)]
      · rw [if_neg c, if_neg (by omega)]
end
