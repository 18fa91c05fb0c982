/-! THE MODEL LAYS ITS JOINED PAIRS. -/
theorem jn_st {H : Int → Int} {m : Int} (m0 : 0 ≤ m) : ∀ k : Nat, (jnS H m).1 ≤ (jnS H (m + k)).1 ∧ ∀ s q, q < (jnS H m).1 → (jnS H (m + k)).2.1 s q = (jnS H m).2.1 s q ∧ ∀ i, (jnS H (m + k)).2.2 s q i = (jnS H m).2.2 s q i := by
  intro k
  induction k with
  | zero =>
    rw [show m + ((0 : Nat) : Int) = m by omega]
    exact ⟨Int.le_refl _, fun s q _ => ⟨rfl, fun _ => rfl⟩⟩
  | succ k ih =>
    have ej := jnS_s (H := H) (m := m + k) (by omega)
    rw [show m + ((k + 1 : Nat) : Int) = m + k + 1 by omega, ej]
    split
    · exact ih
    · refine ⟨by (try dsimp only); omega, fun s q hq => ?_⟩
      have g := ih.2 s q hq
      (try dsimp only)
      rw [if_neg (by omega)]
      refine ⟨g.1, fun i => ?_⟩
      rw [if_neg (by omega)]
      exact g.2 i
section
variable {P : zP} {d t : zD P} {F : Nat → Int} {ln : Int → Int → Int} {ky : Int → Int → Int → Int}
theorem PI.mv {R r : Int} {u u' : zD P} (h : PI t F ln ky R r u) (e10 : u'.m 132 10 = u.m 132 10) (e : u'.m 133 = u.m 133) : PI u' F ln ky R r u' := by
  refine ⟨lY.rf, ?_⟩
  rw [e10, e]
  exact h.2
theorem fsR.j {H : Int → Int} {s : zD P} (h : fsR d H) (f : lJ d s) : fsR s H := fun w w0 w1 => by
  rw [f.1 140 (by decide) (by decide) (by decide), f.1 136 (by decide) (by decide) (by decide), f.1 137 (by decide) (by decide) (by decide), f.1 138 (by decide) (by decide) (by decide), f.1 139 (by decide) (by decide) (by decide)]
  exact h w w0 w1
theorem tnQ.j {H : Int → Int} {D : Int → Int → Prop} {s : zD P} (h : tnQ d H D) (f : lJ d s) : tnQ s H D := fun i j i0 i1 j0 j1 c => by
  rw [f.1 141 (by decide) (by decide) (by decide), f.1 142 (by decide) (by decide) (by decide)]
  exact h i j i0 i1 j0 j1 c
theorem n_joinsPair {H : Int → Int} {n R r i j m0 m1 : Int} (hF : WFc F) (sg : sgn H n) (h : (shs H n).1 = 0) (n200 : n ≤ 200) (r0 : 0 ≤ r) (r1 : r < R) (h24 : prs F + R ≤ 24) (l6 : ∀ s q, 0 ≤ s → s < 2 → 0 ≤ q → q < R → 1 ≤ ln s q ∧ ln s q ≤ 6) (i0 : 0 ≤ i) (j0 : 0 ≤ j) (a0 : 0 ≤ m0) (a1 : m0 ≤ 2) (b0 : 0 ≤ m1) (b1 : m1 ≤ 2) (hi : i + m0 ≤ shn H 0) (hj : j + m1 ≤ shn H 1) (e0 : ln 0 r = jlF H 0 i m0) (e1 : ln 1 r = jlF H 1 j m1) (k0 : ∀ x, ky 0 r x = jkF H 0 i x) (k1 : ∀ x, ky 1 r x = jkF H 1 j x) (fs : fsR d H) (cells : ∀ k, 0 ≤ k → k < n → F (zix (4345 + k)) = H k) (h8 : d.m 132 8 = 1) (hs : PI d F ln ky R r d) : Ok (m_joinsPair d i m0 j m1) (fun _ s => lJ d s ∧ PI s F ln ky R (r + 1) s) := by
  have y0 : zin 0 18180 := of_eq_true (zinT (by omega))
  have z0 : zix 0 = 0 := by rw [zix_id (by omega)]; rfl
  have p0 := hF.1
  rw [m_joinsPair_e]
  refine lpD (fun k w => m_joinsPair_2 w i m0 j m1 k) (fun k w => Fx (fun r => r = 133) d w ∧ ∀ q : Nat, w.m 133 q = if 24 + 20 * (prs F + r) ≤ q ∧ (q : Int) < 24 + 20 * (prs F + r) + k then 0 else d.m 133 q) 0 20 (by omega) d ⟨Fx.rf, fun q => by rw [if_neg (by omega)]⟩ (fun w hw => ?_) (fun k w x0 x1 hw hnext => ?_)
  · obtain ⟨w1, w2⟩ := hw
    have J1 : lJ d w := (lX.f w1).j
    have si := PI_0 hF r0 r1 h24 l6 hs (by rw [w1 132 (by decide)]) w2
    (try dsimp only)
    rw [m_joinsPair_2_e, if_pos (Int.le_refl _)]
    refine Ok_bind (n_joinsSide (w := 0) (p := i) hF sg h n200 r0 r1 l6 (by omega) (by omega) i0 a0 a1 hi (by omega) e0 k0 (fs.j J1) cells (by rw [w1 132 (by decide)]; exact h8) si) (fun v s f => ?_)
    obtain ⟨J2, si2⟩ := f
    have J2' := J1.tr J2
    (try dsimp only)
    refine Ok_bind (n_joinsSide (w := 1) (p := j) hF sg h n200 r0 r1 l6 (by omega) (by omega) j0 b0 b1 hj (by omega) e1 k1 (fs.j J2') cells (by rw [J2'.2 8 (by decide) (by decide) (by decide) (by decide)]; exact h8) (SI_1 si2)) (fun v' s' f => ?_)
    obtain ⟨J3, si3⟩ := f
    have pe : s'.m 133 (zix 0) = prs F + r := by
      rcases si3.2 with ⟨-, q⟩ | ⟨-, -, q, -⟩
      · exact q.1.1
      · exact q
    (try dsimp only)
    rw [if_pos y0, if_pos y0, pe]
    have fin := SI_end hF r0 r1 l6 (lY.rf (t := s')) si3
    exact Ok_ret ⟨(J2'.tr J3).tr (lX.rf.upF.j), fin.mv rfl rfl⟩
  · obtain ⟨w1, w2⟩ := hw
    have pw : w.m 133 (zix 0) = prs F + r := by rw [w2, if_neg (by rw [z0]; omega)]; exact hs.p
    have zk : zin (((24 + (20 * (prs F + r))) + k)) 18180 := of_eq_true (zinT (by omega))
    (try dsimp only)
    rw [m_joinsPair_2_e, if_neg (by rw [wr_id (by omega), wr_id (by omega)]; omega), if_pos y0, pw, if_pos zk]
    refine hnext _ ?_
    refine ⟨w1.up rfl, fun q => ?_⟩
    rw [u_133, zfu_n, zix_id (by omega), w2]
    by_cases e : q = (((24 + (20 * (prs F + r))) + k)).toNat
    · rw [if_pos e, if_pos (by omega)]
    · rw [if_neg e]
      by_cases e2 : 24 + 20 * (prs F + r) ≤ q ∧ (q : Int) < 24 + 20 * (prs F + r) + k
      · rw [if_pos e2, if_pos (by omega)]
      · rw [if_neg e2, if_neg (by omega)]
theorem n_joins1 {H : Int → Int} {n W : Int} (hF : WFc F) (sg : sgn H n) (h : (shs H n).1 = 0) (n200 : n ≤ 200) (fs : fsR d H) (tn : tnQ d H (fun _ _ => True)) (nk : nkS H W) (nf : ∀ m, 0 ≤ m → m < W → ¬ jfP H m) (h24 : prs F + (jnS H W).1 ≤ 24) (cells : ∀ k, 0 ≤ k → k < n → F (zix (4345 + k)) = H k) (h8 : d.m 132 8 = 1) (hs : PI d F (jnS H W).2.1 (jnS H W).2.2 (jnS H W).1 0 d) : Ok (m_joinsAll d 1) (fun _ s => lJ d s ∧ PI s F (jnS H W).2.1 (jnS H W).2.2 (jnS H W).1 (jnS H W).1 s) := by
  have hM := (sh_ok sg h (s := 0) (by omega) (by omega)).1
  have hN := (sh_ok sg h (s := 1) (by omega) (by omega)).1
  have y0 : zin 0 2 := of_eq_true (zinT (by omega))
  have y1 : zin 1 2 := of_eq_true (zinT (by omega))
  have W16 := nk.1
  have jn := jn_ok sg h nk nf W.toNat (by omega)
  rw [show ((W.toNat : Nat) : Int) = W by omega] at jn
  have l6 : ∀ s q, 0 ≤ s → s < 2 → 0 ≤ q → q < (jnS H W).1 → 1 ≤ (jnS H W).2.1 s q ∧ (jnS H W).2.1 s q ≤ 6 := fun s q s0 s1 q0 q1 => (jn.2 s q s0 s1 q0 q1).1
  rw [m_joinsAll_e]
  refine lpM (fun m s (y : zV × zV × zV) => m_joinsAll_8 s 1 (wkS H m).1 (wkS H m).2 (jnS H m).1 0 y.1 y.2.1 y.2.2) (fun m s y => lJ d s ∧ PI s F (jnS H W).2.1 (jnS H W).2.2 (jnS H W).1 (jnS H m).1 s) 0 W W16.1 d ((3, 0), (3, 0), (3, 0)) ⟨lJ.rf, hs⟩ (fun s y hi => ?_) (fun m s y m0 m1 hi hnext => ?_)
  · obtain ⟨J, hp⟩ := hi
    have w := wk_in sg h nk W.toNat (by omega)
    rw [show ((W.toNat : Nat) : Int) = W by omega] at w
    have no := (kiS_no sg h (i := (wkS H W).1) (j := (wkS H W).2) (by omega) (by omega) (by omega) (by omega)).mp nk.2.2
    have f' := fs.j J
    (try dsimp only)
    rw [m_joinsAll_8_e, if_pos y0, (f' 0 (by omega) (by omega)).1, if_neg (by rw [no.1]; exact Int.lt_irrefl _), if_pos y1, (f' 1 (by omega) (by omega)).1, if_pos (by rw [no.2]; exact Int.le_refl _), if_pos (by rw [wr_id (by omega)]; omega)]
    exact Ok_ret ⟨J, hp⟩
  · obtain ⟨J, hp⟩ := hi
    have w := wk_in sg h nk m.toNat (by omega)
    have jm := jn_ok sg h nk nf m.toNat (by omega)
    rw [show ((m.toNat : Nat) : Int) = m by omega] at w jm
    have kn := nk.2.1 m m0 m1
    have no := kiS_no sg h (i := (wkS H m).1) (j := (wkS H m).2) (by omega) (by omega) (by omega) (by omega)
    have y81 : zin (9 * (wkS H m).1 + (wkS H m).2) 81 := of_eq_true (zinT (by omega))
    have f' := fs.j J
    have cell := ((tn.j J) (wkS H m).1 (wkS H m).2 (by omega) (by omega) (by omega) (by omega) trivial).2 kn
    obtain ⟨K, hK⟩ : ∃ K, K = kiS H (wkS H m).1 (wkS H m).2 := ⟨_, rfl⟩
    have kr : (0 ≤ K ∧ K < 5) ∧ (wkS H m).1 + tkF K 0 ≤ shn H 0 ∧ (wkS H m).2 + tkF K 1 ≤ shn H 1 := by
      rw [hK]
      rcases kiS_r sg h (i := (wkS H m).1) (j := (wkS H m).2) (by omega) (by omega) with r | r
      · exact absurd r.1 kn
      · exact ⟨r.1, r.2.1⟩
    have tk := tkF_r kr.1.1 kr.1.2
    have eK : knS H m = K := hK.symm
    have ew := wkS_s (H := H) m0
    have ej := jnS_s (H := H) m0
    rw [← hK] at ew cell
    rw [eK] at ej
    have p0 : psS H m 0 = (wkS H m).1 := if_pos rfl
    have p1 : psS H m 1 = (wkS H m).2 := if_neg (by decide)
    have nof := nf m m0 m1
    have same : (K = 1 ∨ K = 2) → ∀ g6 g7 g8 : zV, Ok (m_joinsAll_8 s 1 ((wkS H m).1 + tkF K 0) ((wkS H m).2 + tkF K 1) (jnS H m).1 0 g6 g7 g8) (fun _ s => lJ d s ∧ PI s F (jnS H W).2.1 (jnS H W).2.2 (jnS H W).1 (jnS H W).1 s) := fun c g6 g7 g8 => by
      rw [if_pos c] at ej
      have nx := hnext s (g6, g7, g8) ⟨J, by rw [ej]; exact hp⟩
      (try dsimp only at nx)
      rw [ew, ej] at nx
      exact nx
    have lens : ¬ (K = 1 ∨ K = 2) → jlF H 0 (wkS H m).1 (tkF K 0) ≤ 6 ∧ jlF H 1 (wkS H m).2 (tkF K 1) ≤ 6 := fun c => by
      constructor
      · exact Classical.byContradiction (fun q => nof ⟨by rw [eK]; exact c, Or.inl (by rw [eK, p0]; omega)⟩)
      · exact Classical.byContradiction (fun q => nof ⟨by rw [eK]; exact c, Or.inr (by rw [eK, p1]; omega)⟩)
    have good : ¬ (K = 1 ∨ K = 2) → ∀ g6 g7 g8 : zV, Ok ((m_joinsPair s (wkS H m).1 (tkF K 0) (wkS H m).2 (tkF K 1)).bind fun q => m_joinsAll_8 q.2 1 ((wkS H m).1 + tkF K 0) ((wkS H m).2 + tkF K 1) ((jnS H m).1 + 1) 0 g6 g7 g8) (fun _ s => lJ d s ∧ PI s F (jnS H W).2.1 (jnS H W).2.2 (jnS H W).1 (jnS H W).1 s) := fun c g6 g7 g8 => by
      rw [if_neg c] at ej
      have st := jn_st (H := H) (m := m + 1) (by omega) (W - (m + 1)).toNat
      rw [show m + 1 + (((W - (m + 1)).toNat : Nat) : Int) = W by omega, ej] at st
      obtain ⟨st1, st2⟩ := st
      (try dsimp only at st1 st2)
      have s0 := st2 0 (jnS H m).1 (by omega)
      have s1 := st2 1 (jnS H m).1 (by omega)
      rw [if_pos rfl, p0] at s0
      rw [if_pos rfl, p1] at s1
      refine Ok_bind (n_joinsPair hF sg h n200 (r := (jnS H m).1) (by omega) (by omega) h24 l6 w.1.1 w.2.1 tk.1.1 tk.1.2 tk.2.1.1 tk.2.1.2 kr.2.1 kr.2.2 s0.1 s1.1 (fun x => by rw [s0.2 x, if_pos rfl]) (fun x => by rw [s1.2 x, if_pos rfl]) f' cells (by rw [J.2 8 (by decide) (by decide) (by decide) (by decide)]; exact h8) hp) (fun v4 s4 f4 => ?_)
      have nx := hnext s4 (g6, g7, g8) ⟨J.tr f4.1, by rw [ej]; exact f4.2⟩
      (try dsimp only at nx)
      rw [ew, ej] at nx
      exact nx
    have j0 := sm_le tk.1.1 (g := fun x => hln H (shq H 0) ((wkS H m).1 + x)) (B := 6) (fun x x0 x1 => by
      have := hln_r sg h (w := 0) (by omega) (by omega) (r := (wkS H m).1 + x) (by omega) (by omega)
      (try dsimp only)
      omega)
    have j1 := sm_le tk.2.1.1 (g := fun x => hln H (shq H 1) ((wkS H m).2 + x)) (B := 6) (fun x x0 x1 => by
      have := hln_r sg h (w := 1) (by omega) (by omega) (r := (wkS H m).2 + x) (by omega) (by omega)
      (try dsimp only)
      omega)
    have f0 : sm (tkF K 0) (fun x => hln H (shq H 0) ((wkS H m).1 + x)) = jlF H 0 (wkS H m).1 (tkF K 0) := rfl
    have f1 : sm (tkF K 1) (fun x => hln H (shq H 1) ((wkS H m).2 + x)) = jlF H 1 (wkS H m).2 (tkF K 1) := rfl
    rw [f0] at j0
    rw [f1] at j1
    (try dsimp only)
    rw [m_joinsAll_8_e, if_pos y0, (f' 0 (by omega) (by omega)).1]
    rcases Classical.em ((wkS H m).1 < shn H 0) with ci | ci
    rw [if_pos (by rw [wr_id (by omega), wr_id (by omega)]; exact ci), if_pos y81]
    rotate_left
    rw [if_neg (by rw [wr_id (by omega), wr_id (by omega)]; exact ci), if_pos y1, (f' 1 (by omega) (by omega)).1, if_neg (by
      rw [wr_id (by omega), wr_id (by omega)]
      intro x
      exact kn (no.mpr (by omega))), if_pos y81]
    all_goals
      rw [cell, n_takes kr.1.1 kr.1.2 (by omega) (by omega), Option.bind_some]
      (try dsimp only)
      rw [n_takes kr.1.1 kr.1.2 (by omega) (by omega), Option.bind_some]
      (try dsimp only)
      by_cases c1 : K = 1
      · rw [if_pos (by rw [c1])]
        exact same (Or.inl c1) _ _ _
      rw [if_neg (by rw [wr_id (by omega), wr_id (by omega)]; exact c1)]
      by_cases c2 : K = 2
      · rw [if_pos (by rw [c2])]
        exact same (Or.inr c2) _ _ _
      have ls := lens (by omega)
      rw [if_neg (by rw [wr_id (by omega), wr_id (by omega)]; exact c2), n_wordsFrom (w := 0) sg h f' (by omega) (by omega) w.1.1 tk.1.1 tk.1.2 kr.2.1 (by omega), Option.bind_some]
      (try dsimp only)
      rw [if_neg (by rw [wr_id (by omega), wr_id (by omega)]; omega), n_wordsFrom (w := 1) sg h f' (by omega) (by omega) w.2.1 tk.2.1.1 tk.2.1.2 kr.2.2 (by omega), Option.bind_some]
      (try dsimp only)
      rw [if_pos (by rw [wr_id (by omega), wr_id (by omega)]; omega), if_neg oz1]
      exact good (by omega) _ _ _
end
