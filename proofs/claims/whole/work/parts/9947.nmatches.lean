/-! THE MODEL'S MATCHES, AND ITS WALK. -/
section
variable {P : zP} {d t : zD P} {F : Nat → Int}
theorem kiS_no {H : Int → Int} {n i j : Int} (sg : sgn H n) (h : (shs H n).1 = 0) (i0 : 0 ≤ i) (j0 : 0 ≤ j) (i1 : i ≤ shn H 0) (j1 : j ≤ shn H 1) : kiS H i j = -1 ↔ i = shn H 0 ∧ j = shn H 1 := by
  rcases kiS_r sg h i0 j0 with r | r
  · refine ⟨fun _ => ?_, fun _ => r.1⟩
    have a : ¬ (i + 1 ≤ shn H 0 ∧ j + 0 ≤ shn H 1) := r.2.2 1 (by omega) (by omega)
    have b : ¬ (i + 0 ≤ shn H 0 ∧ j + 1 ≤ shn H 1) := r.2.2 2 (by omega) (by omega)
    omega
  · have tk := tkF_r r.1.1 r.1.2
    have c1 : i + tkF (kiS H i j) 0 ≤ shn H 0 := r.2.1.1
    have c2 : j + tkF (kiS H i j) 1 ≤ shn H 1 := r.2.1.2
    exact ⟨fun x => by omega, fun x => by omega⟩
def mmX (t s : zD P) : Prop := (∀ r, r ≠ 132 → (r < 135 ∨ 143 ≤ r) → s.m r = t.m r) ∧ ∀ k, k ≠ 4 → k ≠ 5 → k ≠ 6 → s.m 132 k = t.m 132 k
theorem n_matches (hF : t.m 133 = F) (h8 : t.m 132 8 = 0) (hs : WFs F) (hn0 : shl F ≠ 0) : Ok (m_matches t) (fun _ s => mmX t s ∧ fsR s (sgF F) ∧ tnQ s (sgF F) (fun _ _ => True)) := by
  have y0 : zin 0 2 := of_eq_true (zinT (by omega))
  have y1 : zin 1 2 := of_eq_true (zinT (by omega))
  obtain ⟨sg, sh0⟩ := hs.2 hn0
  have hM := (sh_ok sg sh0 (s := 0) (by omega) (by omega)).1
  have hN := (sh_ok sg sh0 (s := 1) (by omega) (by omega)).1
  rw [m_matches_e]
  refine Ok_bind (n_findsSheets hF h8 hs hn0) (fun v s1 f1 => ?_)
  obtain ⟨x1, fs⟩ := f1
  generalize sgF F = H at *
  (try dsimp only)
  rw [if_pos y0, (fs 0 (by omega) (by omega)).1]
  have key := lpM (Q := fun _ s => mmX t s ∧ fsR s H ∧ tnQ s H (fun _ _ => True)) (fun u s (y : zV × zV × zV × zV × zV × zV × zV) => m_matches_7 s (shn H 0 - u) y.1 y.2.1 y.2.2.1 y.2.2.2.1 y.2.2.2.2.1 y.2.2.2.2.2.1 y.2.2.2.2.2.2) (fun u s _ => Fx mtS s1 s ∧ tnQ s H (fun i _ => shn H 0 - u < i)) 0 (shn H 0 + 1) (by omega) s1 ((3, 0), (3, 0), (3, 0), (3, 0), (3, 0), (3, 0), (3, 0)) ⟨Fx.rf, fun i j a b c e f => by omega⟩ (fun s y hi => by
    obtain ⟨i1, i2⟩ := hi
    (try dsimp only)
    rw [m_matches_7_e, if_pos (by rw [wr_id (by omega)]; omega)]
    refine Ok_ret ⟨⟨fun r r1 r2 => (i1 r (by unfold mtS; omega)).trans (x1.1 r r1 (by omega)), fun k k1 k2 k3 => by rw [i1 132 (by unfold mtS; omega)]; exact x1.2 k k1 k2 k3⟩, fs.fx i1, fun i j a b c e _ => i2 i j a b c e (by omega)⟩) (fun u s y u0 u1 hi hnext => by
    obtain ⟨i1, i2⟩ := hi
    (try dsimp only)
    rw [m_matches_7_e, if_neg (by rw [wr_id (by omega)]; omega), if_pos y1, (fs.fx i1 1 (by omega) (by omega)).1]
    obtain ⟨i, hi⟩ : ∃ i, i = shn H 0 - u := ⟨_, rfl⟩
    rw [← hi]
    have inner := lpM (Q := fun _ s => mmX t s ∧ fsR s H ∧ tnQ s H (fun _ _ => True)) (fun x s' (z : zV × zV × zV × zV × zV × zV) => m_matches_14 s' i (shn H 1 - x) z.1 z.2.1 z.2.2.1 z.2.2.2.1 z.2.2.2.2.1 z.2.2.2.2.2) (fun x s' _ => Fx mtS s1 s' ∧ tnQ s' H (fun i' j' => i < i' ∨ (i' = i ∧ shn H 1 - x < j'))) 0 (shn H 1 + 1) (by omega) s (y.2.1, y.2.2.1, y.2.2.2.1, y.2.2.2.2.1, y.2.2.2.2.2.1, y.2.2.2.2.2.2) ⟨i1, fun i' j' a b c e f => i2 i' j' a b c e (by omega)⟩ (fun s' z hj => by
      obtain ⟨j1, j2⟩ := hj
      (try dsimp only)
      rw [m_matches_14_e, if_pos (by rw [wr_id (by omega)]; omega), show i + -1 = shn H 0 - (u + 1) by omega]
      exact hnext _ (_, _, _, _, _, _, _) ⟨j1, fun i' j' a b c e f => j2 i' j' a b c e (by omega)⟩) (fun x s' z x0 x1' hj hn => by
      obtain ⟨j1, j2⟩ := hj
      obtain ⟨j, hj⟩ : ∃ j, j = shn H 1 - x := ⟨_, rfl⟩
      have y81 : zin (9 * i + j) 81 := of_eq_true (zinT (by omega))
      have f' := fs.fx j1
      have no := kiS_no sg sh0 (i := i) (j := j) (by omega) (by omega) (by omega) (by omega)
      (try dsimp only)
      rw [← hj, m_matches_14_e, if_neg (by rw [wr_id (by omega)]; omega), if_pos y0, (f' 0 (by omega) (by omega)).1]
      have far : ∀ g3 g4 g5 g6 g7 g8 : zV, ∀ s2 : zD P, Fx mtS s1 s2 → (∀ c, 0 ≤ c → c < 81 → c ≠ 9 * i + j → s2.m 141 (zix c) = s'.m 141 (zix c) ∧ s2.m 142 (zix c) = s'.m 142 (zix c)) → (s2.m 141 (zix (9 * i + j)) = coS H i j ∧ (kiS H i j ≠ -1 → s2.m 142 (zix (9 * i + j)) = kiS H i j)) → Ok (m_matches_14 s2 i (j + (-1)) g3 g4 g5 g6 g7 g8) (fun _ s => mmX t s ∧ fsR s H ∧ tnQ s H (fun _ _ => True)) := fun g3 g4 g5 g6 g7 g8 s2 a1 a2 a3 => by
        rw [show j + -1 = shn H 1 - (x + 1) by omega]
        refine hn _ (g3, g4, g5, g6, g7, g8) ⟨a1, fun i' j' b0 b1 b2 b3 b4 => ?_⟩
        by_cases e : i' = i ∧ j' = j
        · rw [e.1, e.2]; exact a3
        · have o := a2 (9 * i' + j') (by omega) (by omega) (by omega)
          rw [o.1, o.2]
          exact j2 i' j' b0 b1 b2 b3 (by omega)
      have u1 : ∀ V : Int, (s'.up 141 (zix (9 * i + j)) V).m 141 = zfu (s'.m 141) (zix (9 * i + j)) V := fun V => u_141
      have n1 : ∀ V : Int, ∀ r, r ≠ 141 → (s'.up 141 (zix (9 * i + j)) V).m r = s'.m r := fun V r hr => up_ne hr
      have old : ∀ V : Int, ∀ c, 0 ≤ c → c < 81 → c ≠ 9 * i + j → (s'.up 141 (zix (9 * i + j)) V).m 141 (zix c) = s'.m 141 (zix c) ∧ (s'.up 141 (zix (9 * i + j)) V).m 142 (zix c) = s'.m 142 (zix c) := fun V c c0 c1 c2 => by
        rw [u1, n1 V 142 (by decide), zfu_z (by omega), if_neg c2]
        exact ⟨rfl, rfl⟩
      have some_ : kiS H i j ≠ -1 → ∀ g6 g7 g8 : zV, Ok (m_matches_49 (s'.up 141 (zix (9 * i + j)) 1000000000) i j (9 * i + j) 0 0 g6 g7 g8) (fun _ s => mmX t s ∧ fsR s H ∧ tnQ s H (fun _ _ => True)) := fun hk g6 g7 g8 => by
        have xx : Fx mtS s1 (s'.up 141 (zix (9 * i + j)) 1000000000) := j1.up (Or.inl rfl)
        refine n_cell sg sh0 (by omega) (by omega) (by omega) (by omega) (fs.fx xx) (fun i' j' b0 b1 b2 b3 b4 => ?_) (by rw [u1, zfu_n, if_pos rfl]) g6 g7 g8 (fun s2 g3 g4 g5 g6 g7 g8 a1 a2 a3 => far g3 g4 g5 g6 g7 g8 s2 (xx.tr a1) (fun c c0 c1 c2 => ⟨((a2 c c0 c1 c2).1).trans (old _ c c0 c1 c2).1, ((a2 c c0 c1 c2).2).trans (old _ c c0 c1 c2).2⟩) ?_)
        · have o := old 1000000000 (9 * i' + j') (by omega) (by omega) (by omega)
          rw [o.1, o.2]
          exact j2 i' j' b0 b1 b2 b3 (by omega)
        · have q := a3.2 hk
          exact ⟨by rw [q.1]; exact (coS_e hM.2 hN.2 (by omega) (by omega)).symm, fun _ => q.2⟩
      by_cases ci : i = shn H 0
      · rw [if_neg (by rw [ci]; exact fun q => q rfl), if_pos y1, (f' 1 (by omega) (by omega)).1]
        by_cases cj : j = shn H 1
        · rw [if_neg (by rw [cj]; exact fun q => q rfl), if_neg oz1, if_pos y81, m_matches_49_e, if_neg (by rw [wr_id (by omega), wr_id (by omega)]; omega), if_pos oz1]
          have k1 := no.mpr ⟨ci, cj⟩
          have c0 : coS H i j = 0 := by
            rcases kiS_r sg sh0 (i := i) (j := j) (by omega) (by omega) with r | r
            · exact r.2.1
            · omega
          exact far _ _ _ _ _ _ _ (j1.up (Or.inl rfl)) (old 0) ⟨by rw [u1, zfu_n, if_pos rfl, c0], fun q => absurd k1 q⟩
        · rw [if_pos (by rw [wr_id (by omega), wr_id (by omega)]; exact cj), if_pos zz0, if_pos y81]
          exact some_ (fun q => cj (no.mp q).2) _ _ _
      · rw [if_pos (by rw [wr_id (by omega), wr_id (by omega)]; exact ci), if_pos zz0, if_pos y81]
        exact some_ (fun q => ci (no.mp q).1) _ _ _)
    (try dsimp only at inner)
    rw [Int.sub_zero] at inner
    exact inner)
  (try dsimp only at key)
  rw [Int.sub_zero] at key
  exact key
theorem wk_in {H : Int → Int} {n W : Int} (sg : sgn H n) (h : (shs H n).1 = 0) (nk : nkS H W) : ∀ m : Nat, (m : Int) ≤ W → (0 ≤ (wkS H m).1 ∧ (wkS H m).1 ≤ shn H 0) ∧ 0 ≤ (wkS H m).2 ∧ (wkS H m).2 ≤ shn H 1 := by
  have hM := (sh_ok sg h (s := 0) (by omega) (by omega)).1
  have hN := (sh_ok sg h (s := 1) (by omega) (by omega)).1
  intro m
  induction m with
  | zero =>
    intro _
    show (0 ≤ (0 : Int) ∧ (0 : Int) ≤ _) ∧ 0 ≤ (0 : Int) ∧ (0 : Int) ≤ _
    omega
  | succ m ih =>
    intro hm
    have ih := ih (by omega)
    have k := nk.2.1 m (by omega) (by omega)
    rw [show ((m + 1 : Nat) : Int) = (m : Int) + 1 by omega, wkS_s (by omega)]
    rcases kiS_r sg h (i := (wkS H m).1) (j := (wkS H m).2) (by omega) (by omega) with r | r
    · exact absurd r.1 k
    · have tk := tkF_r r.1.1 r.1.2
      have c1 : (wkS H m).1 + tkF (kiS H (wkS H m).1 (wkS H m).2) 0 ≤ shn H 0 := r.2.1.1
      have c2 : (wkS H m).2 + tkF (kiS H (wkS H m).1 (wkS H m).2) 1 ≤ shn H 1 := r.2.1.2
      (try dsimp only)
      omega
theorem n_walk47 {H : Int → Int} {n W a : Int} (sg : sgn H n) (h : (shs H n).1 = 0) (fs : fsR d H) (tn : tnQ d H (fun _ _ => True)) (nk : nkS H W) (ha : a = 1 ∨ (10 ≤ a ∧ a ≤ 25)) (g : zV) : Ok (m_matched_47 d a 0 0 0 g) (fun v s => v = (if a = 1 then W else if W ≤ a - 10 then -4 else kiS H (wkS H (a - 10)).1 (wkS H (a - 10)).2) ∧ s = d) := by
  have hM := (sh_ok sg h (s := 0) (by omega) (by omega)).1
  have hN := (sh_ok sg h (s := 1) (by omega) (by omega)).1
  have y0 : zin 0 2 := of_eq_true (zinT (by omega))
  have y1 : zin 1 2 := of_eq_true (zinT (by omega))
  have W16 := nk.1
  have e0 := (fs 0 (by omega) (by omega)).1
  have e1 := (fs 1 (by omega) (by omega)).1
  refine lpM (fun m s (y : zV) => m_matched_47 s a (wkS H m).1 (wkS H m).2 m y) (fun m s _ => s = d ∧ (a = 1 ∨ m ≤ a - 10)) 0 W W16.1 d g ⟨rfl, by omega⟩ (fun s y hi => ?_) (fun m s y m0 m1 hi hnext => ?_)
  · obtain ⟨rfl, i2⟩ := hi
    have w := wk_in sg h nk W.toNat (by omega)
    rw [show ((W.toNat : Nat) : Int) = W by omega] at w
    have no := (kiS_no sg h (i := (wkS H W).1) (j := (wkS H W).2) (by omega) (by omega) (by omega) (by omega)).mp nk.2.2
    (try dsimp only)
    rw [m_matched_47_e, if_pos y0, e0, if_neg (by rw [no.1]; exact Int.lt_irrefl _), if_pos y1, e1, if_pos (by rw [no.2]; exact Int.le_refl _)]
    by_cases c : a = 1
    · rw [if_neg (by rw [c]; exact fun x => x rfl), if_pos c]
      exact Ok_ret ⟨rfl, rfl⟩
    · rw [if_pos (by rw [wr_id (by omega), wr_id (by omega)]; exact c), if_neg c, if_pos (by omega)]
      exact Ok_ret ⟨rfl, rfl⟩
  · obtain ⟨rfl, i2⟩ := hi
    have w := wk_in sg h nk m.toNat (by omega)
    rw [show ((m.toNat : Nat) : Int) = m by omega] at w
    have kn := nk.2.1 m m0 m1
    have no := kiS_no sg h (i := (wkS H m).1) (j := (wkS H m).2) (by omega) (by omega) (by omega) (by omega)
    have y81 : zin (9 * (wkS H m).1 + (wkS H m).2) 81 := of_eq_true (zinT (by omega))
    have cell := (tn (wkS H m).1 (wkS H m).2 (by omega) (by omega) (by omega) (by omega) trivial).2 kn
    have kr : 0 ≤ kiS H (wkS H m).1 (wkS H m).2 ∧ kiS H (wkS H m).1 (wkS H m).2 < 5 := by
      rcases kiS_r sg h (i := (wkS H m).1) (j := (wkS H m).2) (by omega) (by omega) with r | r
      · exact absurd r.1 kn
      · exact r.1
    have ew := wkS_s (H := H) m0
    have go : Ok (if wr a ≠ wr (10 + m) then ((m_takes s (s.m 142 (zix (9 * (wkS H m).1 + (wkS H m).2))) 0).bind fun q5 => ((m_takes q5.2 (s.m 142 (zix (9 * (wkS H m).1 + (wkS H m).2))) 1).bind fun q6 => m_matched_47 q6.2 a ((wkS H m).1 + q5.1) ((wkS H m).2 + q6.1) (m + 1) (0, s.m 142 (zix (9 * (wkS H m).1 + (wkS H m).2))))) else some (s.m 142 (zix (9 * (wkS H m).1 + (wkS H m).2)), s)) (fun v s' => v = (if a = 1 then W else if W ≤ a - 10 then -4 else kiS H (wkS H (a - 10)).1 (wkS H (a - 10)).2) ∧ s' = s) := by
      rw [cell]
      by_cases c : a = 10 + m
      · rw [if_neg (by rw [c]; exact fun x => x rfl), if_neg (by omega), if_neg (by omega), show a - 10 = m by omega]
        exact Ok_ret ⟨rfl, rfl⟩
      · rw [if_pos (by rw [wr_id (by omega), wr_id (by omega)]; exact c), n_takes kr.1 kr.2 (by omega) (by omega), Option.bind_some]
        (try dsimp only)
        rw [n_takes kr.1 kr.2 (by omega) (by omega), Option.bind_some]
        (try dsimp only)
        have nx := hnext s (0, kiS H (wkS H m).1 (wkS H m).2) ⟨rfl, by omega⟩
        rw [ew] at nx
        exact nx
    (try dsimp only)
    rw [m_matched_47_e, if_pos y0, e0]
    by_cases ci : (wkS H m).1 < shn H 0
    · rw [if_pos (by rw [wr_id (by omega), wr_id (by omega)]; exact ci), if_pos y81]
      exact go
    · rw [if_neg (by rw [wr_id (by omega), wr_id (by omega)]; exact ci), if_pos y1, e1, if_neg (by
        rw [wr_id (by omega), wr_id (by omega)]
        intro x
        exact kn (no.mpr (by omega))), if_pos y81]
      exact go
end
