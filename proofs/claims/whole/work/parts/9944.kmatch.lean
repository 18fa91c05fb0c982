/-! THE CLASS MATCHES ITS SHEETS. -/
/-- where the walk stands after so many parts -/
def wkS (H : Int → Int) (n : Int) : Int × Int := fo n (0, 0) (fun _ p => (p.1 + tkF (kiS H p.1 p.2) 0, p.2 + tkF (kiS H p.1 p.2) 1))
theorem wkS_s {H : Int → Int} {n : Int} (h : 0 ≤ n) : wkS H (n + 1) = ((wkS H n).1 + tkF (kiS H (wkS H n).1 (wkS H n).2) 0, (wkS H n).2 + tkF (kiS H (wkS H n).1 (wkS H n).2) 1) := fo_s _ _ h
/-- so many parts -/
def nkS (H : Int → Int) (W : Int) : Prop := (0 ≤ W ∧ W ≤ 16) ∧ (∀ m, 0 ≤ m → m < W → kiS H (wkS H m).1 (wkS H m).2 ≠ -1) ∧ kiS H (wkS H W).1 (wkS H W).2 = -1
theorem nkS_uni {H : Int → Int} {W W' : Int} (h : nkS H W) (h' : nkS H W') : W = W' := by
  obtain ⟨a1, a2, a3⟩ := h
  obtain ⟨b1, b2, b3⟩ := h'
  by_cases c : W < W'
  · exact absurd a3 (b2 W a1.1 c)
  · by_cases c' : W' < W
    · exact absurd b3 (a2 W' b1.1 c')
    · omega
theorem kiS_r {H : Int → Int} {n i j : Int} (sg : sgn H n) (h : (shs H n).1 = 0) (i0 : 0 ≤ i) (j0 : 0 ≤ j) : (kiS H i j = -1 ∧ coS H i j = 0 ∧ ∀ k, 0 ≤ k → k < 5 → ¬ canS H k i j) ∨ ((0 ≤ kiS H i j ∧ kiS H i j < 5) ∧ canS H (kiS H i j) i j ∧ coS H i j = pcS H (kiS H i j) i j + coS H (i + tkF (kiS H i j) 0) (j + tkF (kiS H i j) 1)) := by
  have hM := (sh_ok sg h (s := 0) (by omega) (by omega)).1
  have hN := (sh_ok sg h (s := 1) (by omega) (by omega)).1
  have e := coS_e (H := H) (i := i) (j := j) hM.2 hN.2 i0 j0
  have b := bkS_r sg h (C := coS H) (B := 15300) i0 j0 (by omega) (fun x y x0 y0 _ _ => coS_r sg h x0 y0) (m := 5) (by omega) (by omega)
  rcases b with b | b
  · exact Or.inl ⟨b.1, e.trans b.2.1, b.2.2⟩
  · exact Or.inr ⟨b.1, b.2.1, e.trans b.2.2.2.2⟩
section
variable {P : zP} {d t : zD P}
def maS : Nat → Prop := fun r => 103 ≤ r ∧ r < 108
/-- the table is done from a place on -/
def tbQ (s : zD P) (H : Int → Int) (c : Nat) (f : Int → Int → Int) (D : Int → Int → Prop) : Prop := ∀ i j, 0 ≤ i → i ≤ shn H 0 → 0 ≤ j → j ≤ shn H 1 → D i j → s.m c (zix (i * 9 + j)) = f i j
theorem k_maWalk {H : Int → Int} {n : Int} (sg : sgn H n) (h : (shs H n).1 = 0) (q : mcQ d H) (tb : tbQ d H 104 (coS H) (fun _ _ => True)) : Ok (ma_walk d) (fun _ s => Fx (fun r => r = 103 ∨ r = 105) d s ∧ mcQ s H ∧ nkS H (s.m 103 6) ∧ ∀ m, 0 ≤ m → m < s.m 103 6 → s.m 105 (zix m) = kiS H (wkS H m).1 (wkS H m).2) := by
  have hM := (sh_ok sg h (s := 0) (by omega) (by omega)).1
  have hN := (sh_ok sg h (s := 1) (by omega) (by omega)).1
  rw [ma_walk_e]
  obtain ⟨s1, hs1⟩ : ∃ s1, s1 = d.up 103 6 0 := ⟨_, rfl⟩
  rw [← hs1]
  have u3 : s1.m 103 = zfu (d.m 103) 6 0 := by rw [hs1]; exact u_103_6
  have fx : Fx (fun r => r = 103 ∨ r = 105) d s1 := by rw [hs1]; exact Fx.rf.up (Or.inl rfl)
  have q1 : mcQ s1 H := q.fr (by rw [u3]; rfl) (by rw [u3]; rfl) (fx 106 (by omega)) (fx 107 (by omega)) (fun r hr => fx r (by omega))
  have z6 : s1.m 103 6 = 0 := by rw [u3]; rfl
  clear hs1 u3
  refine lpM (fun a s (y : Int × Int × zV) => ma_walk_9 s y.1 y.2.1 a y.2.2) (fun a s y => Fx (fun r => r = 103 ∨ r = 105) d s ∧ mcQ s H ∧ s.m 103 6 = a ∧ (y.1 = (wkS H a).1 ∧ y.2.1 = (wkS H a).2) ∧ (0 ≤ y.1 ∧ y.1 ≤ shn H 0 ∧ 0 ≤ y.2.1 ∧ y.2.1 ≤ shn H 1 ∧ a ≤ y.1 + y.2.1) ∧ ∀ m, 0 ≤ m → m < a → kiS H (wkS H m).1 (wkS H m).2 ≠ -1 ∧ s.m 105 (zix m) = kiS H (wkS H m).1 (wkS H m).2) 0 16 (by omega) s1 (0, 0, (3, 0)) ⟨fx, q1, z6, ⟨rfl, rfl⟩, by (try dsimp only); omega, fun m a b => by omega⟩ (fun s y hi => ?_) (fun a s y a0 a1 hi hnext => ?_)
  · obtain ⟨i1, i2, i3, i4, i5, i6⟩ := hi
    (try dsimp only)
    rw [ma_walk_9_e, if_pos (by omega)]
    refine Ok_ret ⟨i1, i2, by
      rw [i3]
      refine ⟨by omega, fun m m0 m1 => (i6 m m0 m1).1, ?_⟩
      rw [← i4.1, ← i4.2]
      rcases kiS_r sg h i5.1 i5.2.2.1 with r | r
      · exact r.1
      · have t := tkF_r r.1.1 r.1.2
        have c1 : y.1 + tkF (kiS H y.1 y.2.1) 0 ≤ shn H 0 := r.2.1.1
        have c2 : y.2.1 + tkF (kiS H y.1 y.2.1) 1 ≤ shn H 1 := r.2.1.2
        omega, fun m m0 m1 => (i6 m m0 (by omega)).2⟩
  · obtain ⟨i1, i2, i3, i4, i5, i6⟩ := hi
    have y16 : zin a 16 := of_eq_true (zinT (by omega))
    (try dsimp only)
    rw [ma_walk_9_e, if_neg (by rw [wr_id (by omega), wr_id (by omega)]; omega), k_cheapest sg h i2 i5.1 i5.2.2.1 i5.2.1 i5.2.2.2.1 (fun k k0 k1 c => by
      have t := tkF_r k0 k1
      have c1 : y.1 + tkF k 0 ≤ shn H 0 := c.1
      have c2 : y.2.1 + tkF k 1 ≤ shn H 1 := c.2
      rw [i1 104 (by omega)]
      exact tb _ _ (by omega) c1 (by omega) c2 trivial), Option.bind_some]
    (try dsimp only)
    rcases kiS_r sg h i5.1 i5.2.2.1 with r | r
    · rw [if_neg (by rw [r.1]; exact fun x => x rfl)]
      refine Ok_ret ⟨i1, i2, by
        rw [i3]
        exact ⟨by omega, fun m m0 m1 => (i6 m m0 m1).1, by rw [← i4.1, ← i4.2]; exact r.1⟩, fun m m0 m1 => (i6 m m0 (by omega)).2⟩
    · obtain ⟨r1, r2, -⟩ := r
      have t := tkF_r r1.1 r1.2
      have c1 : y.1 + tkF (kiS H y.1 y.2.1) 0 ≤ shn H 0 := r2.1
      have c2 : y.2.1 + tkF (kiS H y.1 y.2.1) 1 ≤ shn H 1 := r2.2
      have y5 : zin (kiS H y.1 y.2.1) 5 := of_eq_true (zinT (by omega))
      rw [if_pos (by rw [wr_id (by omega), wr_id (by omega)]; omega), if_pos y16, if_pos y5, if_pos y5]
      obtain ⟨K, hK⟩ : ∃ K, K = kiS H y.1 y.2.1 := ⟨_, rfl⟩
      rw [← hK] at r1 t c1 c2 ⊢
      have u5 : (s.up 105 (zix a) K).m 105 = zfu (s.m 105) (zix a) K := up_ar (Or.inl rfl)
      have n5 : ∀ r, r ≠ 105 → (s.up 105 (zix a) K).m r = s.m r := fun r hr => up_ne hr
      generalize s.up 105 (zix a) K = s2 at *
      rw [n5 103 (by decide), i3]
      have u3 : (s2.up 103 6 (a + 1)).m 103 = zfu (s2.m 103) 6 (a + 1) := u_103_6
      have n3 : ∀ r, r ≠ 103 → (s2.up 103 6 (a + 1)).m r = s2.m r := fun r hr => up_ne hr
      generalize s2.up 103 6 (a + 1) = s3 at *
      have all : ∀ r, r ≠ 103 → r ≠ 105 → s3.m r = s.m r := fun r h1 h2 => (n3 r h1).trans (n5 r h2)
      have st3 := i2.2.2.2 K r1.1 r1.2
      rw [all 1 (by decide) (by decide), all 2 (by decide) (by decide), st3.1, st3.2.1]
      have e5 : s3.m 105 = zfu (s.m 105) (zix a) K := by rw [n3 105 (by decide), u5]
      have e3 : s3.m 103 = zfu (s.m 103) 6 (a + 1) := by rw [u3, n5 103 (by decide)]
      have ew := wkS_s (H := H) a0
      rw [← i4.1, ← i4.2, ← hK] at ew
      refine hnext _ (y.1 + tkF K 0, y.2.1 + tkF K 1, (0, K)) ⟨i1.tr (fun r hr => all r (by omega) (by omega)), i2.fr (by rw [e3]; rfl) (by rw [e3]; rfl) (all 106 (by decide) (by decide)) (all 107 (by decide) (by decide)) (fun r hr => all r (by omega) (by omega)), by rw [e3]; rfl, by rw [ew]; exact ⟨rfl, rfl⟩, by (try dsimp only); omega, fun m m0 m1 => ?_⟩
      rw [e5, zfu_z (by omega)]
      by_cases e : m = a
      · rw [if_pos e, e, ← i4.1, ← i4.2, ← hK]
        exact ⟨by omega, rfl⟩
      · rw [if_neg e]
        exact i6 m m0 (by omega)
theorem k_match {H : Int → Int} {n : Int} (sg : sgn H n) (h : (shs H n).1 = 0) (sta : STA d) (ro0 : rO d.m 29 (shn H 0) (hln H (shq H 0)) (hky H (shq H 0))) (ro1 : rO d.m 32 (shn H 1) (hln H (shq H 1)) (hky H (shq H 1))) : Ok (ma_match d) (fun _ s => Fx maS d s ∧ s.m 104 (zix 0) = coS H 0 0 ∧ nkS H (s.m 103 6) ∧ ∀ m, 0 ≤ m → m < s.m 103 6 → s.m 105 (zix m) = kiS H (wkS H m).1 (wkS H m).2) := by
  have hM := (sh_ok sg h (s := 0) (by omega) (by omega)).1
  have hN := (sh_ok sg h (s := 1) (by omega) (by omega)).1
  have m29 : d.m 29 2 = shn H 0 := ro0.1
  have m32 : d.m 32 2 = shn H 1 := ro1.1
  rw [ma_match_e, m29, if_neg (show ¬ wr 8 < wr (shn H 0) by rw [wr_id (by omega), wr_id (by omega)]; omega), up_ne (show 32 ≠ 103 by decide), m32, if_neg (show ¬ wr 8 < wr (shn H 1) by rw [wr_id (by omega), wr_id (by omega)]; omega)]
  obtain ⟨s1, hs1⟩ : ∃ s1, s1 = (d.up 103 4 (shn H 0)).up 103 5 (shn H 1) := ⟨_, rfl⟩
  rw [← hs1]
  have u3 : s1.m 103 = zfu (zfu (d.m 103) 4 (shn H 0)) 5 (shn H 1) := by rw [hs1, u_103_5, u_103_4]
  have fx1 : Fx maS d s1 := by rw [hs1]; exact (Fx.rf.up ⟨by omega, by omega⟩).up ⟨by omega, by omega⟩
  clear hs1
  have e4 : s1.m 103 4 = shn H 0 := by rw [u3]; rfl
  have e5 : s1.m 103 5 = shn H 1 := by rw [u3]; rfl
  rw [e4]
  refine Ok_bind (k_addLetters (s := 0) rfl (Or.inl ⟨rfl, rfl⟩) sg h (by omega) (by omega) (ro0.fx fx1 (by unfold maS; omega) (by unfold maS; omega) (by unfold maS; omega))) (fun v s2 f2 => ?_)
  obtain ⟨x2, l2⟩ := f2
  (try dsimp only)
  have e5' : s2.m 103 5 = shn H 1 := by rw [x2 103 (by decide)]; exact e5
  have fx2 : Fx maS d s2 := fx1.tr (fun r hr => x2 r (by unfold maS at hr; omega))
  rw [e5']
  refine Ok_bind (k_addLetters (s := 1) rfl (Or.inr ⟨rfl, rfl⟩) sg h (by omega) (by omega) (ro1.fx fx2 (by unfold maS; omega) (by unfold maS; omega) (by unfold maS; omega))) (fun v s3 f3 => ?_)
  obtain ⟨x3, l3⟩ := f3
  have fx3 : Fx maS d s3 := fx2.tr (fun r hr => x3 r (by unfold maS at hr; omega))
  have e4'' : s3.m 103 4 = shn H 0 := by rw [x3 103 (by decide), x2 103 (by decide)]; exact e4
  have q3 : mcQ s3 H := ⟨⟨e4'', by rw [x3 103 (by decide)]; exact e5'⟩, fun k k0 k1 => by rw [x3 106 (by decide)]; exact l2 k k0 k1, l3, sta.fr (fun r hr => fx3 r (by unfold maS; omega))⟩
  (try dsimp only)
  rw [e4'']
  have key := lpM (Q := fun _ s => Fx maS d s ∧ s.m 104 (zix 0) = coS H 0 0 ∧ nkS H (s.m 103 6) ∧ ∀ m, 0 ≤ m → m < s.m 103 6 → s.m 105 (zix m) = kiS H (wkS H m).1 (wkS H m).2) (fun u s (y : zV × zV × zV × zV) => ma_match_29 s y.1 y.2.1 (shn H 0 - u) y.2.2.1 y.2.2.2) (fun u s _ => Fx maS d s ∧ mcQ s H ∧ tbQ s H 104 (coS H) (fun i _ => shn H 0 - u < i)) 0 (shn H 0 + 1) (by omega) s3 ((2, ((29 : Nat) : Int)), (2, ((32 : Nat) : Int)), (3, 0), (3, 0)) ⟨fx3, q3, fun i j a b c e f => by omega⟩ (fun s y hi => by
    obtain ⟨i1, i2, i3⟩ := hi
    (try dsimp only)
    rw [ma_match_29_e, if_pos (by rw [wr_id (by omega)]; omega)]
    refine Ok_bind (k_maWalk sg h i2 (fun i j a b c e _ => i3 i j a b c e (by omega))) (fun v s' f' => ?_)
    obtain ⟨g1, g2, g3, g4⟩ := f'
    refine Ok_ret ⟨i1.tr (fun r hr => g1 r (by unfold maS at hr; omega)), ?_, g3, g4⟩
    rw [g1 104 (by omega)]
    have := i3 0 0 (by omega) (by omega) (by omega) (by omega) (by omega)
    rw [show (0 : Int) * 9 + 0 = 0 by omega] at this
    exact this) (fun u s y u0 u1 hi hnext => by
    obtain ⟨i1, i2, i3⟩ := hi
    (try dsimp only)
    rw [ma_match_29_e, if_neg (by rw [wr_id (by omega)]; omega), i2.1.2]
    have inner := lpM (Q := fun _ s => Fx maS d s ∧ s.m 104 (zix 0) = coS H 0 0 ∧ nkS H (s.m 103 6) ∧ ∀ m, 0 ≤ m → m < s.m 103 6 → s.m 105 (zix m) = kiS H (wkS H m).1 (wkS H m).2) (fun x s' (z : zV × zV × zV) => ma_match_34 s' z.1 z.2.1 (shn H 0 - u) (shn H 1 - x) z.2.2) (fun x s' _ => Fx maS d s' ∧ mcQ s' H ∧ tbQ s' H 104 (coS H) (fun i j => shn H 0 - u < i ∨ (i = shn H 0 - u ∧ shn H 1 - x < j))) 0 (shn H 1 + 1) (by omega) s (y.1, y.2.1, y.2.2.2) ⟨i1, i2, fun i j a b c e f => i3 i j a b c e (by omega)⟩ (fun s' z hj => by
      obtain ⟨j1, j2, j3⟩ := hj
      (try dsimp only)
      rw [ma_match_34_e, if_pos (by rw [wr_id (by omega)]; omega), show shn H 0 - u + -1 = shn H 0 - (u + 1) by omega]
      exact hnext _ (z.1, _, _, z.2.2) ⟨j1, j2, fun i j a b c e f => j3 i j a b c e (by omega)⟩) (fun x s' z x0 x1 hj hn => by
      obtain ⟨j1, j2, j3⟩ := hj
      obtain ⟨i, hi⟩ : ∃ i, i = shn H 0 - u := ⟨_, rfl⟩
      obtain ⟨j, hj⟩ : ∃ j, j = shn H 1 - x := ⟨_, rfl⟩
      have y81 : zin (i * 9 + j) 81 := of_eq_true (zinT (by omega))
      have done : ∀ k, 0 ≤ k → k < 5 → canS H k i j → s'.m 104 (zix ((i + tkF k 0) * 9 + (j + tkF k 1))) = coS H (i + tkF k 0) (j + tkF k 1) := fun k k0 k1 c => by
        have t := tkF_r k0 k1
        have c1 : i + tkF k 0 ≤ shn H 0 := c.1
        have c2 : j + tkF k 1 ≤ shn H 1 := c.2
        exact j3 _ _ (by omega) c1 (by omega) c2 (by omega)
      have nxt : ∀ V : Int, V = coS H i j → ∀ g : zV, Ok (ma_match_34 (s'.up 104 (zix (i * 9 + j)) V) z.1 z.2.1 i (j + -1) g) (fun _ s => Fx maS d s ∧ s.m 104 (zix 0) = coS H 0 0 ∧ nkS H (s.m 103 6) ∧ ∀ m, 0 ≤ m → m < s.m 103 6 → s.m 105 (zix m) = kiS H (wkS H m).1 (wkS H m).2) := fun V hV g => by
        have u4 : (s'.up 104 (zix (i * 9 + j)) V).m 104 = zfu (s'.m 104) (zix (i * 9 + j)) V := u_104
        have n4 : ∀ r, r ≠ 104 → (s'.up 104 (zix (i * 9 + j)) V).m r = s'.m r := fun r hr => up_ne hr
        rw [hi, show j + -1 = shn H 1 - (x + 1) by omega, ← hi]
        rw [hi] at u4 n4 ⊢
        refine hn _ (z.1, z.2.1, g) ⟨j1.up ⟨by omega, by omega⟩, j2.fr (by rw [n4 103 (by decide)]) (by rw [n4 103 (by decide)]) (n4 106 (by decide)) (n4 107 (by decide)) (fun r hr => n4 r (by omega)), fun i' j' a b c e f => ?_⟩
        rw [u4, zfu_z (by omega)]
        by_cases ee : i' = i ∧ j' = j
        · rw [if_pos (by omega), hV, ee.1, ee.2]
        · rw [if_neg (by omega)]
          exact j3 i' j' a b c e (by omega)
      (try dsimp only)
      rw [← hi, ← hj, ma_match_34_e, if_neg (by rw [wr_id (by omega)]; omega), k_cheapest sg h j2 (by omega) (by omega) (by omega) (by omega) done, Option.bind_some]
      (try dsimp only)
      rcases kiS_r sg h (i := i) (j := j) (by omega) (by omega) with r | r
      · rw [if_neg (by rw [r.1]; exact fun x => x rfl), if_pos y81]
        exact nxt 0 r.2.1.symm _
      · rw [if_pos (by rw [wr_id (by omega), wr_id (by omega)]; omega), k_costFrom sg h j2 r.1.1 r.1.2 (by omega) (by omega) r.2.1 (done _ r.1.1 r.1.2 r.2.1), Option.bind_some]
        (try dsimp only)
        rw [if_pos y81]
        exact nxt _ r.2.2.symm _)
    (try dsimp only at inner)
    rw [Int.sub_zero] at inner
    exact inner)
  (try dsimp only at key)
  rw [Int.sub_zero] at key
  exact key
end
