/-! THE CLASS'S COSTS OF MATCHING. -/
section
variable {P : zP} {d t : zD P}
/-- the class's matcher: sizes and letters -/
def mcQ (d : zD P) (H : Int → Int) : Prop := (d.m 103 4 = shn H 0 ∧ d.m 103 5 = shn H 1) ∧ (∀ k, 0 ≤ k → k ≤ shn H 0 → d.m 106 (zix k) = pfF H 0 k) ∧ (∀ k, 0 ≤ k → k ≤ shn H 1 → d.m 107 (zix k) = pfF H 1 k) ∧ STA d
theorem mcQ.fr {H : Int → Int} {s : zD P} (h : mcQ d H) (h4 : s.m 103 4 = d.m 103 4) (h5 : s.m 103 5 = d.m 103 5) (h6 : s.m 106 = d.m 106) (h7 : s.m 107 = d.m 107) (hr : ∀ r, r < 4 → s.m r = d.m r) : mcQ s H := by
  unfold mcQ
  rw [h4, h5, h6, h7]
  exact ⟨h.1, h.2.1, h.2.2.1, h.2.2.2.fr hr⟩
theorem pf_le {H : Int → Int} {n : Int} (sg : sgn H n) (h : (shs H n).1 = 0) {s k : Int} (s0 : 0 ≤ s) (s1 : s < 2) (k0 : 0 ≤ k) (k1 : k ≤ shn H s) : 0 ≤ pfF H s k ∧ pfF H s k ≤ k * 42 := sm_le k0 (fun r r0 r1 => shLe_r sg h s0 s1 r0 (by omega))
theorem k_costFrom {H : Int → Int} {n k i j : Int} (sg : sgn H n) (h : (shs H n).1 = 0) (q : mcQ d H) (k0 : 0 ≤ k) (k1 : k < 5) (i0 : 0 ≤ i) (j0 : 0 ≤ j) (c : canS H k i j) (hD : d.m 104 (zix ((i + tkF k 0) * 9 + (j + tkF k 1))) = coS H (i + tkF k 0) (j + tkF k 1)) : ma_costFrom d k i j = some (pcS H k i j + coS H (i + tkF k 0) (j + tkF k 1), d) := by
  have hM := (sh_ok sg h (s := 0) (by omega) (by omega)).1
  have hN := (sh_ok sg h (s := 1) (by omega) (by omega)).1
  have t := tkF_r k0 k1
  have c1 : i + tkF k 0 ≤ shn H 0 := c.1
  have c2 : j + tkF k 1 ≤ shn H 1 := c.2
  obtain ⟨q1, q2, q3, q4⟩ := q
  obtain ⟨t1, t2, t3⟩ := q4 k k0 k1
  have y5 : zin k 5 := of_eq_true (zinT (by omega))
  have y81 : zin ((i + tkF k 0) * 9 + (j + tkF k 1)) 81 := of_eq_true (zinT (by omega))
  have z1 : zin (i + tkF k 0) 9 := of_eq_true (zinT (by omega))
  have z2 : zin i 9 := of_eq_true (zinT (by omega))
  have z3 : zin (j + tkF k 1) 9 := of_eq_true (zinT (by omega))
  have z4 : zin j 9 := of_eq_true (zinT (by omega))
  have dr := (pcS_r sg h k0 k1 i0 j0 c).1
  rw [ma_costFrom_e, if_pos y5, if_pos y5, if_pos y5, t1, t2, t3, if_pos y81, hD]
  unfold pcS
  by_cases e1 : k = 1
  · rw [if_pos (by rw [e1]), if_pos (Or.inl e1)]
    exact congrArg (fun x => some (x, d)) (by omega)
  rw [if_neg (by rw [wr_id (by omega), wr_id (by omega)]; exact e1)]
  by_cases e2 : k = 2
  · rw [if_neg (by rw [e2]; exact fun x => x rfl), if_pos (Or.inr e2)]
    exact congrArg (fun x => some (x, d)) (by omega)
  rw [if_pos (by rw [wr_id (by omega), wr_id (by omega)]; exact e2), if_pos z1, if_pos z2, if_pos z3, if_pos z4, q2 _ (by omega) c1, q2 i i0 (by omega), q3 _ (by omega) c2, q3 j j0 (by omega), if_neg (show ¬ (k = 1 ∨ k = 2) by omega)]
  have ed : pfF H 0 (i + tkF k 0) - pfF H 0 i - pfF H 1 (j + tkF k 1) + pfF H 1 j = dfF H k i j := rfl
  rw [ed, wr_id (by omega)]
  exact congrArg (fun x => some (x, d)) (by omega)
theorem k_cheapest {H : Int → Int} {n i j : Int} (sg : sgn H n) (h : (shs H n).1 = 0) (q : mcQ d H) (i0 : 0 ≤ i) (j0 : 0 ≤ j) (i1 : i ≤ shn H 0) (j1 : j ≤ shn H 1) (hD : ∀ k, 0 ≤ k → k < 5 → canS H k i j → d.m 104 (zix ((i + tkF k 0) * 9 + (j + tkF k 1))) = coS H (i + tkF k 0) (j + tkF k 1)) : ma_cheapestKind d i j = some (kiS H i j, d) := by
  have hM := (sh_ok sg h (s := 0) (by omega) (by omega)).1
  have hN := (sh_ok sg h (s := 1) (by omega) (by omega)).1
  refine Ok_eq ?_
  rw [ma_cheapestKind_e]
  refine lpM (fun k s (y : Int × Int × zV) => ma_cheapestKind_6 s i j y.1 y.2.1 k y.2.2) (fun k s y => s = d ∧ y.1 = (bkS H (coS H) i j k).1 ∧ y.2.1 = (bkS H (coS H) i j k).2) 0 5 (by omega) d (-1, 0, (3, 0)) ⟨rfl, rfl, rfl⟩ (fun s y hi => ?_) (fun k s y k0 k1 hi hnext => ?_)
  · obtain ⟨rfl, y1, y2⟩ := hi
    (try dsimp only)
    rw [ma_cheapestKind_6_e, if_pos (by omega)]
    exact Ok_ret ⟨y1, rfl⟩
  · obtain ⟨rfl, y1, y2⟩ := hi
    have t := tkF_r k0 k1
    have y5 : zin k 5 := of_eq_true (zinT (by omega))
    have b := bkS_r sg h (C := coS H) (B := 15300) i0 j0 (by omega) (fun x y x0 y0 _ _ => coS_r sg h x0 y0) (m := k) k0 (by omega)
    have st := bkS_s (H := H) (C := coS H) (i := i) (j := j) k0
    have yr : (-1 ≤ y.1 ∧ y.1 < 5) ∧ 0 ≤ y.2.1 ∧ y.2.1 ≤ 16200 := by
      rw [y1, y2]
      rcases b with b | b
      · omega
      · omega
    have skip : ¬ canS H k i j → Ok (ma_cheapestKind_6 s i j y.1 y.2.1 (k + 1) y.2.2) (fun v s' => v = kiS H i j ∧ s' = s) := fun c => by
      rw [if_neg c] at st
      exact hnext _ (y.1, y.2.1, y.2.2) ⟨rfl, by rw [st]; exact y1, by rw [st]; exact y2⟩
    (try dsimp only)
    rw [ma_cheapestKind_6_e, if_neg (by rw [wr_id (by omega), wr_id (by omega)]; omega), if_pos y5, (q.2.2.2 k k0 k1).1, (q.2.2.2 k k0 k1).2.1, q.1.1, q.1.2]
    by_cases ca : i + tkF k 0 ≤ shn H 0
    · rw [if_neg (by rw [wr_id (by omega), wr_id (by omega)]; omega), if_pos y5]
      by_cases cb : j + tkF k 1 ≤ shn H 1
      · have c : canS H k i j := ⟨ca, cb⟩
        have p := pcS_r sg h k0 k1 i0 j0 c
        have co := coS_r sg h (i := i + tkF k 0) (j := j + tkF k 1) (by omega) (by omega)
        rw [if_pos c] at st
        rw [if_neg (by rw [wr_id (by omega), wr_id (by omega)]; omega), k_costFrom sg h q k0 k1 i0 j0 c (hD k k0 k1 c), Option.bind_some]
        (try dsimp only)
        obtain ⟨V, hV⟩ : ∃ V, V = pcS H k i j + coS H (i + tkF k 0) (j + tkF k 1) := ⟨_, rfl⟩
        rw [← hV] at st ⊢
        by_cases e1 : y.1 = -1
        · rw [if_pos (by rw [e1])]
          rw [if_pos (Or.inl (by rw [← y1]; exact e1))] at st
          exact hnext _ (k, V, (0, V)) ⟨rfl, by rw [st], by rw [st]⟩
        · rw [if_neg (by rw [wr_id (by omega), wr_id (by omega)]; exact e1)]
          by_cases e2 : y.2.1 ≤ V
          · rw [if_pos (by rw [wr_id (by omega), wr_id (by omega)]; exact e2)]
            rw [if_neg (by rw [← y1, ← y2]; omega)] at st
            exact hnext _ (y.1, y.2.1, (0, V)) ⟨rfl, by rw [st]; exact y1, by rw [st]; exact y2⟩
          · rw [if_neg (by rw [wr_id (by omega), wr_id (by omega)]; exact e2)]
            rw [if_pos (Or.inr (by rw [← y2]; omega))] at st
            exact hnext _ (k, V, (0, V)) ⟨rfl, by rw [st], by rw [st]⟩
      · rw [if_pos (by rw [wr_id (by omega), wr_id (by omega)]; omega)]
        exact skip (fun c => cb c.2)
    · rw [if_pos (by rw [wr_id (by omega), wr_id (by omega)]; omega)]
      exact skip (fun c => ca c.1)
theorem k_addLetters {H : Int → Int} {n s : Int} {b a : Nat} (hz : zkd b = 7) (ha : (a = 106 ∧ b = 29) ∨ (a = 107 ∧ b = 32)) (sg : sgn H n) (h : (shs H n).1 = 0) (s0 : 0 ≤ s) (s1 : s < 2) (ro : rO d.m b (shn H s) (hln H (shq H s)) (hky H (shq H s))) : Ok (ma_addLetters d b (shn H s) a) (fun _ s' => Fx (fun r => r = a) d s' ∧ ∀ k, 0 ≤ k → k ≤ shn H s → s'.m a (zix k) = pfF H s k) := by
  have hM := (sh_ok sg h s0 s1).1
  have h3 : zkd a = 20 := by rcases ha with ⟨rfl, -⟩ | ⟨rfl, -⟩ <;> rfl
  have la : zln P a = 9 := by rcases ha with ⟨rfl, -⟩ | ⟨rfl, -⟩ <;> rfl
  have y0 : zin 0 9 := of_eq_true (zinT (by omega))
  have z0 : zix 0 = 0 := by rw [zix_id (by omega)]; rfl
  rw [ma_addLetters_e hz h3 la, if_pos y0]
  obtain ⟨s1', hs1⟩ : ∃ s1', s1' = d.up a (zix 0) 0 := ⟨_, rfl⟩
  rw [← hs1]
  have ua : s1'.m a = zfu (d.m a) (zix 0) 0 := by rw [hs1]; exact up_ar (Or.inl h3)
  have fx : Fx (fun r => r = a) d s1' := by rw [hs1]; exact Fx.rf.up rfl
  clear hs1
  refine lpD (fun k t => ma_addLetters_6 t (2, ((103 : Nat) : Int)) b (shn H s) a k) (fun k t => Fx (fun r => r = a) d t ∧ ∀ m, 0 ≤ m → m ≤ k → t.m a (zix m) = pfF H s m) 0 (shn H s) (by omega) s1' ⟨fx, fun m m0 m1 => by
    rw [show m = 0 by omega, ua, zfu_n, if_pos rfl]
    rfl⟩ (fun t hi => ?_) (fun k t k0 k1 hi hnext => ?_)
  · (try dsimp only)
    rw [ma_addLetters_6_e hz h3 la, if_pos (by omega)]
    exact Ok_ret hi
  · obtain ⟨i1, i2⟩ := hi
    have yk : zin k 9 := of_eq_true (zinT (by omega))
    have yk1 : zin (k + 1) 9 := of_eq_true (zinT (by omega))
    have ro' : rO t.m b (shn H s) (hln H (shq H s)) (hky H (shq H s)) := ro.fx i1 (by omega) (by omega) (by omega)
    (try dsimp only)
    rw [ma_addLetters_6_e hz h3 la, if_neg (by rw [wr_id (by omega), wr_id (by omega)]; omega), if_neg (by rw [wr_id (by omega), wr_id (by omega)]; omega), if_pos yk, k_lettersIn hz sg h s0 s1 ro' k0 k1, Option.bind_some]
    (try dsimp only)
    rw [if_pos yk1, i2 k k0 (Int.le_refl _), ← pfF_s k0]
    refine hnext _ ⟨i1.up rfl, fun m m0 m1 => ?_⟩
    rw [up_ar (Or.inl h3), zfu_z (by omega)]
    by_cases e : m = k + 1
    · rw [if_pos e, e]
    · rw [if_neg e]
      exact i2 m m0 (by omega)
end
