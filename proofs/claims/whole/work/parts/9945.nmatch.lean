/-! THE MODEL MATCHES ITS SHEETS. -/
theorem pfF_cat {H : Int → Int} {w k m : Int} (k0 : 0 ≤ k) (m0 : 0 ≤ m) : sm m (fun x => shLe H w (k + x)) = pfF H w (k + m) - pfF H w k := by
  unfold pfF
  rw [sm_cat k0 m0]
  omega
section
variable {P : zP} {d t : zD P}
theorem n_takes {k w : Int} (k0 : 0 ≤ k) (k1 : k < 5) (w0 : 0 ≤ w) (w1 : w < 2) : m_takes d k w = some (tkF k w, d) := by
  rw [m_takes_e]
  unfold tkF
  by_cases e0 : k = 0
  · rw [if_neg (by rw [e0]; exact fun x => x zz0), if_pos e0]
  rw [if_pos (by rw [wr_id (by omega)]; exact e0), if_neg e0]
  by_cases e1 : k = 1
  · rw [if_neg (by rw [e1]; exact fun x => x rfl), if_pos e1]
  rw [if_pos (by rw [wr_id (by omega), wr_id (by omega)]; exact e1), if_neg e1]
  by_cases e2 : k = 2
  · rw [if_neg (by rw [e2]; exact fun x => x rfl), if_pos e2]
  rw [if_pos (by rw [wr_id (by omega), wr_id (by omega)]; exact e2), if_neg e2]
  by_cases e3 : k = 3
  · rw [if_neg (by rw [e3]; exact fun x => x rfl), if_pos e3]
  rw [if_pos (by rw [wr_id (by omega), wr_id (by omega)]; exact e3), if_neg e3]
theorem n_partCost {H : Int → Int} {n k i j : Int} (sg : sgn H n) (h : (shs H n).1 = 0) (fs : fsR d H) (k0 : 0 ≤ k) (k1 : k < 5) (i0 : 0 ≤ i) (j0 : 0 ≤ j) (c : canS H k i j) : m_partCost d k i j = some (pcS H k i j, d) := by
  have hM := (sh_ok sg h (s := 0) (by omega) (by omega)).1
  have hN := (sh_ok sg h (s := 1) (by omega) (by omega)).1
  have tk := tkF_r k0 k1
  have c1 : i + tkF k 0 ≤ shn H 0 := c.1
  have c2 : j + tkF k 1 ≤ shn H 1 := c.2
  have dr := (pcS_r sg h k0 k1 i0 j0 c).1
  rw [m_partCost_e]
  by_cases e1 : k = 1
  · rw [if_pos (by rw [e1])]
    unfold pcS
    rw [if_pos (Or.inl e1), e1]
    rfl
  rw [if_neg (by rw [wr_id (by omega), wr_id (by omega)]; exact e1)]
  by_cases e2 : k = 2
  · rw [if_neg (by rw [e2]; exact fun x => x rfl)]
    unfold pcS
    rw [if_pos (Or.inr e2), e2]
    rfl
  rw [if_pos (by rw [wr_id (by omega), wr_id (by omega)]; exact e2)]
  have A : m_partCost_12 d k i j 0 0 = m_partCost_12 d k i j (pfF H 0 (i + tkF k 0) - pfF H 0 i) (tkF k 0) := by
    rw [← pfF_cat (H := H) (w := 0) i0 tk.1.1]
    exact lpS (fun x a => m_partCost_12 d k i j a x) (fun x => shLe H 0 (i + x)) (tkF k 0) tk.1.1 (fun x a x0 x1 _ => by
      have y : zin (i + x) 16 := of_eq_true (zinT (by omega))
      have e := ((fs 0 (by omega) (by omega)).2 (i + x) (by omega) (by omega)).2.2.1
      rw [show 8 * (0 : Int) + (i + x) = i + x by omega] at e
      (try dsimp only)
      rw [m_partCost_12_e, n_takes k0 k1 (by omega) (by omega), Option.bind_some]
      (try dsimp only)
      rw [if_neg (by rw [wr_id (by omega), wr_id (by omega)]; omega), if_pos y, e])
  rw [A, m_partCost_12_e, n_takes k0 k1 (by omega) (by omega), Option.bind_some]
  (try dsimp only)
  rw [if_pos (by omega)]
  have B : m_partCost_30 d k (0, i) j (pfF H 0 (i + tkF k 0) - pfF H 0 i) 0 = m_partCost_30 d k (0, i) j (pfF H 0 (i + tkF k 0) - pfF H 0 i - sm (tkF k 1) (fun x => shLe H 1 (j + x))) (tkF k 1) := by
    have l := lpA (β := Option (Int × zD P)) (fun x a => m_partCost_30 d k (0, i) j a x) (fun x a => a - shLe H 1 (j + x)) (tkF k 1) tk.2.1.1 (pfF H 0 (i + tkF k 0) - pfF H 0 i) (fun x a x0 x1 _ => by
      have y : zin (8 + j + x) 16 := of_eq_true (zinT (by omega))
      have e := ((fs 1 (by omega) (by omega)).2 (j + x) (by omega) (by omega)).2.2.1
      rw [show 8 * (1 : Int) + (j + x) = 8 + j + x by omega] at e
      (try dsimp only)
      rw [m_partCost_30_e, n_takes k0 k1 (by omega) (by omega), Option.bind_some]
      (try dsimp only)
      rw [if_neg (by rw [wr_id (by omega), wr_id (by omega)]; omega), if_pos y, e])
    (try dsimp only at l)
    rw [l]
    refine congrArg (fun z => m_partCost_30 d k (0, i) j z (tkF k 1)) ?_
    exact fo_ind (I := fun x a => a = pfF H 0 (i + tkF k 0) - pfF H 0 i - sm x (fun x => shLe H 1 (j + x))) tk.2.1.1 (by rw [sm_z]; omega) (fun x a x0 x1 hi => by
      (try dsimp only)
      rw [hi, sm_s _ x0]
      omega)
  rw [B, pfF_cat (H := H) (w := 1) j0 tk.2.1.1, m_partCost_30_e, n_takes k0 k1 (by omega) (by omega), Option.bind_some]
  (try dsimp only)
  have ed : pfF H 0 (i + tkF k 0) - pfF H 0 i - (pfF H 1 (j + tkF k 1) - pfF H 1 j) = dfF H k i j := by
    unfold dfF
    omega
  rw [if_pos (by omega), ed, n_size (by unfold I32; omega), Option.bind_some]
  (try dsimp only)
  unfold pcS
  rw [if_neg (show ¬ (k = 1 ∨ k = 2) by omega)]
  by_cases e0 : k = 0
  · rw [if_neg (by rw [e0]; exact fun x => x zz0)]
    have kc : kcF k = 0 := by rw [e0]; rfl
    rw [kc]
    exact congrArg (fun x => some (x, d)) (by omega)
  · rw [if_pos (by rw [wr_id (by omega)]; exact e0)]
    have kc : kcF k = 20 := by
      unfold kcF
      rw [if_neg e0, if_neg e1, if_neg e2]
    rw [kc]
    exact congrArg (fun x => some (x, d)) (by omega)
end
