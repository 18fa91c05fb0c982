/-! THE MODEL COUNTS ITS JOINED PARTS. -/
section
variable {P : zP} {d t : zD P}
theorem n_wordsFrom {H : Int → Int} {n w p m a : Int} (sg : sgn H n) (h : (shs H n).1 = 0) (fs : fsR d H) (w0 : 0 ≤ w) (w1 : w < 2) (p0 : 0 ≤ p) (m0 : 0 ≤ m) (m2 : m ≤ 2) (hp : p + m ≤ shn H w) (ha : a = 8 * w + p) : m_wordsFrom d a m = some (jlF H w p m, d) := by
  have hM := (sh_ok sg h w0 w1).1
  have l := lpS (fun x y => m_wordsFrom_4 d a m y (a + x)) (fun x => hln H (shq H w) (p + x)) m m0 (fun x y x0 x1 _ => by
    have y16 : zin (a + x) 16 := of_eq_true (zinT (by omega))
    have e := ((fs w w0 w1).2 (p + x) (by omega) (by omega)).2.2.2
    rw [show 8 * w + (p + x) = a + x by omega] at e
    (try dsimp only)
    rw [m_wordsFrom_4_e, if_neg (by rw [wr_id (by omega), wr_id (by omega)]; omega), if_pos y16, e, show a + x + 1 = a + (x + 1) by omega])
  (try dsimp only at l)
  rw [Int.add_zero] at l
  rw [m_wordsFrom_e, l, m_wordsFrom_4_e, if_pos (by omega)]
  rfl
theorem n_joins0 {H : Int → Int} {n W : Int} (sg : sgn H n) (h : (shs H n).1 = 0) (fs : fsR d H) (tn : tnQ d H (fun _ _ => True)) (nk : nkS H W) : Ok (m_joinsAll d 0) (fun v s => s = d ∧ ((∃ m, 0 ≤ m ∧ m < W ∧ jfP H m) → v = -5) ∧ ((∀ m, 0 ≤ m → m < W → ¬ jfP H m) → v = (jnS H W).1)) := by
  have hM := (sh_ok sg h (s := 0) (by omega) (by omega)).1
  have hN := (sh_ok sg h (s := 1) (by omega) (by omega)).1
  have y0 : zin 0 2 := of_eq_true (zinT (by omega))
  have y1 : zin 1 2 := of_eq_true (zinT (by omega))
  have W16 := nk.1
  have e0 := (fs 0 (by omega) (by omega)).1
  have e1 := (fs 1 (by omega) (by omega)).1
  rw [m_joinsAll_e]
  refine lpM (fun m s (y : Int × zV × zV × zV) => m_joinsAll_8 s 0 (wkS H m).1 (wkS H m).2 (jnS H m).1 y.1 y.2.1 y.2.2.1 y.2.2.2) (fun m s y => s = d ∧ ((y.1 = 0 ∧ ∀ m', 0 ≤ m' → m' < m → ¬ jfP H m') ∨ (y.1 = -5 ∧ ∃ m', 0 ≤ m' ∧ m' < m ∧ jfP H m'))) 0 W W16.1 d (0, (3, 0), (3, 0), (3, 0)) ⟨rfl, Or.inl ⟨rfl, fun m' a b => by omega⟩⟩ (fun s y hi => ?_) (fun m s y m0 m1 hi hnext => ?_)
  · obtain ⟨rfl, i2⟩ := hi
    have w := wk_in sg h nk W.toNat (by omega)
    rw [show ((W.toNat : Nat) : Int) = W by omega] at w
    have no := (kiS_no sg h (i := (wkS H W).1) (j := (wkS H W).2) (by omega) (by omega) (by omega) (by omega)).mp nk.2.2
    (try dsimp only)
    rw [m_joinsAll_8_e, if_pos y0, e0, if_neg (by rw [no.1]; exact Int.lt_irrefl _), if_pos y1, e1, if_pos (by rw [no.2]; exact Int.le_refl _)]
    rcases i2 with ⟨q, a⟩ | ⟨q, m', a0, a1, a2⟩
    · rw [q, if_pos (by rw [wr_id (by omega)]; omega)]
      exact Ok_ret ⟨rfl, fun ⟨m', b0, b1, b2⟩ => absurd b2 (a m' b0 b1), fun _ => rfl⟩
    · rw [q, if_neg (by rw [wr_id (by omega)]; omega)]
      exact Ok_ret ⟨rfl, fun _ => rfl, fun hh => absurd a2 (hh m' a0 a1)⟩
  · obtain ⟨rfl, i2⟩ := hi
    have w := wk_in sg h nk m.toNat (by omega)
    rw [show ((m.toNat : Nat) : Int) = m by omega] at w
    have kn := nk.2.1 m m0 m1
    have no := kiS_no sg h (i := (wkS H m).1) (j := (wkS H m).2) (by omega) (by omega) (by omega) (by omega)
    have y81 : zin (9 * (wkS H m).1 + (wkS H m).2) 81 := of_eq_true (zinT (by omega))
    have cell := (tn (wkS H m).1 (wkS H m).2 (by omega) (by omega) (by omega) (by omega) trivial).2 kn
    obtain ⟨K, hK⟩ : ∃ K, K = kiS H (wkS H m).1 (wkS H m).2 := ⟨_, rfl⟩
    have kr : (0 ≤ K ∧ K < 5) ∧ (wkS H m).1 + tkF K 0 ≤ shn H 0 ∧ (wkS H m).2 + tkF K 1 ≤ shn H 1 := by
      rw [hK]
      rcases kiS_r sg h (i := (wkS H m).1) (j := (wkS H m).2) (by omega) (by omega) with r | r
      · exact absurd r.1 kn
      · exact ⟨r.1, r.2.1⟩
    have tk := tkF_r kr.1.1 kr.1.2
    have eK : knS H m = K := hK.symm
    have ew := wkS_s (H := H) m0
    have ej := jnS_s (H := H) m0
    rw [← hK] at ew cell
    rw [eK] at ej
    have p0 : psS H m 0 = (wkS H m).1 := if_pos rfl
    have p1 : psS H m 1 = (wkS H m).2 := if_neg (by decide)
    have j0 := sm_le tk.1.1 (g := fun x => hln H (shq H 0) ((wkS H m).1 + x)) (B := 6) (fun x x0 x1 => by
      have := hln_r sg h (w := 0) (by omega) (by omega) (r := (wkS H m).1 + x) (by omega) (by omega)
      (try dsimp only)
      omega)
    have j1 := sm_le tk.2.1.1 (g := fun x => hln H (shq H 1) ((wkS H m).2 + x)) (B := 6) (fun x x0 x1 => by
      have := hln_r sg h (w := 1) (by omega) (by omega) (r := (wkS H m).2 + x) (by omega) (by omega)
      (try dsimp only)
      omega)
    have f0 : sm (tkF K 0) (fun x => hln H (shq H 0) ((wkS H m).1 + x)) = jlF H 0 (wkS H m).1 (tkF K 0) := rfl
    have f1 : sm (tkF K 1) (fun x => hln H (shq H 1) ((wkS H m).2 + x)) = jlF H 1 (wkS H m).2 (tkF K 1) := rfl
    rw [f0] at j0
    rw [f1] at j1
    have same : (K = 1 ∨ K = 2) → ∀ g6 g7 g8 : zV, Ok (m_joinsAll_8 s 0 ((wkS H m).1 + tkF K 0) ((wkS H m).2 + tkF K 1) (jnS H m).1 y.1 g6 g7 g8) (fun v s' => s' = s ∧ ((∃ m, 0 ≤ m ∧ m < W ∧ jfP H m) → v = -5) ∧ ((∀ m, 0 ≤ m → m < W → ¬ jfP H m) → v = (jnS H W).1)) := fun c g6 g7 g8 => by
      rw [if_pos c] at ej
      have nof : ¬ jfP H m := fun x => x.1 (by rw [eK]; exact c)
      have nx := hnext s (y.1, g6, g7, g8) ⟨rfl, by
        rcases i2 with ⟨q, a⟩ | ⟨q, m', a0, a1, a2⟩
        · refine Or.inl ⟨q, fun m' b0 b1 => ?_⟩
          by_cases e : m' = m
          · rw [e]; exact nof
          · exact a m' b0 (by omega)
        · exact Or.inr ⟨q, m', a0, by omega, a2⟩⟩
      (try dsimp only at nx)
      rw [ew, ej] at nx
      exact nx
    have good : ¬ (K = 1 ∨ K = 2) → jlF H 0 (wkS H m).1 (tkF K 0) ≤ 6 → jlF H 1 (wkS H m).2 (tkF K 1) ≤ 6 → ∀ g6 g7 g8 : zV, Ok (m_joinsAll_8 s 0 ((wkS H m).1 + tkF K 0) ((wkS H m).2 + tkF K 1) ((jnS H m).1 + 1) y.1 g6 g7 g8) (fun v s' => s' = s ∧ ((∃ m, 0 ≤ m ∧ m < W ∧ jfP H m) → v = -5) ∧ ((∀ m, 0 ≤ m → m < W → ¬ jfP H m) → v = (jnS H W).1)) := fun c l0 l1 g6 g7 g8 => by
      rw [if_neg c] at ej
      have nof : ¬ jfP H m := fun x => by
        rcases x.2 with q | q
        · rw [eK, p0] at q; omega
        · rw [eK, p1] at q; omega
      have nx := hnext s (y.1, g6, g7, g8) ⟨rfl, by
        rcases i2 with ⟨q, a⟩ | ⟨q, m', a0, a1, a2⟩
        · refine Or.inl ⟨q, fun m' b0 b1 => ?_⟩
          by_cases e : m' = m
          · rw [e]; exact nof
          · exact a m' b0 (by omega)
        · exact Or.inr ⟨q, m', a0, by omega, a2⟩⟩
      (try dsimp only at nx)
      rw [ew, ej] at nx
      exact nx
    have bad : ¬ (K = 1 ∨ K = 2) → (6 < jlF H 0 (wkS H m).1 (tkF K 0) ∨ 6 < jlF H 1 (wkS H m).2 (tkF K 1)) → ∀ g6 g7 g8 : zV, Ok (m_joinsAll_8 s 0 ((wkS H m).1 + tkF K 0) ((wkS H m).2 + tkF K 1) ((jnS H m).1 + 1) (-5) g6 g7 g8) (fun v s' => s' = s ∧ ((∃ m, 0 ≤ m ∧ m < W ∧ jfP H m) → v = -5) ∧ ((∀ m, 0 ≤ m → m < W → ¬ jfP H m) → v = (jnS H W).1)) := fun c l g6 g7 g8 => by
      rw [if_neg c] at ej
      have nx := hnext s (-5, g6, g7, g8) ⟨rfl, Or.inr ⟨rfl, m, m0, by omega, by rw [eK]; exact c, by rw [eK, p0, p1]; exact l⟩⟩
      (try dsimp only at nx)
      rw [ew, ej] at nx
      exact nx
    (try dsimp only)
    rw [m_joinsAll_8_e, if_pos y0, e0]
    rcases Classical.em ((wkS H m).1 < shn H 0) with ci | ci
    rw [if_pos (by rw [wr_id (by omega), wr_id (by omega)]; exact ci), if_pos y81]
    rotate_left
    rw [if_neg (by rw [wr_id (by omega), wr_id (by omega)]; exact ci), if_pos y1, e1, if_neg (by
      rw [wr_id (by omega), wr_id (by omega)]
      intro x
      exact kn (no.mpr (by omega))), if_pos y81]
    all_goals
      rw [cell, n_takes kr.1.1 kr.1.2 (by omega) (by omega), Option.bind_some]
      (try dsimp only)
      rw [n_takes kr.1.1 kr.1.2 (by omega) (by omega), Option.bind_some]
      (try dsimp only)
      by_cases c1 : K = 1
      · rw [if_pos (by rw [c1])]
        exact same (Or.inl c1) _ _ _
      rw [if_neg (by rw [wr_id (by omega), wr_id (by omega)]; exact c1)]
      by_cases c2 : K = 2
      · rw [if_pos (by rw [c2])]
        exact same (Or.inr c2) _ _ _
      rw [if_neg (by rw [wr_id (by omega), wr_id (by omega)]; exact c2), n_wordsFrom (w := 0) sg h fs (by omega) (by omega) w.1.1 tk.1.1 tk.1.2 kr.2.1 (by omega), Option.bind_some]
      (try dsimp only)
      by_cases c6 : 6 < jlF H 0 (wkS H m).1 (tkF K 0)
      · rw [if_pos (by rw [wr_id (by omega), wr_id (by omega)]; exact c6), if_pos zz0]
        exact bad (by omega) (Or.inl c6) _ _ _
      rw [if_neg (by rw [wr_id (by omega), wr_id (by omega)]; exact c6), n_wordsFrom (w := 1) sg h fs (by omega) (by omega) w.2.1 tk.2.1.1 tk.2.1.2 kr.2.2 (by omega), Option.bind_some]
      (try dsimp only)
      by_cases c7 : jlF H 1 (wkS H m).2 (tkF K 1) ≤ 6
      · rw [if_pos (by rw [wr_id (by omega), wr_id (by omega)]; exact c7), if_pos zz0]
        exact good (by omega) (by omega) c7 _ _ _
      · rw [if_neg (by rw [wr_id (by omega), wr_id (by omega)]; exact c7), if_pos zz0]
        exact bad (by omega) (Or.inr (by omega)) _ _ _
end
