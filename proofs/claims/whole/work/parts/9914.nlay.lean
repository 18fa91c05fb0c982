/-! PAIRS COME: the model lays a word. -/
theorem vfi_key {C : Nat → Int} {s K : Int} {v : Int × (Int → Int)} (h1 : wds C s = v.1) (h2 : ∀ w, 0 ≤ w → w < v.1 → key C s w = v.2 w) : first (wds C s) (fun w => decide (key C s w = K)) = vfi v K := by
  unfold vfi
  rw [h1]
  exact first_congr (fun w w0 w1 => by (try dsimp only); rw [h2 w w0 w1])
section
variable {P : zP} {d t : zD P} {C F : Nat → Int} {ln : Int → Int → Int} {ky : Int → Int → Int → Int} {r : Int} {k : Int → Int} {V : Int → Int × (Int → Int)}
theorem n_laysHand (hF : WFc F) (r0 : 0 ≤ r) (l6 : ∀ s q, 0 ≤ s → s < 2 → 0 ≤ q → q < r → ln s q ≤ 6) (hC : t.m 133 = C) (h : LQ C F ln ky r k V) {s hn : Int} {hl : Int → Int} (s0 : 0 ≤ s) (s1 : s < 2) (k6 : k s < 6) (hh : hnd t hn hl) (n1 : 1 ≤ hn) (ok : gOK hn hl) (hK : kof hn hl = ky s r (k s)) : Ok (m_laysHand t s (k s)) (fun v u => (v = 1 ∧ Fx (fun r => r = 133) t u ∧ LQ (u.m 133) F ln ky r (fun x => if x = s then k s + 1 else k x) (fun x => if x = s then vad (V s) (ky s r (k s)) else V x)) ∨ (v = 0 ∧ u = t ∧ 40 < (vad (V s) (ky s r (k s))).1)) := by
  have hLI := h.1
  have p0 := hF.1
  have h24 := h.2.1
  have g := hLI.2.1 s s0 s1
  have ks := (h.2.2.1 s s0 s1).1
  have bs := g.1.1
  have wE := g.2.1
  have z0 : zix 0 = 0 := by rw [zix_id (by omega)]; rfl
  have zz0 : zin 0 18180 := of_eq_true (zinT (by omega))
  have pC : C (zix 0) = prs F + r := hLI.1
  have nm : m_numberOfHand t s = some (vfi (V s) (ky s r (k s)), t) := by
    rw [n_numHand hC s0 s1 g.1 hh n1 ok, hK, vfi_key wE g.2.2]
  have fl := first_range (p := fun w => decide ((V s).2 w = ky s r (k s))) (n := (V s).1) (by omega)
  have fl' : vfi (V s) (ky s r (k s)) = -1 ∨ (0 ≤ vfi (V s) (ky s r (k s)) ∧ vfi (V s) (ky s r (k s)) < (V s).1) := by
    rcases fl with q | q
    · exact Or.inl q
    · exact Or.inr ⟨q.1, q.2.1⟩
  have zA : zin (((((24 + (20 * (prs F + r))) + 2) + (6 * s)) + k s)) 18180 := of_eq_true (zinT (by omega))
  have zB : zin (((24 + (20 * (prs F + r))) + s)) 18180 := of_eq_true (zinT (by omega))
  have hz1 : hn ≤ 7 := ok.1.2
  rw [m_laysHand_e, nm, Option.bind_some]
  (try dsimp only)
  rw [wr_id (x := vfi (V s) (ky s r (k s))) (by omega), wr_id (x := -1) (by omega)]
  by_cases c : vfi (V s) (ky s r (k s)) = -1
  · rw [if_neg (fun x => x c), n_words hC s0 s1, Option.bind_some]
    (try dsimp only)
    rw [wE, wr_id (x := (V s).1) (by omega), wr_id (x := 40) (by omega)]
    by_cases c40 : (V s).1 = 40
    · rw [if_neg (fun x => x c40)]
      refine Ok_ret (Or.inr ⟨rfl, rfl, ?_⟩)
      unfold vad
      rw [if_pos c]
      (try dsimp only)
      omega
    · have zw : zin (4 + s) 18180 := of_eq_true (zinT (by omega))
      rw [if_pos c40, if_pos zw]
      refine lpD (fun j u => m_laysHand_27 u s (k s) (V s).1 j) (fun j u => Fx (fun r => r = 133) t u ∧ (∀ q : Nat, (q : Int) ≠ 4 + s → ¬ (504 + 8 * (40 * s + (V s).1) ≤ q ∧ (q : Int) < 504 + 8 * (40 * s + (V s).1) + 8) → u.m 133 q = C q) ∧ wds (u.m 133) s = (V s).1 + 1 ∧ ∀ i, 0 ≤ i → i < j → u.m 133 (zix ((504 + (8 * ((40 * s) + (V s).1))) + i)) = if i ≤ hn then t.m 135 (zix i) else 0) 0 8 (by omega) _ ⟨Fx.rf.up rfl, fun q q1 q2 => ?_, ?_, fun i i0 i1 => by omega⟩ (fun u hu => ?_) (fun j u j0 j1 hu hnext => ?_)
      · rw [u_133, zfu_n, if_neg (by rw [zix_id (by omega)]; omega), hC]
      · unfold wds
        rw [u_133, zfu_z (by omega), if_pos rfl]
      · obtain ⟨u1, u2, u3, u4⟩ := hu
        have q0 : u.m 133 (zix 0) = prs F + r := by rw [u2 _ (by rw [z0]; omega) (by rw [z0]; omega)]; exact pC
        (try dsimp only)
        rw [m_laysHand_27_e, if_pos (by rw [wr_id (by omega)]; omega), if_pos zz0, q0, if_pos zA, if_pos zz0]
        have q1 : (u.up 133 (zix (((((24 + (20 * (prs F + r))) + 2) + (6 * s)) + k s))) (V s).1).m 133 (zix 0) = prs F + r := by rw [u_133, zfu_z (by omega), if_neg (by omega)]; exact q0
        rw [q1, if_pos zB]
        have e8 : ∀ i, 0 ≤ i → i < 8 → u.m 133 (zix ((504 + (8 * ((40 * s) + (V s).1))) + i)) = if i ≤ hn then t.m 135 (zix i) else 0 := u4
        have el : ltn (u.m 133) s (V s).1 = hn ∧ ∀ j, 0 ≤ j → j < hn → ltr (u.m 133) s (V s).1 j = hl j := by
          constructor
          · have q := e8 0 (by omega) (by omega)
            rw [if_pos (by omega), Int.add_zero] at q
            unfold ltn
            rw [q]
            exact hh.1
          · intro j j0 j1
            have q := e8 (1 + j) (by omega) (by omega)
            rw [if_pos (by omega)] at q
            unfold ltr
            rw [show ((504 + (8 * ((40 * s) + (V s).1))) + 1) + j = (504 + (8 * ((40 * s) + (V s).1))) + (1 + j) by omega, q]
            exact hh.2 j j0 j1
        have hnew := LQ_new hF r0 l6 h s0 s1 (by omega) ok n1 hK c u2 u3 el
        have hv : vfi ((fun x => if x = s then vad (V s) (ky s r (k s)) else V x) s) (ky s r (k s)) ≠ -1 := by
          (try dsimp only)
          rw [if_pos rfl]
          exact vfi_ad (by omega)
        have ev : vfi ((fun x => if x = s then vad (V s) (ky s r (k s)) else V x) s) (ky s r (k s)) = (V s).1 := by
          (try dsimp only)
          rw [if_pos rfl]
          unfold vad
          rw [if_pos c]
          unfold vfi
          refine first_at (by omega) (by (try dsimp only); omega) (decide_eq_true (if_pos rfl)) (fun j j0 j1 => ?_)
          have b := first_before (p := fun w => decide ((V s).2 w = ky s r (k s))) j0 j1 (Or.inr c)
          refine decide_eq_false (fun h => of_decide_eq_false b ?_)
          (try dsimp only at h)
          rw [if_neg (by omega)] at h
          exact h
        refine Ok_ret (Or.inl ⟨rfl, (u1.up rfl).up rfl, ?_⟩)
        refine LQ_num hF r0 l6 hnew s0 s1 k6 hv (fun q => ?_)
        rw [u_133, zfu_n, u_133, zfu_n, ev, zix_id (by omega), zix_id (by omega)]
        by_cases a1 : q = ((24 + (20 * (prs F + r))) + s).toNat
        · rw [if_pos a1, if_pos (by omega)]
        · rw [if_neg a1, if_neg (show ¬ ((q : Int) = 24 + 20 * (prs F + r) + s) by omega)]
          by_cases a2 : q = (((((24 + (20 * (prs F + r))) + 2) + (6 * s)) + k s)).toNat
          · rw [if_pos a2, if_pos (by omega)]
          · rw [if_neg a2, if_neg (by omega)]
      · obtain ⟨u1, u2, u3, u4⟩ := hu
        have e135 : u.m 135 = t.m 135 := u1 135 (by decide)
        have z8 : zin 0 8 := of_eq_true (zinT (by omega))
        have zj : zin j 8 := of_eq_true (zinT (by omega))
        have zc : zin (((504 + (8 * ((40 * s) + (V s).1))) + j)) 18180 := of_eq_true (zinT (by omega))
        have nx : ∀ x, x = (if j ≤ hn then t.m 135 (zix j) else 0) → Ok (m_laysHand_27 (u.up 133 (zix (((504 + (8 * ((40 * s) + (V s).1))) + j))) x) s (k s) (V s).1 (j + 1)) (fun v u => (v = 1 ∧ Fx (fun r => r = 133) t u ∧ LQ (u.m 133) F ln ky r (fun x => if x = s then k s + 1 else k x) (fun x => if x = s then vad (V s) (ky s r (k s)) else V x)) ∨ (v = 0 ∧ u = t ∧ 40 < (vad (V s) (ky s r (k s))).1)) := fun x hx => by
          refine hnext _ ?_
          refine ⟨u1.up rfl, fun q q1 q2 => ?_, ?_, fun i i0 i1 => ?_⟩
          · rw [u_133, zfu_n, if_neg (by rw [zix_id (by omega)]; omega)]
            exact u2 q q1 q2
          · unfold wds at u3 ⊢
            rw [u_133, zfu_z (by omega), if_neg (by omega)]
            exact u3
          · rw [u_133, zfu_z (by omega)]
            by_cases ei : i = j
            · rw [if_pos (by omega), hx, ei]
            · rw [if_neg (by omega)]
              exact u4 i i0 (by omega)
        (try dsimp only)
        rw [m_laysHand_27_e, if_neg (by rw [wr_id (by omega), wr_id (by omega)]; omega), if_pos z8, e135, hh.1]
        by_cases cj : hn < j
        · rw [if_pos (by rw [wr_id (by omega), wr_id (by omega)]; exact cj), if_pos zc]
          exact nx 0 (by rw [if_neg (by omega)])
        · rw [if_neg (by rw [wr_id (by omega), wr_id (by omega)]; exact cj), if_pos zj, if_pos zc]
          exact nx _ (by rw [if_pos (by omega)])
  · have ev : (fun x => if x = s then vad (V s) (ky s r (k s)) else V x) = V := by
      funext x
      by_cases cx : x = s
      · rw [if_pos cx, cx]
        unfold vad
        rw [if_neg c]
      · rw [if_neg cx]
    rw [if_pos c, if_pos zz0, hC, pC, if_pos zA, if_pos zz0]
    have q1 : (t.up 133 (zix (((((24 + (20 * (prs F + r))) + 2) + (6 * s)) + k s))) (vfi (V s) (ky s r (k s)))).m 133 (zix 0) = prs F + r := by rw [u_133, zfu_z (by omega), if_neg (by omega), hC]; exact pC
    rw [q1, if_pos zB]
    refine Ok_ret (Or.inl ⟨rfl, ((Fx.rf (S := fun r => r = 133)).up rfl).up rfl, ?_⟩)
    rw [ev]
    refine LQ_num hF r0 l6 h s0 s1 k6 c (fun q => ?_)
    rw [u_133, zfu_n, u_133, zfu_n, zix_id (by omega), zix_id (by omega), hC]
    by_cases a1 : q = ((24 + (20 * (prs F + r))) + s).toNat
    · rw [if_pos a1, if_pos (by omega)]
    · rw [if_neg a1, if_neg (show ¬ ((q : Int) = 24 + 20 * (prs F + r) + s) by omega)]
      by_cases a2 : q = (((((24 + (20 * (prs F + r))) + 2) + (6 * s)) + k s)).toNat
      · rw [if_pos a2, if_pos (by omega)]
      · rw [if_neg a2, if_neg (by omega)]
end
