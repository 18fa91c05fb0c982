/-! OVER: the model walks. -/
section
variable {P : zP} {d t : zD P} {F : Nat → Int} {K B : Int → Int} {n kind : Int}
theorem n_pw (hp : qM t K B n) (hn : n ≤ 5400) {z : Int} (hz : z = 9999 ∨ (0 ≤ z ∧ z < n)) : m_piecesWords t z 0 = some (wl0 K z, t) ∧ m_piecesWords t z 1 = some (wl1 K z, t) := by
  rw [m_piecesWords_e, m_piecesWords_e]
  unfold wl0 wl1
  by_cases q : z = 9999
  · rw [if_pos q, if_pos q]
    simp (disch := omega) only [↓reduceIte, zinT, wr_id, wrl_id, ltT, ltF, leT, leF, eqT, eqF, ne_eq, not_true_eq_false, not_false_eq_true, Option.bind_some, Ok_some, bi_0, bi_n0, bi_01]
    exact ⟨trivial, trivial⟩
  · have k := hp.2.1 z (by omega) (by omega)
    have r0 := rwK_le (s := 0) k.2.1 k.2.2
    have r1 := rwK_le (s := 1) k.2.1 k.2.2
    rw [if_neg q, if_neg q]
    simp (disch := omega) only [↓reduceIte, zinT, wr_id, wrl_id, ltT, ltF, leT, leF, eqT, eqF, ne_eq, not_true_eq_false, not_false_eq_true, Option.bind_some, Ok_some, bi_0, bi_n0, bi_01, n_rowOf hp hn (a := z) (s := 0) (by omega) (by omega) (by omega) (by omega), n_rowOf hp hn (a := z) (s := 1) (by omega) (by omega) (by omega) (by omega), n_longRow r0.1 r0.2, n_longRow r1.1 r1.2]
    exact ⟨trivial, trivial⟩
theorem n_walk (hw : WF F) (hT : phT F kind K B n) {W : Int → Int} {L w : Int} (hL0 : 0 ≤ L) (hL8 : L ≤ 8) (hp : oQ t K B n W L) (ho : oN t K B n W L (-1)) (hw0 : w = 2 ∨ (10 ≤ w ∧ w ≤ 17) ∨ (100 ≤ w ∧ w ≤ 123)) : Ok (m_putOver t w) (fun v s => s = t ∧ ovV K (fun j => t.m 156 (zix j)) (fun j => t.m 157 (zix j)) (fun j => t.m 158 (zix j)) w v) := by
  obtain ⟨hT1, hT2⟩ := ho
  have hn := hT.1
  have p0 := hT2 0 (by omega) hL0
  generalize hc : (fun j => t.m 156 (zix j)) = c at *
  generalize hpp : (fun j => t.m 157 (zix j)) = p at *
  generalize hk : (fun j => t.m 158 (zix j)) = k at *
  have kj : ∀ j, t.m 158 (zix j) = k j := fun j => by rw [← hk]
  rw [m_putOver_e]
  refine lpM (fun j s (y : Int × Int × zV × zV × zV) => m_putOver_6 s w y.1 j y.2.1 y.2.2.1 y.2.2.2.1 y.2.2.2.2) (fun j s y => s = t ∧ y.1 = psO K k j ∧ y.2.1 = ciO K k j ∧ (w < 100 → w = 2 ∨ j ≤ w - 10) ∧ (100 ≤ w → ciO K k j ≤ w - 100)) 0 (p 0) (by omega) t (0, 0, (3, 0), (3, 0), (3, 0)) ⟨rfl, rfl, rfl, fun h => by omega, fun h => by have : ciO K k 0 = 0 := rfl; omega⟩ (fun s y hi => ?_) (fun j s y j0 j1 hi hnext => ?_)
  · obtain ⟨a, b, g5, g6, g7⟩ := y
    obtain ⟨rfl, ha, hb, h1, h2⟩ := hi
    (try dsimp only at ha hb ⊢)
    have o := oT_p hn hL0 hT1 hT2 (j := p 0) (by omega) (by omega)
    have cl := ciO_le (K := K) (k := k) (j := p 0) p0.2.1
    have eL : psO K k (p 0) = L := by
      by_cases q : psO K k (p 0) < L
      · have := (oT_k hn hT1 o.1 q).2.1
        have w := wl0_le (K := K) (z := k (psO K k (p 0)))
        have := (oT_k hn hT1 o.1 q).1
        have := hT2 (psO K k (p 0) + wl0 K (k (psO K k (p 0)))) (by omega) (by omega)
        omega
      · omega
    rw [m_putOver_6_e, hp.2.1, ha, hb, eL]
    by_cases w2 : w = 2
    · simp (disch := omega) only [↓reduceIte, zinT, wr_id, wrl_id, ltT, ltF, leT, leF, eqT, eqF, ne_eq, not_true_eq_false, not_false_eq_true, Option.bind_some, Ok_some, bi_0, bi_n0, bi_01, w2]
      unfold ovV
      exact ⟨trivial, by rw [if_neg (by decide), if_neg (by decide), if_pos rfl]⟩
    · simp (disch := omega) only [↓reduceIte, zinT, wr_id, wrl_id, ltT, ltF, leT, leF, eqT, eqF, ne_eq, not_true_eq_false, not_false_eq_true, Option.bind_some, Ok_some, bi_0, bi_n0, bi_01]
      refine ⟨trivial, ?_⟩
      unfold ovV
      rw [if_neg (by omega), if_neg (by omega), if_neg w2]
      by_cases w3 : w < 100
      · rw [if_pos w3, if_neg (by have := h1 w3; omega)]
      · rw [if_neg w3, if_neg (by have := h2 (by omega); omega)]
  · obtain ⟨a, b, g5, g6, g7⟩ := y
    obtain ⟨rfl, ha, hb, h1, h2⟩ := hi
    (try dsimp only at ha hb ⊢)
    have o := oT_p hn hL0 hT1 hT2 (j := j) (by omega) (by omega)
    have cl := ciO_le (K := K) (k := k) j0
    have lt : psO K k j < L := by
      by_cases q : psO K k j = L
      · rw [q, hT1.2.1] at o
        omega
      · omega
    have kk := (oT_k hn hT1 o.1 lt).2.2
    have pw := n_pw hp.1 hn kk
    have wl := wl1_le (K := K) (z := k (psO K k j))
    rw [m_putOver_6_e, hp.2.1, ha, hb]
    simp (disch := omega) only [↓reduceIte, zinT, wr_id, wrl_id, ltT, ltF, leT, leF, eqT, eqF, ne_eq, not_true_eq_false, not_false_eq_true, Option.bind_some, Ok_some, bi_0, bi_n0, bi_01, kj, pw.2]
    by_cases c1 : w = 10 + j
    · rw [if_neg (fun hh => hh c1)]
      refine Ok_ret ⟨rfl, ?_⟩
      unfold ovV
      rw [if_neg (by omega), if_neg (by omega), if_neg (by omega), if_pos (by omega), if_pos (by omega), show w - 10 = j by omega]
    · rw [if_pos c1]
      refine lpD (fun y s' => m_putOver_29 s' w (psO K k j) j (ciO K k j) (k (psO K k j)) (wl1 K (k (psO K k j))) y) (fun y s' => s' = s ∧ (100 ≤ w → ciO K k j + y ≤ w - 100)) 0 (wl1 K (k (psO K k j))) (by omega) s ⟨rfl, fun h => by have := h2 h; omega⟩ (fun s' hi => ?_) (fun y s' y0 y1 hi hnx => ?_)
      · obtain ⟨rfl, h3⟩ := hi
        (try dsimp only)
        rw [m_putOver_29_e]
        simp (disch := omega) only [↓reduceIte, zinT, wr_id, wrl_id, ltT, ltF, leT, leF, eqT, eqF, ne_eq, not_true_eq_false, not_false_eq_true, Option.bind_some, Ok_some, bi_0, bi_n0, bi_01, pw.1]
        refine hnext _ (_, _, _, _, _) ⟨rfl, ?_, ?_, fun h => ?_, fun h => ?_⟩
        · rw [psO_s j0]
        · rw [ciO_s j0]
        · have := h1 h; omega
        · rw [ciO_s j0]; exact h3 h
      · obtain ⟨rfl, h3⟩ := hi
        (try dsimp only)
        rw [m_putOver_29_e]
        simp (disch := omega) only [↓reduceIte, zinT, wr_id, wrl_id, ltT, ltF, leT, leF, eqT, eqF, ne_eq, not_true_eq_false, not_false_eq_true, Option.bind_some, Ok_some, bi_0, bi_n0, bi_01]
        by_cases c2 : w = 100 + ciO K k j + y
        · rw [if_neg (fun hh => hh c2)]
          have lN := ciO_lt (K := K) (k := k) j0 j1
          have fin : ∀ v, v = wdO K (k (psO K k j)) y → ovV K c p k w v := fun v hv => by
            unfold ovV
            rw [if_neg (by omega), if_neg (by omega), if_neg (by omega), if_neg (by omega), if_pos (by omega)]
            exact ⟨j, y, j0, j1, y0, y1, by omega, hv⟩
          by_cases q : k (psO K k j) = 9999
          · rw [if_neg (fun hh => hh q)]
            refine Ok_ret ⟨rfl, fin _ ?_⟩
            unfold wdO
            rw [if_pos q]
          · have kz := hp.1.2.1 (k (psO K k j)) (by omega) (by omega)
            have r1 := rwK_le (s := 1) kz.2.1 kz.2.2
            rw [if_pos q, n_rowOf hp.1 hn (a := k (psO K k j)) (s := 1) (by omega) (by omega) (by omega) (by omega), Option.bind_some]
            (try dsimp only)
            rw [n_wordIn r1.1 r1.2 y0 (by omega), Option.bind_some]
            refine Ok_ret ⟨rfl, fin _ ?_⟩
            unfold wdO
            rw [if_neg q]
        · rw [if_pos c2]
          exact hnx _ ⟨rfl, fun h => by have := h3 h; omega⟩
end
