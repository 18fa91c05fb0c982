/-! OVER: the class walks. -/
section
variable {P : zP} {d t : zD P} {F : Nat → Int} {K B : Int → Int} {n kind : Int}
theorem k_bring {s : zD P} {m v : Int} (hm : s.m 125 8 = m) (m0 : 0 ≤ m) (m1 : m < 24) : pu_bring s v = some (0, (s.up 131 (zix m) v).up 125 8 (m + 1)) := by
  rw [pu_bring_e]
  simp (disch := omega) only [↓reduceIte, zinT, wr_id, wrl_id, ltT, ltF, leT, leF, eqT, eqF, ne_eq, not_true_eq_false, not_false_eq_true, Option.bind_some, Ok_some, bi_0, bi_n0, bi_01, hm, up_ne]
/-- walked so many pieces, and so many words of the next one -/
def wkI (K k : Int → Int) (s : zD P) (j y : Int) : Prop := s.m 125 8 = ciO K k j + y ∧ (∀ x z, 0 ≤ x → x < j → 0 ≤ z → z < wl1 K (k (psO K k x)) → s.m 131 (zix (ciO K k x + z)) = wdO K (k (psO K k x)) z) ∧ ∀ z, 0 ≤ z → z < y → s.m 131 (zix (ciO K k j + z)) = wdO K (k (psO K k j)) z
theorem wkI_s {k : Int → Int} {s : zD P} {j y : Int} (h : wkI K k s j y) (j0 : 0 ≤ j) (j8 : j < 8) (y0 : 0 ≤ y) (y3 : y < 3) (r : Int) (hr : r = wdO K (k (psO K k j)) y) : wkI K k ((s.up 131 (zix (ciO K k j + y)) r).up 125 8 (ciO K k j + y + 1)) j (y + 1) := by
  have cl := ciO_le (K := K) (k := k) j0
  refine ⟨by rw [u_125_8, zfu_n, if_pos rfl]; omega, fun x z x0 x1 z0 z1 => ?_, fun z z0 z1 => ?_⟩
  · have l := ciO_lt (K := K) (k := k) x0 x1
    have cx := ciO_le (K := K) (k := k) x0
    rw [up_ne (by decide), u_131, zfu_z (by omega), if_neg (by omega)]
    exact h.2.1 x z x0 x1 z0 z1
  · rw [up_ne (by decide), u_131, zfu_z (by omega)]
    by_cases e : z = y
    · rw [if_pos (by omega), e, hr]
    · rw [if_neg (by omega)]
      exact h.2.2 z z0 (by omega)
theorem wkI_n {k : Int → Int} {s : zD P} {j : Int} (h : wkI K k s j (wl1 K (k (psO K k j)))) (j0 : 0 ≤ j) : wkI K k s (j + 1) 0 := by
  refine ⟨by rw [ciO_s j0]; have := h.1; omega, fun x z x0 x1 z0 z1 => ?_, fun z z0 z1 => by omega⟩
  by_cases e : x = j
  · rw [e] at z1 ⊢
    exact h.2.2 z z0 z1
  · exact h.2.1 x z x0 (by omega) z0 z1
/-- what the walk leaves as it is -/
def wkF (t s : zD P) : Prop := (∀ r, r ≠ 125 → r ≠ 130 → r ≠ 131 → s.m r = t.m r) ∧ s.m 125 6 = t.m 125 6
theorem wkF.tr {a b c : zD P} (h : wkF a b) (h2 : wkF b c) : wkF a c := ⟨fun r r1 r2 r3 => (h2.1 r r1 r2 r3).trans (h.1 r r1 r2 r3), h2.2.trans h.2⟩
theorem wkF.pm {s : zD P} (h : wkF t s) (hp : pM t K B n) : pM s K B n := pM_fr hp (h.1 122 (by decide) (by decide) (by decide)) (h.1 123 (by decide) (by decide) (by decide)) (h.1 124 (by decide) (by decide) (by decide))
theorem wkF_br {s : zD P} {a b x y : Int} : wkF s ((s.up 131 (zix a) x).up 125 8 y) := ⟨fun r r1 r2 r3 => by rw [up_ne r1, up_ne r3], by rw [u_125_8, zfu_n, if_neg (by decide), up_ne (by decide)]⟩
/-- walked so many pieces -/
def wkJ (K k : Int → Int) (t s : zD P) (j y m : Int) : Prop := wkF t s ∧ wkI K k s j y ∧ s.m 125 7 = m ∧ ∀ x, 0 ≤ x → x < m → s.m 130 (zix x) = k (psO K k x)
theorem k_walk43 (hw : WF F) (hp : pM t K B n) (hT : phT F kind K B n) {k : Int → Int} {s : zD P} {j a : Int} {Q : Int → zD P → Prop} (h : wkJ K k t s j 0 (j + 1)) (j0 : 0 ≤ j) (j8 : j < 8) (hk : 0 ≤ k (psO K k j)) (hk1 : k (psO K k j) < n) (hq : ∀ (s : zD P) (g g' : zV), wkJ K k t s (j + 1) 0 (j + 1) → Ok (pu_walk_10 s (a + wl0 K (k (psO K k j))) (j + 1) g g') Q) : Ok (pu_walk_43 s a j (k (psO K k j)) 0) Q := by
  have hn := hT.1
  have w1 := wl1_le (K := K) (z := k (psO K k j))
  have e0 : wl0 K (k (psO K k j)) = wsK (rwK (K (k (psO K k j))) 0) := by unfold wl0; rw [if_neg (by omega)]
  have e1 : wl1 K (k (psO K k j)) = wsK (rwK (K (k (psO K k j))) 1) := by unfold wl1; rw [if_neg (by omega)]
  refine lpD (fun y s => pu_walk_43 s a j (k (psO K k j)) y) (fun y s => wkJ K k t s j y (j + 1)) 0 (wl1 K (k (psO K k j))) (by omega) s h (fun s hi => ?_) (fun y s y0 y1 hi hnext => ?_)
  · have ps := hi.1.pm hp
    (try dsimp only)
    rw [pu_walk_43_e, k_wordsOf hw ps hT hk hk1 (by omega) (by omega), ← e1]
    simp (disch := omega) only [↓reduceIte, zinT, wr_id, wrl_id, ltT, ltF, leT, leF, eqT, eqF, ne_eq, not_true_eq_false, not_false_eq_true, Option.bind_some, Ok_some, bi_0, bi_n0, bi_01, k_wordsOf hw ps hT hk hk1 (s := 0) (by omega) (by omega)]
    rw [← e0]
    exact hq s _ _ ⟨hi.1, wkI_n hi.2.1 j0, hi.2.2⟩
  · have ps := hi.1.pm hp
    have cl := ciO_le (K := K) (k := k) j0
    (try dsimp only)
    rw [pu_walk_43_e, k_wordsOf hw ps hT hk hk1 (by omega) (by omega), ← e1]
    simp (disch := omega) only [↓reduceIte, zinT, wr_id, wrl_id, ltT, ltF, leT, leF, eqT, eqF, ne_eq, not_true_eq_false, not_false_eq_true, Option.bind_some, Ok_some, bi_0, bi_n0, bi_01, k_wordOf ps hn hk hk1 (s := 1) (i := y) (by omega) (by omega) y0 (by omega), k_bring hi.2.1.1 (by omega) (by omega)]
    refine hnext _ ⟨hi.1.tr (wkF_br (b := 0)), wkI_s hi.2.1 j0 j8 y0 (by omega) _ ?_, ?_, fun x x0 x1 => ?_⟩
    · unfold wdO
      rw [if_neg (by omega)]
    · rw [u_125_8, zfu_n, if_neg (by decide), up_ne (by decide)]
      exact hi.2.2.1
    · rw [up_ne (by decide), up_ne (by decide)]
      exact hi.2.2.2 x x0 x1
theorem k_walk (hw : WF F) (hT : phT F kind K B n) {W : Int → Int} {L : Int} (hL0 : 0 ≤ L) (hL8 : L ≤ 8) (hp : oP t K B n W L) (ho : oK t K B n W L (-1)) : Ok (pu_walk t) (fun _ s => wkJ K (fun j => t.m 129 (zix j)) t s (t.m 128 (zix 0)) 0 (t.m 128 (zix 0))) := by
  obtain ⟨hT1, hT2⟩ := ho
  have hn := hT.1
  have p0 := hT2 0 (by omega) hL0
  (try dsimp only at p0)
  generalize hN : t.m 128 (zix 0) = N at *
  generalize hk : (fun j => t.m 129 (zix j)) = k at *
  have kj : ∀ j, t.m 129 (zix j) = k j := fun j => by rw [← hk]
  rw [pu_walk_e]
  have ini : wkJ K k t ((t.up 125 7 0).up 125 8 0) 0 0 0 := by
    refine ⟨⟨fun r r1 r2 r3 => by rw [up_ne r1, up_ne r1], ?_⟩, ⟨?_, fun x z x0 x1 => by omega, fun z z0 z1 => by omega⟩, ?_, fun x x0 x1 => by omega⟩
    · rw [u_125_8, zfu_n, if_neg (by decide), u_125_7, zfu_n, if_neg (by decide)]
    · rw [u_125_8, zfu_n, if_pos rfl]; rfl
    · rw [u_125_8, zfu_n, if_neg (by decide), u_125_7, zfu_n, if_pos rfl]
  refine lpM (fun j s (y : Int × zV × zV) => pu_walk_10 s y.1 j y.2.1 y.2.2) (fun j s y => wkJ K k t s j 0 j ∧ y.1 = psO K k j) 0 N (by omega) _ (0, (3, 0), (3, 0)) ⟨ini, rfl⟩ (fun s y hi => ?_) (fun j s y j0 j1 hi hnext => ?_)
  · obtain ⟨at_, g4, g5⟩ := y
    obtain ⟨hi, ha⟩ := hi
    (try dsimp only at ha ⊢)
    have o := oT_p hn hL0 hT1 hT2 (j := N) (by omega) (by (try dsimp only); omega)
    (try dsimp only at o)
    have eL : psO K k N = L := by
      by_cases q : psO K k N < L
      · have := (oT_k hn hT1 o.1 q).2.1
        have w := wl0_le (K := K) (z := k (psO K k N))
        have := (oT_k hn hT1 o.1 q).1
        have := hT2 (psO K k N + wl0 K (k (psO K k N))) (by omega) (by omega)
        (try dsimp only at *)
        omega
      · omega
    rw [pu_walk_10_e]
    by_cases c : 8 ≤ N
    · simp (disch := omega) only [↓reduceIte, zinT, wr_id, wrl_id, ltT, ltF, leT, leF, eqT, eqF, ne_eq, not_true_eq_false, not_false_eq_true, Option.bind_some, Ok_some, bi_0, bi_n0, bi_01]
      exact hi
    · simp (disch := omega) only [↓reduceIte, zinT, wr_id, wrl_id, ltT, ltF, leT, leF, eqT, eqF, ne_eq, not_true_eq_false, not_false_eq_true, Option.bind_some, Ok_some, bi_0, bi_n0, bi_01, hi.1.2, hp.2.1, ha, eL]
      exact hi
  · obtain ⟨at_, g4, g5⟩ := y
    obtain ⟨hi, ha⟩ := hi
    (try dsimp only at ha ⊢)
    have o := oT_p hn hL0 hT1 hT2 (j := j) (by omega) (by (try dsimp only); omega)
    (try dsimp only at o)
    have lt : psO K k j < L := by
      by_cases q : psO K k j = L
      · have := hT1.2.1
        (try dsimp only at this)
        rw [q, this] at o
        omega
      · omega
    have kk := (oT_k hn hT1 o.1 lt).2.2
    have e129 : s.m 129 = t.m 129 := hi.1.1 129 (by decide) (by decide) (by decide)
    have k9 : k (psO K k j) ≤ 9999 ∧ 0 ≤ k (psO K k j) := by omega
    rw [pu_walk_10_e, ha]
    simp (disch := omega) only [↓reduceIte, zinT, wr_id, wrl_id, ltT, ltF, leT, leF, eqT, eqF, ne_eq, not_true_eq_false, not_false_eq_true, Option.bind_some, Ok_some, bi_0, bi_n0, bi_01, hi.1.2, hp.2.1, e129, kj, u_130, up_ne, hi.2.2.1]
    have st : wkJ K k t ((s.up 130 (zix j) (k (psO K k j))).up 125 7 (j + 1)) j 0 (j + 1) := by
      refine ⟨⟨fun r r1 r2 r3 => by rw [up_ne r1, up_ne r2]; exact hi.1.1 r r1 r2 r3, ?_⟩, ⟨?_, fun x z x0 x1 z0 z1 => ?_, fun z z0 z1 => by omega⟩, ?_, fun x x0 x1 => ?_⟩
      · rw [u_125_7, zfu_n, if_neg (by decide), up_ne (by decide)]; exact hi.1.2
      · rw [u_125_7, zfu_n, if_neg (by decide), up_ne (by decide)]; exact hi.2.1.1
      · rw [up_ne (by decide), up_ne (by decide)]; exact hi.2.1.2.1 x z x0 x1 z0 z1
      · rw [u_125_7, zfu_n, if_pos rfl]
      · rw [up_ne (by decide), u_130, zfu_z (by omega)]
        split
        · rename_i e; rw [e]
        · exact hi.2.2.2 x x0 (by omega)
    generalize (s.up 130 (zix j) (k (psO K k j))).up 125 7 (j + 1) = u at st ⊢
    by_cases q : k (psO K k j) = 9999
    · have cl := ciO_le (K := K) (k := k) j0
      have b := k_bring (v := -3) st.2.1.1 (by omega) (by omega)
      rw [if_neg (fun hh => hh q), b, Option.bind_some]
      (try dsimp only)
      have s1 := wkI_s st.2.1 j0 (by omega) (by omega) (by omega) (-3) (by unfold wdO; rw [if_pos q])
      have w0 : wl0 K (k (psO K k j)) = 1 := by unfold wl0; rw [if_pos q]
      have w1 : wl1 K (k (psO K k j)) = 1 := by unfold wl1; rw [if_pos q]
      refine hnext _ (_, _, _) ⟨⟨st.1.tr (wkF_br (b := 0)), wkI_n (by rw [w1]; exact s1) j0, ?_, fun x x0 x1 => ?_⟩, ?_⟩
      · rw [u_125_8, zfu_n, if_neg (by decide), up_ne (by decide)]; exact st.2.2.1
      · rw [up_ne (by decide), up_ne (by decide)]; exact st.2.2.2 x x0 x1
      · rw [psO_s j0, w0]
    · rw [if_pos q]
      exact k_walk43 hw hp.1 hT st j0 (by omega) k9.2 (by omega) (fun s g g' hh => hnext _ (_, _, _) ⟨hh, by rw [psO_s j0]⟩)
end
