/-! OVER: the class's choice at a place: the least of all that may be put. -/
section
variable {P : zP} {d t : zD P} {F : Nat → Int} {K B : Int → Int} {n kind : Int}
theorem pM_fr {e : zD P} (h : pM t K B n) (h1 : e.m 122 = t.m 122) (h2 : e.m 123 = t.m 123) (h3 : e.m 124 = t.m 124) : pM e K B n := by
  obtain ⟨b1, b2, b3⟩ := h
  exact ⟨by rw [h1]; exact b1, by rw [h2]; exact b2, by rw [h3]; exact b3⟩
theorem fitW_le {W : Int → Int} {L i r : Int} (h : fitW W L i r = true) : i + wsK r ≤ L := by
  unfold fitW at h
  exact (of_decide_eq_true h).1
/-- what stands at the later places -/
def after (c p : Int → Int) (i L : Int) (x y : Nat → Int) : Prop := ∀ j, i < j → j ≤ L → x (zix j) = c j ∧ y (zix j) = p j ∧ (0 ≤ c j ∧ c j ≤ 100000) ∧ 0 ≤ p j ∧ p j ≤ 70
theorem csP_le {F : Nat → Int} (hw : WF F) {kind : Int} (hT : phT F kind K B n) {W c p : Int → Int} {L i m : Int} {x y : Nat → Int} (hc : after c p i L x y) (hm : m ≤ n) {u v z : Int} (h : csP K B n W L c p i m u v z) : (0 ≤ u ∧ u ≤ 1000000) ∧ (0 ≤ v ∧ v ≤ 90) ∧ 0 ≤ z ∧ z < m := by
  obtain ⟨h1, h2, h3, h4, h5⟩ := h
  have f := fitW_le h3
  have w := wsK_le (r := rwK (K z) 0)
  have cl := cost_le hw hT h1 (by omega : z < n)
  have a := hc (i + wsK (rwK (K z) 0)) (by omega) f
  omega
theorem k_choose (hw : WF F) (h : pM d K B n) (hT : phT F kind K B n) {W c p : Int → Int} {L i : Int} (hL : d.m 125 6 = L) (hL8 : L ≤ 8) (hW : ∀ k, 0 ≤ k → k < L → d.m 126 (zix k) = W k ∧ 0 ≤ W k ∧ W k < 40) (i0 : 0 ≤ i) (i1 : i < L) (hc : after c p i L (d.m 127) (d.m 128)) : Ok (pu_choose d i) (fun _ t => cFr i d t ∧ lst1 (csA K B n W L c p i) (t.m 127 (zix i)) (t.m 128 (zix i)) (t.m 129 (zix i))) := by
  have n0 := hT.2.1
  have n1 := hT.1
  have later : ∀ s, cFr i d s → ∀ j, i < j → j ≤ L → s.m 127 (zix j) = c j ∧ s.m 128 (zix j) = p j := fun s hs j j0 j1 => by
    have a := hc j j0 j1
    have b := hs.2 j (by omega) (by omega) (by omega)
    exact ⟨b.1.trans a.1, b.2.1.trans a.2.1⟩
  rw [pu_choose_e]
  simp (disch := omega) only [↓reduceIte, zinT, wr_id, wrl_id, ltT, ltF, leT, leF, eqT, eqF, ne_eq, not_true_eq_false, not_false_eq_true, Option.bind_some, Ok_some, bi_0, bi_n0, bi_01]
  refine lpD (fun k s => pu_choose_7 s i k) (fun k s => cFr i d s ∧ stands s i (csP K B n W L c p i k)) 0 n n0 _ ⟨⟨Fr.rf.up (by omega) (by omega), fun j j0 j1 j2 => ?_⟩, Or.inl ⟨?_, fun a b z hs => by unfold csP at hs; omega⟩⟩ (fun s hi => ?_) (fun k s k0 k1 hi hnext => ?_)
  · rw [up_ne (by decide), up_ne (by decide), u_129, zfu_z (by omega), if_neg j2]
    exact ⟨rfl, rfl, rfl⟩
  · rw [u_129, zfu_z (by omega), if_pos rfl]
  · have hs := pM_fr h (hi.1.1 122 (by omega)) (hi.1.1 123 (by omega)) (hi.1.1 124 (by omega))
    have la := later s hi.1 (i + 1) (by omega) (by omega)
    have bo := hc (i + 1) (by omega) (by omega)
    (try dsimp only)
    rw [pu_choose_7_e, hs.1]
    simp (disch := omega) only [↓reduceIte, zinT, wr_id, wrl_id, ltT, ltF, leT, leF, eqT, eqF, ne_eq, not_true_eq_false, not_false_eq_true, Option.bind_some, Ok_some, bi_0, bi_n0, bi_01]
    refine Ok_bind (k_offerS (a := 9999) (x := 2000) (len := 1) i0 (by omega) (by omega) hi.2 (fun u v z hz => ?_) la.1 la.2 (by omega) (by omega) (by omega) (by omega)) (fun v t f => Ok_ret ⟨hi.1.tr f.1, f.2⟩)
    have := csP_le hw hT hc (Int.le_refl _) hz
    omega
  · have hs := pM_fr h (hi.1.1 122 (by omega)) (hi.1.1 123 (by omega)) (hi.1.1 124 (by omega))
    have e125 := hi.1.1 125 (by omega)
    have e126 := hi.1.1 126 (by omega)
    have kf := k_fits hw hs hT (W := W) (L := L) k0 k1 (by rw [e125]; exact hL) hL8 (fun j j0 j1 => by rw [e126]; exact hW j j0 j1) i0 i1
    (try dsimp only)
    rw [pu_choose_7_e, hs.1, kf]
    simp (disch := omega) only [↓reduceIte, zinT, wr_id, wrl_id, ltT, ltF, leT, leF, eqT, eqF, ne_eq, not_true_eq_false, not_false_eq_true, Option.bind_some, Ok_some, bi_0, bi_n0, bi_01]
    cases hb : fitW W L i (rwK (K k) 0)
    · rw [if_pos rfl]
      refine hnext _ ⟨hi.1, ?_⟩
      rcases hi.2 with ⟨g, hn⟩ | g
      · exact Or.inl ⟨g, fun a b z hz => hn a b z ((csP_n hb a b z).mpr hz)⟩
      · exact Or.inr (lst1_ext g (csP_n hb))
    · have f := fitW_le hb
      have w := wsK_le (r := rwK (K k) 0)
      have cl := cost_le hw hT k0 k1
      have la := later s hi.1 (i + wsK (rwK (K k) 0)) (by omega) f
      have bo := hc (i + wsK (rwK (K k) 0)) (by omega) f
      rw [if_neg (by decide), k_costOf hw hs hT k0 k1, Option.bind_some]
      (try dsimp only)
      rw [k_wordsOf hw hs hT k0 k1 (by omega) (by omega), Option.bind_some]
      (try dsimp only)
      refine Ok_bind (k_offerS (a := k) (x := 1050 - 1000 * B k / rbK K B n k) (len := wsK (rwK (K k) 0)) i0 (by omega) (by omega) hi.2 (fun u v z hz => csP_le hw hT hc (by omega) hz) la.1 la.2 (by omega) (by omega) (by omega) (by omega)) (fun v t f => ?_)
      exact hnext _ ⟨hi.1.tr f.1, Or.inr (lst1_ext f.2 (csP_s k0 hb))⟩
end
