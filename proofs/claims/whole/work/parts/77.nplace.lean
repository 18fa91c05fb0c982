/-! OVER: the model's offers of all lengths. -/
def csL (K B : Int → Int) (n : Int) (W : Int → Int) (L : Int) (c p : Int → Int) (i m : Int) : Int → Int → Int → Prop := fun a b z => csP K B n W L c p i n a b z ∧ wsK (rwK (K z) 0) ≤ m
theorem csL_s {K B W c p : Int → Int} {n L i len x y : Int} (hW : ∀ k, 0 ≤ k → k < L → 0 ≤ W k ∧ W k < 40) (i0 : 0 ≤ i) (l1 : 1 ≤ len) (l3 : len ≤ 3) (hl : i + len ≤ L) : ∀ a b z, orS (offS (csL K B n W L c p i (len - 1)) x y 9999) (csR K B n (rwW W i len) c p i len n) a b z ↔ offS (csL K B n W L c p i len) x y 9999 a b z := by
  have r := rwW_le hW i0 l1 l3 hl
  intro a b z
  unfold orS offS csL csR csP
  constructor
  · rintro ((⟨h, h2⟩ | h) | ⟨z0, z1, h1, h2, h3⟩)
    · exact Or.inl ⟨h, by omega⟩
    · exact Or.inr h
    · have e : wsK (rwK (K z) 0) = len := by rw [h1]; exact r.2.2
      refine Or.inl ⟨⟨z0, z1, ?_, ?_, ?_⟩, by omega⟩
      · unfold fitW
        rw [e]
        exact decide_eq_true ⟨hl, h1⟩
      · rw [e]; exact h2
      · rw [e]; exact h3
  · rintro (⟨h, h2⟩ | h)
    · by_cases e : wsK (rwK (K z) 0) = len
      · obtain ⟨z0, z1, g, ha, hb⟩ := h
        unfold fitW at g
        rw [e] at g ha hb
        exact Or.inr ⟨z0, z1, (of_decide_eq_true g).2, ha, hb⟩
      · exact Or.inl (Or.inl ⟨h, by omega⟩)
    · exact Or.inl (Or.inr h)
theorem csL_e {K B W c p : Int → Int} {n L i m x y : Int} (h : ∀ len, m < len → len ≤ 3 → ¬ i + len ≤ L) : ∀ a b z, offS (csL K B n W L c p i m) x y 9999 a b z ↔ offS (csP K B n W L c p i n) x y 9999 a b z := by
  intro a b z
  unfold offS csL
  constructor
  · rintro (⟨h1, h2⟩ | h1)
    · exact Or.inl h1
    · exact Or.inr h1
  · rintro (h1 | h1)
    · refine Or.inl ⟨h1, ?_⟩
      have f := fitW_le h1.2.2.1
      have w := wsK_le (r := rwK (K z) 0)
      by_cases q : wsK (rwK (K z) 0) ≤ m
      · exact q
      · exact absurd f (h _ (by omega) w.2)
    · exact Or.inr h1
theorem csL_0 {K B W c p : Int → Int} {n L i x y : Int} : ∀ a b z, offS (fun _ _ _ => False) x y 9999 a b z ↔ offS (csL K B n W L c p i 0) x y 9999 a b z := by
  intro a b z
  unfold offS csL
  constructor
  · rintro (h1 | h1)
    · exact absurd h1 id
    · exact Or.inr h1
  · rintro (⟨h1, h2⟩ | h1)
    · have w := wsK_le (r := rwK (K z) 0)
      omega
    · exact Or.inr h1
section
variable {P : zP} {d t : zD P} {F : Nat → Int} {K B : Int → Int} {n kind : Int}
def oQ (t : zD P) (K B : Int → Int) (n : Int) (W : Int → Int) (L : Int) : Prop := qM t K B n ∧ t.m 132 35 = L ∧ ∀ k, 0 ≤ k → k < L → t.m 155 (zix k) = W k ∧ 0 ≤ W k ∧ W k < 40
theorem oQ.fr {s : zD P} {W : Int → Int} {L : Int} (h : oQ t K B n W L) (f : Fr 156 159 t s) : oQ s K B n W L := ⟨qM_fr h.1 (f 132 (by omega)) (f 153 (by omega)) (f 154 (by omega)), by rw [f 132 (by omega)]; exact h.2.1, by rw [f 155 (by omega)]; exact h.2.2⟩
theorem after.fr {s : zD P} {c p : Int → Int} {i L : Int} (h : after c p i L (t.m 156) (t.m 157)) (i0 : 0 ≤ i) (hL8 : L ≤ 8) (f : mFr i t s) : after c p i L (s.m 156) (s.m 157) := fun j j0 j1 => by
  have a := h j j0 j1
  have b := f.2 j (by omega) (by omega) (by omega)
  exact ⟨b.1.trans a.1, b.2.1.trans a.2.1, a.2.2⟩
theorem n_42 (hw : WF F) (hT : phT F kind K B n) {W c p : Int → Int} {L i : Int} {Q : Int → zD P → Prop} (hL8 : L ≤ 8) (i0 : 0 ≤ i) (i1 : i < L) : ∀ (m : Nat) (len : Int) (t : zD P) (g3 g4 g5 : zV), 1 ≤ len → len + m = 4 → oQ t K B n W L → after c p i L (t.m 156) (t.m 157) → mst t i (offS (csL K B n W L c p i (len - 1)) (2000 + c (i + 1)) (1 + p (i + 1)) 9999) → (∀ (s : zD P) (g2 g3 g4 g5 : zV), mFr i t s → mst s i (csA K B n W L c p i) → Ok (m_putsOver_17 s (i + (-1)) g2 g3 g4 g5) Q) → Ok (m_putsOver_42 t i len g3 g4 g5) Q
  | 0, len, t, g3, g4, g5, l1, l4, ho, hc, hs, hq => by
    rw [m_putsOver_42_e]
    simp (disch := omega) only [↓reduceIte, zinT, wr_id, wrl_id, ltT, ltF, leT, leF, eqT, eqF, ne_eq, not_true_eq_false, not_false_eq_true, Option.bind_some, Ok_some, bi_0, bi_n0, bi_01]
    exact hq _ _ _ _ _ mFr.rf (lst1_ext hs (csL_e (fun x x0 x1 => by omega)))
  | m + 1, len, t, g3, g4, g5, l1, l4, ho, hc, hs, hq => by
    have l3 : len ≤ 3 := by omega
    rw [m_putsOver_42_e, ho.2.1]
    by_cases hl : i + len ≤ L
    · simp (disch := omega) only [↓reduceIte, zinT, wr_id, wrl_id, ltT, ltF, leT, leF, eqT, eqF, ne_eq, not_true_eq_false, not_false_eq_true, Option.bind_some, Ok_some, bi_0, bi_n0, bi_01]
      rw [n_row55 hw ho.1 hT hL8 ho.2.2 i0 l1 l3 hl]
      have r := rwW_le (W := W) (fun k k0 k1 => (ho.2.2 k k0 k1).2) i0 l1 l3 hl
      refine n_len84 hw ho.1 hT hL8 i0 l1 l3 hl r.1 r.2.1 hc hs (fun u v z hz => ?_) (fun s g3 g4 g5 hf hm => ?_)
      · rcases hz with hz | ⟨rfl, rfl, rfl⟩
        · have := csP_le hw hT hc (Int.le_refl _) hz.1
          have := hT.1
          omega
        · have := hc (i + 1) (by omega) (by omega)
          omega
      · refine n_42 hw hT hL8 i0 i1 m (len + 1) s g3 g4 g5 (by omega) (by omega) (ho.fr hf.1) (hc.fr i0 hL8 hf) ?_ (fun s' g2 g3 g4 g5 hf' hm' => hq s' g2 g3 g4 g5 (hf.tr hf') hm')
        rw [show len + 1 - 1 = len by omega]
        exact lst1_ext hm (csL_s (fun k k0 k1 => (ho.2.2 k k0 k1).2) i0 l1 l3 hl)
    · simp (disch := omega) only [↓reduceIte, zinT, wr_id, wrl_id, ltT, ltF, leT, leF, eqT, eqF, ne_eq, not_true_eq_false, not_false_eq_true, Option.bind_some, Ok_some, bi_0, bi_n0, bi_01]
      exact hq _ _ _ _ _ mFr.rf (lst1_ext hs (csL_e (fun x x0 x1 => by omega)))
theorem n_place (hw : WF F) (hT : phT F kind K B n) {W c p : Int → Int} {L i : Int} {Q : Int → zD P → Prop} {g2 g3 g4 g5 : zV} (hL8 : L ≤ 8) (i0 : 0 ≤ i) (i1 : i < L) (ho : oQ t K B n W L) (hc : after c p i L (t.m 156) (t.m 157)) (hq : ∀ (s : zD P) (g2 g3 g4 g5 : zV), mFr i t s → mst s i (csA K B n W L c p i) → Ok (m_putsOver_17 s (i + (-1)) g2 g3 g4 g5) Q) : Ok (m_putsOver_17 t i g2 g3 g4 g5) Q := by
  rw [m_putsOver_17_e]
  simp (disch := omega) only [↓reduceIte, zinT, wr_id, wrl_id, ltT, ltF, leT, leF, eqT, eqF, ne_eq, not_true_eq_false, not_false_eq_true, Option.bind_some, Ok_some, bi_0, bi_n0, bi_01]
  have cp := mput (t := t) (i := i) (x := 1000000000) (y := 0) (a := 9999) i0 (by omega)
  generalize (((t.up 156 (zix i) 1000000000).up 157 (zix i) 0).up 158 (zix i) 9999) = u at cp ⊢
  have hu := hc.fr i0 hL8 cp.1
  have a := hu (i + 1) (by omega) (by omega)
  refine Ok_bind (n_offer1 (len := 1) i0 (by omega) (by omega) cp.2.1 cp.2.2.1 cp.2.2.2 a.1 a.2.1 (by omega) (by omega) (by omega) (by omega)) (fun v s f => ?_)
  exact n_42 hw hT hL8 i0 i1 3 1 s _ _ _ (by omega) (by omega) (ho.fr (cp.1.tr f.1).1) (hu.fr i0 hL8 f.1) (lst1_ext f.2 csL_0) (fun s' g2 g3 g4 g5 hf hm => hq s' g2 g3 g4 g5 ((cp.1.tr f.1).tr hf) hm)
end
