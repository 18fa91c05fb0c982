/-! OVER: the model's offers of one length. -/
def csR (K B : Int → Int) (n r : Int) (c p : Int → Int) (i len m : Int) : Int → Int → Int → Prop := fun a b z => 0 ≤ z ∧ z < m ∧ rwK (K z) 0 = r ∧ a = 1050 - 1000 * B z / rbK K B n z + c (i + len) ∧ b = 1 + p (i + len)
def orS (S T : Int → Int → Int → Prop) : Int → Int → Int → Prop := fun a b z => S a b z ∨ T a b z
theorem csR_s {K B c p : Int → Int} {n r i len m : Int} {S : Int → Int → Int → Prop} (hm : 0 ≤ m) (h : rwK (K m) 0 = r) : ∀ a b z, offS (orS S (csR K B n r c p i len m)) (1050 - 1000 * B m / rbK K B n m + c (i + len)) (1 + p (i + len)) m a b z ↔ orS S (csR K B n r c p i len (m + 1)) a b z := by
  intro a b z
  unfold offS orS csR
  constructor
  · rintro ((h1 | ⟨h1, h2, h3⟩) | ⟨rfl, rfl, rfl⟩)
    · exact Or.inl h1
    · exact Or.inr ⟨h1, by omega, h3⟩
    · exact Or.inr ⟨hm, by omega, h, rfl, rfl⟩
  · rintro (h1 | ⟨h1, h2, h3⟩)
    · exact Or.inl (Or.inl h1)
    · by_cases e : z = m
      · rw [e] at h3 ⊢
        exact Or.inr ⟨h3.2.1, h3.2.2, rfl⟩
      · exact Or.inl (Or.inr ⟨h1, by omega, h3⟩)
theorem csR_n {K B c p : Int → Int} {n r i len m : Int} {S : Int → Int → Int → Prop} (h : rwK (K m) 0 ≠ r) : ∀ a b z, orS S (csR K B n r c p i len m) a b z ↔ orS S (csR K B n r c p i len (m + 1)) a b z := by
  intro a b z
  unfold orS csR
  constructor
  · rintro (h1 | ⟨h1, h2, h3⟩)
    · exact Or.inl h1
    · exact Or.inr ⟨h1, by omega, h3⟩
  · rintro (h1 | ⟨h1, h2, h3⟩)
    · exact Or.inl h1
    · refine Or.inr ⟨h1, ?_, h3⟩
      by_cases e : z = m
      · rw [e] at h3
        exact absurd h3.1 h
      · omega
section
variable {P : zP} {d t : zD P} {F : Nat → Int} {K B : Int → Int} {n kind : Int}
theorem qM_fr {e : zD P} (h : qM t K B n) (h1 : e.m 132 = t.m 132) (h2 : e.m 153 = t.m 153) (h3 : e.m 154 = t.m 154) : qM e K B n := by
  obtain ⟨b1, b2, b3⟩ := h
  exact ⟨by rw [h1]; exact b1, by rw [h2]; exact b2, by rw [h3]; exact b3⟩
theorem n_len84 (hw : WF F) (h : qM t K B n) (hT : phT F kind K B n) {c p : Int → Int} {L i len r : Int} {S : Int → Int → Int → Prop} {Q : Int → zD P → Prop} (hL8 : L ≤ 8) (i0 : 0 ≤ i) (l1 : 1 ≤ len) (l3 : len ≤ 3) (hl : i + len ≤ L) (r0 : 0 ≤ r) (r1 : r < 68921) (hc : after c p i L (t.m 156) (t.m 157)) (hs : mst t i S) (hS : ∀ u v z, S u v z → (0 ≤ u ∧ u ≤ 1000000) ∧ (0 ≤ v ∧ v ≤ 90) ∧ 0 ≤ z ∧ z ≤ 9999) (hq : ∀ (s : zD P) (g3 g4 g5 : zV), mFr i t s → mst s i (orS S (csR K B n r c p i len n)) → Ok (m_putsOver_42 s i (len + 1) g3 g4 g5) Q) : Ok (m_putsOver_84 t i len r (rsK K B n r) 0) Q := by
  have n0 := hT.2.1
  have n1 := hT.1
  have sl := rsK_le hw hT (r := r)
  have bo := hc (i + len) (by omega) hl
  refine lpD (fun k s => m_putsOver_84 s i len r (rsK K B n r) k) (fun k s => mFr i t s ∧ mst s i (orS S (csR K B n r c p i len k))) 0 n n0 t ⟨mFr.rf, lst1_ext hs (fun a b z => ⟨fun x => Or.inl x, fun x => by rcases x with x | x; exact x; unfold csR at x; omega⟩)⟩ (fun s hi => ?_) (fun k s k0 k1 hi hnext => ?_)
  · have hs := qM_fr h (hi.1.1 132 (by omega)) (hi.1.1 153 (by omega)) (hi.1.1 154 (by omega))
    (try dsimp only)
    rw [m_putsOver_84_e, hs.1]
    simp (disch := omega) only [↓reduceIte, zinT, wr_id, wrl_id, ltT, ltF, leT, leF, eqT, eqF, ne_eq, not_true_eq_false, not_false_eq_true, Option.bind_some, Ok_some, bi_0, bi_n0, bi_01]
    exact hq s _ _ _ hi.1 hi.2
  · have hs := qM_fr h (hi.1.1 132 (by omega)) (hi.1.1 153 (by omega)) (hi.1.1 154 (by omega))
    have rk := rwK_le (s := 0) (h.2.1 k k0 k1).2.1 (h.2.1 k k0 k1).2.2
    (try dsimp only)
    rw [m_putsOver_84_e, hs.1, if_neg (by rw [wr_id (by omega), wr_id (by omega)]; omega)]
    by_cases z : rsK K B n r ≤ 0
    · rw [if_pos (by rw [wr_id (by omega)]; exact z)]
      refine hq s _ _ _ hi.1 (lst1_ext hi.2 (fun a b y => ?_))
      have no : ∀ j, 0 ≤ j → j < n → rwK (K j) 0 ≠ r := fun j j0 j1 e => by have := sl.2.2 j j0 j1 e; omega
      unfold orS csR
      constructor
      · rintro (h1 | ⟨h1, h2, h3⟩)
        · exact Or.inl h1
        · exact absurd h3.1 (no y h1 (by omega))
      · rintro (h1 | ⟨h1, h2, h3⟩)
        · exact Or.inl h1
        · exact absurd h3.1 (no y h1 h2)
    · rw [if_neg (by rw [wr_id (by omega)]; exact z), n_rowOf hs n1 k0 k1 (by omega) (by omega), Option.bind_some]
      (try dsimp only)
      rw [wr_id (x := rwK (K k) 0) (by omega), wr_id (x := r) (by omega)]
      by_cases e : rwK (K k) 0 = r
      · rw [if_neg (fun hh => hh e)]
        have eb : rsK K B n r = rbK K B n k := by rw [← e]; rfl
        have cl := cost_le hw hT k0 k1
        have o := hi.1.2 (i + len) (by omega) (by omega) (by omega)
        rw [eb, n_costOf hw hs hT k0 k1, Option.bind_some]
        (try dsimp only)
        have q1 : i + len ≤ 8 := by omega
        have q4 : 0 ≤ c (i + len) ∧ c (i + len) ≤ 900000 := ⟨bo.2.2.1.1, Int.le_trans bo.2.2.1.2 (by decide)⟩
        have q5 : 0 ≤ p (i + len) ∧ p (i + len) ≤ 80 := ⟨bo.2.2.2.1, Int.le_trans bo.2.2.2.2 (by decide)⟩
        have q6 : 0 ≤ 1050 - 1000 * B k / rbK K B n k ∧ 1050 - 1000 * B k / rbK K B n k ≤ 2000 := ⟨Int.le_trans (by decide) cl.1, Int.le_trans cl.2 (by decide)⟩
        have q7 : 0 ≤ k ∧ k ≤ 9999 := ⟨k0, by clear cl q6; omega⟩
        refine Ok_bind (n_offerS (a := k) (x := 1050 - 1000 * B k / rbK K B n k) (len := len) (c' := c (i + len)) (p' := p (i + len)) (S := orS S (csR K B n r c p i len k)) i0 l1 q1 hi.2 (fun u v y hy => ?_) (o.1.trans bo.1) (o.2.1.trans bo.2.1) q4 q5 q6 q7) (fun v s' f => ?_)
        · rcases hy with hy | ⟨y0, y1, y2, y3, y4⟩
          · exact hS u v y hy
          · have cy := cost_le hw hT y0 (Int.lt_trans y1 k1)
            exact ⟨⟨by rw [y3]; clear cl q6; omega, by rw [y3]; clear cl q6; omega⟩, ⟨by rw [y4]; clear cl q6 cy; omega, by rw [y4]; clear cl q6 cy; omega⟩, y0, by clear cl q6 cy; omega⟩
        · have hn := hnext s' ⟨hi.1.tr f.1, lst1_ext f.2 (csR_s k0 e)⟩
          rw [eb] at hn
          exact hn
      · rw [if_pos e]
        exact hnext _ ⟨hi.1, lst1_ext hi.2 (csR_n e)⟩
end
