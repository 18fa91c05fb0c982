/-! OVER: the class's choice at a place. -/
/-- what may be put at a place: phrases numbered below m that fit -/
def csP (K B : Int → Int) (n : Int) (W : Int → Int) (L : Int) (c p : Int → Int) (i m : Int) : Int → Int → Int → Prop := fun a b z => 0 ≤ z ∧ z < m ∧ fitW W L i (rwK (K z) 0) = true ∧ a = 1050 - 1000 * B z / rbK K B n z + c (i + wsK (rwK (K z) 0)) ∧ b = 1 + p (i + wsK (rwK (K z) 0))
def csA (K B : Int → Int) (n : Int) (W : Int → Int) (L : Int) (c p : Int → Int) (i : Int) : Int → Int → Int → Prop := offS (csP K B n W L c p i n) (2000 + c (i + 1)) (1 + p (i + 1)) 9999
theorem csP_s {K B W c p : Int → Int} {n L i m : Int} (hm : 0 ≤ m) (h : fitW W L i (rwK (K m) 0) = true) : ∀ a b z, offS (csP K B n W L c p i m) (1050 - 1000 * B m / rbK K B n m + c (i + wsK (rwK (K m) 0))) (1 + p (i + wsK (rwK (K m) 0))) m a b z ↔ csP K B n W L c p i (m + 1) a b z := by
  intro a b z
  unfold offS csP
  constructor
  · rintro (⟨h1, h2, h3⟩ | ⟨rfl, rfl, rfl⟩)
    · exact ⟨h1, by omega, h3⟩
    · exact ⟨hm, by omega, h, rfl, rfl⟩
  · rintro ⟨h1, h2, h3⟩
    by_cases e : z = m
    · rw [e] at h3 ⊢
      exact Or.inr ⟨h3.2.1, h3.2.2, rfl⟩
    · exact Or.inl ⟨h1, by omega, h3⟩
theorem csP_n {K B W c p : Int → Int} {n L i m : Int} (h : fitW W L i (rwK (K m) 0) = false) : ∀ a b z, csP K B n W L c p i m a b z ↔ csP K B n W L c p i (m + 1) a b z := by
  intro a b z
  unfold csP
  constructor
  · rintro ⟨h1, h2, h3⟩
    exact ⟨h1, by omega, h3⟩
  · rintro ⟨h1, h2, h3⟩
    refine ⟨h1, ?_, h3⟩
    by_cases e : z = m
    · rw [e, h] at h3
      exact absurd h3.1 (by decide)
    · omega
theorem wsK_le {r : Int} : 1 ≤ wsK r ∧ wsK r ≤ 3 := by
  unfold wsK
  split
  · split <;> omega
  · omega
theorem cost_le {F : Nat → Int} (hw : WF F) {kind n a : Int} {K B : Int → Int} (h : phT F kind K B n) (a0 : 0 ≤ a) (a1 : a < n) : 50 ≤ 1050 - 1000 * B a / rbK K B n a ∧ 1050 - 1000 * B a / rbK K B n a ≤ 1050 := by
  have le := phT_le hw h a0 a1
  have rl := rbK_le hw h a0 a1
  have x := Int.ediv_nonneg (a := 1000 * B a) (b := rbK K B n a) (by omega) (by omega)
  have y := Int.ediv_le_of_le_mul (a := 1000 * B a) (b := 1000) (c := rbK K B n a) (by omega) (by omega)
  omega
section
variable {P : zP} {t : zD P} {F : Nat → Int} {K B : Int → Int} {n kind : Int}
theorem k_offer0 {i a x len c' p' : Int} (i0 : 0 ≤ i) (l1 : 1 ≤ len) (l3 : i + len ≤ 8) (hk : t.m 129 (zix i) = -1) (hc' : t.m 127 (zix (i + len)) = c') (hp' : t.m 128 (zix (i + len)) = p') : pu_offer t i a x len = some (0, ((t.up 129 (zix i) a).up 127 (zix i) (x + c')).up 128 (zix i) (1 + p')) := by
  rw [pu_offer_e]
  simp (disch := omega) only [↓reduceIte, zinT, wr_id, wrl_id, ltT, ltF, leT, leF, eqT, eqF, ne_eq, not_true_eq_false, not_false_eq_true, Option.bind_some, Ok_some, bi_0, bi_n0, bi_01, hk, hc', hp']
end
