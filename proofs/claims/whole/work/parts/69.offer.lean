/-! OVER: the least of cost, pieces and piece. -/
def lx (c p k c' p' k' : Int) : Prop := c < c' ∨ (c = c' ∧ (p < p' ∨ (p = p' ∧ k ≤ k')))
theorem lx_rf {c p k : Int} : lx c p k c p k := by unfold lx; omega
theorem lx_tr {a b c x y z u v w : Int} (h : lx a b c x y z) (h2 : lx x y z u v w) : lx a b c u v w := by unfold lx at *; omega
theorem lx_as {a b c x y z : Int} (h : lx a b c x y z) (h2 : lx x y z a b c) : a = x ∧ b = y ∧ c = z := by unfold lx at *; omega
theorem lx_to {a b c x y z : Int} (h : ¬ lx a b c x y z) : lx x y z a b c := by unfold lx at *; omega
/-- the least of what was offered -/
def lst1 (S : Int → Int → Int → Prop) (c p k : Int) : Prop := S c p k ∧ ∀ x y z, S x y z → lx c p k x y z
theorem lst1_uni {S : Int → Int → Int → Prop} {c p k c' p' k' : Int} (h : lst1 S c p k) (h' : lst1 S c' p' k') : c = c' ∧ p = p' ∧ k = k' := lx_as (h.2 _ _ _ h'.1) (h'.2 _ _ _ h.1)
def offS (S : Int → Int → Int → Prop) (x y z : Int) : Int → Int → Int → Prop := fun a b c => S a b c ∨ (a = x ∧ b = y ∧ c = z)
theorem lst1_new {S : Int → Int → Int → Prop} {c p k x y z : Int} (h : lst1 S c p k) (hl : lx x y z c p k) : lst1 (offS S x y z) x y z := ⟨Or.inr ⟨rfl, rfl, rfl⟩, fun a b e hs => by
  rcases hs with hs | ⟨rfl, rfl, rfl⟩
  · exact lx_tr hl (h.2 _ _ _ hs)
  · exact lx_rf⟩
theorem lst1_old {S : Int → Int → Int → Prop} {c p k x y z : Int} (h : lst1 S c p k) (hl : lx c p k x y z) : lst1 (offS S x y z) c p k := ⟨Or.inl h.1, fun a b e hs => by
  rcases hs with hs | ⟨rfl, rfl, rfl⟩
  · exact h.2 _ _ _ hs
  · exact hl⟩
theorem lst1_ext {S T : Int → Int → Int → Prop} {c p k : Int} (h : lst1 S c p k) (e : ∀ a b c, S a b c ↔ T a b c) : lst1 T c p k := ⟨(e _ _ _).mp h.1, fun a b c hs => h.2 _ _ _ ((e _ _ _).mpr hs)⟩
section
variable {P : zP} {t : zD P}
theorem n_offers {i a x len c p k c' p' : Int} (i0 : 0 ≤ i) (l1 : 1 ≤ len) (l3 : i + len ≤ 8) (hc : t.m 156 (zix i) = c) (hp : t.m 157 (zix i) = p) (hk : t.m 158 (zix i) = k) (hc' : t.m 156 (zix (i + len)) = c') (hp' : t.m 157 (zix (i + len)) = p') (b1 : 0 ≤ c ∧ c ≤ 1000000000) (b2 : 0 ≤ p ∧ p ≤ 100) (b3 : 0 ≤ k ∧ k ≤ 9999) (b4 : 0 ≤ c' ∧ c' ≤ 1000000) (b5 : 0 ≤ p' ∧ p' ≤ 90) (b6 : 0 ≤ x ∧ x ≤ 2000) (b7 : 0 ≤ a ∧ a ≤ 9999) : Ok (m_offers t i a x len) (fun _ t' => (lx (x + c') (1 + p') a c p k → t' = ((t.up 156 (zix i) (x + c')).up 157 (zix i) (1 + p')).up 158 (zix i) a) ∧ (¬ lx (x + c') (1 + p') a c p k → t' = t)) := by
  rw [m_offers_e]
  simp (disch := omega) only [↓reduceIte, zinT, wr_id, wrl_id, ltT, ltF, leT, leF, eqT, eqF, ne_eq, not_true_eq_false, not_false_eq_true, Option.bind_some, Ok_some, bi_0, bi_n0, bi_01, hc, hp, hk, hc', hp']
  by_cases e1 : c < x + c'
  · rw [if_pos e1]
    exact Ok_ret ⟨fun h => by unfold lx at h; omega, fun _ => rfl⟩
  · rw [if_neg e1]
    by_cases e2 : x + c' = c
    · rw [if_neg (fun h => h e2)]
      by_cases e3 : p < 1 + p'
      · rw [if_pos e3]
        exact Ok_ret ⟨fun h => by unfold lx at h; omega, fun _ => rfl⟩
      · rw [if_neg e3]
        by_cases e4 : 1 + p' = p
        · rw [if_neg (fun h => h e4)]
          by_cases e5 : a ≤ k
          · rw [if_pos e5]
            exact Ok_ret ⟨fun _ => rfl, fun h => absurd (by unfold lx; omega) h⟩
          · rw [if_neg e5]
            exact Ok_ret ⟨fun h => by unfold lx at h; omega, fun _ => rfl⟩
        · rw [if_pos e4]
          exact Ok_ret ⟨fun _ => rfl, fun h => absurd (by unfold lx; omega) h⟩
    · rw [if_pos e2]
      exact Ok_ret ⟨fun _ => rfl, fun h => absurd (by unfold lx; omega) h⟩
theorem k_offer {i a x len c p k c' p' : Int} (i0 : 0 ≤ i) (l1 : 1 ≤ len) (l3 : i + len ≤ 8) (hc : t.m 127 (zix i) = c) (hp : t.m 128 (zix i) = p) (hk : t.m 129 (zix i) = k) (hc' : t.m 127 (zix (i + len)) = c') (hp' : t.m 128 (zix (i + len)) = p') (b1 : 0 ≤ c ∧ c ≤ 1000000000) (b2 : 0 ≤ p ∧ p ≤ 100) (b3 : -1 ≤ k ∧ k ≤ 9999) (b4 : 0 ≤ c' ∧ c' ≤ 1000000) (b5 : 0 ≤ p' ∧ p' ≤ 90) (b6 : 0 ≤ x ∧ x ≤ 2000) (b7 : k < a ∧ a ≤ 9999) : Ok (pu_offer t i a x len) (fun _ t' => (k = -1 ∨ lx (x + c') (1 + p') a c p k → t' = ((t.up 129 (zix i) a).up 127 (zix i) (x + c')).up 128 (zix i) (1 + p')) ∧ (¬ (k = -1 ∨ lx (x + c') (1 + p') a c p k) → t' = t)) := by
  rw [pu_offer_e]
  simp (disch := omega) only [↓reduceIte, zinT, wr_id, wrl_id, ltT, ltF, leT, leF, eqT, eqF, ne_eq, not_true_eq_false, not_false_eq_true, Option.bind_some, Ok_some, bi_0, bi_n0, bi_01, hc, hp, hk, hc', hp']
  by_cases e0 : k = -1
  · rw [if_pos e0]
    exact Ok_ret ⟨fun _ => rfl, fun h => absurd (Or.inl e0) h⟩
  · rw [if_neg e0]
    by_cases e1 : x + c' < c
    · rw [if_pos e1]
      exact Ok_ret ⟨fun _ => rfl, fun h => absurd (Or.inr (by unfold lx; omega)) h⟩
    · rw [if_neg e1]
      by_cases e2 : x + c' = c
      · rw [if_neg (fun h => h e2)]
        by_cases e3 : p ≤ 1 + p'
        · rw [if_pos e3]
          exact Ok_ret ⟨fun h => by unfold lx at h; omega, fun _ => rfl⟩
        · rw [if_neg e3]
          exact Ok_ret ⟨fun _ => rfl, fun h => absurd (Or.inr (by unfold lx; omega)) h⟩
      · rw [if_pos e2]
        exact Ok_ret ⟨fun h => by unfold lx at h; omega, fun _ => rfl⟩
end
