/-! OVER: all places, from behind, both sides. -/
def oT (K B : Int → Int) (n : Int) (W : Int → Int) (L : Int) (c p k : Int → Int) (i : Int) : Prop := c L = 0 ∧ p L = 0 ∧ ∀ j, i < j → j < L → lst1 (csA K B n W L c p j) (c j) (p j) (k j)
theorem csA_congr {K B W c p c' p' : Int → Int} {n L i : Int} (i1 : i < L) (h : ∀ j, i < j → j ≤ L → c j = c' j ∧ p j = p' j) : ∀ a b z, csA K B n W L c p i a b z ↔ csA K B n W L c' p' i a b z := by
  intro a b z
  unfold csA offS csP
  have e := h (i + 1) (by omega) (by omega)
  rw [e.1, e.2]
  constructor
  · rintro (⟨h1, h2, h3, h4, h5⟩ | h1)
    · have f := fitW_le h3
      have w := wsK_le (r := rwK (K z) 0)
      have e := h (i + wsK (rwK (K z) 0)) (by omega) (by omega)
      exact Or.inl ⟨h1, h2, h3, by rw [← e.1]; exact h4, by rw [← e.2]; exact h5⟩
    · exact Or.inr h1
  · rintro (⟨h1, h2, h3, h4, h5⟩ | h1)
    · have f := fitW_le h3
      have w := wsK_le (r := rwK (K z) 0)
      have e := h (i + wsK (rwK (K z) 0)) (by omega) (by omega)
      exact Or.inl ⟨h1, h2, h3, by rw [e.1]; exact h4, by rw [e.2]; exact h5⟩
    · exact Or.inr h1
/-- how great the values are -/
def oB (c p : Int → Int) (i L : Int) : Prop := ∀ j, i < j → j ≤ L → (0 ≤ c j ∧ c j ≤ 2000 * (L - j)) ∧ 0 ≤ p j ∧ p j ≤ L - j
theorem oB_s {F : Nat → Int} (hw : WF F) {K B W c p : Int → Int} {n L i kind x y z : Int} (hT : phT F kind K B n) (i1 : i < L) (h : oB c p i L) (hl : lst1 (csA K B n W L c p i) x y z) : (0 ≤ x ∧ x ≤ 2000 * (L - i)) ∧ 1 ≤ y ∧ y ≤ L - i := by
  have b1 := h (i + 1) (by omega) (by omega)
  have g := hl.2 _ _ _ (Or.inr ⟨rfl, rfl, rfl⟩)
  rcases hl.1 with ⟨z0, z1, h3, h4, h5⟩ | ⟨h4, h5, h6⟩
  · have f := fitW_le h3
    have w := wsK_le (r := rwK (K z) 0)
    have b := h (i + wsK (rwK (K z) 0)) (by omega) (by omega)
    have cl := cost_le hw hT z0 z1
    unfold lx at g
    generalize 1050 - 1000 * B z / rbK K B n z = co at *
    omega
  · omega
theorem oB_i {c p : Int → Int} {L i : Int} (h : oB c p i L) (h2 : (0 ≤ c i ∧ c i ≤ 2000 * (L - i)) ∧ 1 ≤ p i ∧ p i ≤ L - i) : oB c p (i - 1) L := fun j j0 j1 => by
  by_cases e : j = i
  · rw [e]; omega
  · exact h j (by omega) j1
theorem oB_af {c p : Int → Int} {L i : Int} {x y : Nat → Int} (i0 : 0 ≤ i) (hL8 : L ≤ 8) (h : oB c p i L) (hx : ∀ j, i < j → j ≤ L → x (zix j) = c j ∧ y (zix j) = p j) : after c p i L x y := fun j j0 j1 => by
  have a := h j j0 j1
  have b := hx j j0 j1
  refine ⟨b.1, b.2, ?_, ?_⟩ <;> omega
section
variable {P : zP} {d t : zD P} {F : Nat → Int} {K B : Int → Int} {n kind : Int}
/-- what stands at the places behind one, the model's -/
def oN (t : zD P) (K B : Int → Int) (n : Int) (W : Int → Int) (L i : Int) : Prop := oT K B n W L (fun j => t.m 156 (zix j)) (fun j => t.m 157 (zix j)) (fun j => t.m 158 (zix j)) i ∧ oB (fun j => t.m 156 (zix j)) (fun j => t.m 157 (zix j)) i L
theorem oT_s {W c p k c' p' k' : Int → Int} {L i : Int} (i1 : i < L) (h : oT K B n W L c p k i) (e : ∀ j, i < j → j ≤ L → c' j = c j ∧ p' j = p j ∧ k' j = k j) (hl : lst1 (csA K B n W L c p i) (c' i) (p' i) (k' i)) : oT K B n W L c' p' k' (i - 1) := by
  have eL := e L (by omega) (by omega)
  refine ⟨eL.1.trans h.1, eL.2.1.trans h.2.1, fun j j0 j1 => ?_⟩
  by_cases q : j = i
  · rw [q]
    exact lst1_ext hl (csA_congr i1 (fun x x0 x1 => ⟨(e x x0 x1).1.symm, (e x x0 x1).2.1.symm⟩))
  · have ej := e j (by omega) (by omega)
    rw [ej.1, ej.2.1, ej.2.2]
    exact lst1_ext (h.2.2 j (by omega) j1) (csA_congr j1 (fun x x0 x1 => ⟨(e x (by omega) x1).1.symm, (e x (by omega) x1).2.1.symm⟩))
theorem oN_s (hw : WF F) (hT : phT F kind K B n) {W : Int → Int} {L i : Int} {s : zD P} (i0 : 0 ≤ i) (i1 : i < L) (hL8 : L ≤ 8) (h : oN t K B n W L i) (hf : mFr i t s) (hm : mst s i (csA K B n W L (fun j => t.m 156 (zix j)) (fun j => t.m 157 (zix j)) i)) : oN s K B n W L (i - 1) := by
  have e : ∀ j, i < j → j ≤ L → s.m 156 (zix j) = t.m 156 (zix j) ∧ s.m 157 (zix j) = t.m 157 (zix j) ∧ s.m 158 (zix j) = t.m 158 (zix j) := fun j j0 j1 => hf.2 j (by omega) (by omega) (by omega)
  have b := oB_s hw hT i1 h.2 hm
  refine ⟨oT_s i1 h.1 e hm, oB_i (fun j j0 j1 => ?_) b⟩
  have ej := e j j0 j1
  have hb := h.2 j j0 j1
  (try dsimp only at hb ⊢)
  rw [ej.1, ej.2.1]
  exact hb
theorem n_17 (hw : WF F) (hT : phT F kind K B n) {W : Int → Int} {L : Int} (hL8 : L ≤ 8) : ∀ (m : Nat) (i : Int) (t : zD P) (g2 g3 g4 g5 : zV), i + 1 = m → i < L → oQ t K B n W L → oN t K B n W L i → Ok (m_putsOver_17 t i g2 g3 g4 g5) (fun _ s => Fr 156 159 t s ∧ oN s K B n W L (-1))
  | 0, i, t, g2, g3, g4, g5, hi, i1, ho, hn => by
    have e : i = -1 := by omega
    subst e
    rw [m_putsOver_17_e]
    simp (disch := omega) only [↓reduceIte, zinT, wr_id, wrl_id, ltT, ltF, leT, leF, eqT, eqF, ne_eq, not_true_eq_false, not_false_eq_true, Option.bind_some, Ok_some, bi_0, bi_n0, bi_01]
    exact ⟨Fr.rf, hn⟩
  | m + 1, i, t, g2, g3, g4, g5, hi, i1, ho, hn => by
    have i0 : 0 ≤ i := by omega
    refine n_place hw hT hL8 i0 i1 ho (oB_af i0 hL8 hn.2 (fun j j0 j1 => ⟨rfl, rfl⟩)) (fun s g2 g3 g4 g5 hf hm => ?_)
    have nx := n_17 hw hT hL8 m (i + (-1)) s g2 g3 g4 g5 (by omega) (by omega) (ho.fr hf.1) (oN_s hw hT i0 i1 hL8 hn hf hm)
    exact Ok_mono nx (fun v s' h => ⟨hf.1.tr h.1, h.2⟩)
theorem n_putsOver (hw : WF F) (hT : phT F kind K B n) {W : Int → Int} {L : Int} (hL0 : 0 ≤ L) (hL8 : L ≤ 8) (ho : oQ t K B n W L) : Ok (m_putsOver t) (fun _ s => Fr 156 159 t s ∧ oN s K B n W L (-1)) := by
  rw [m_putsOver_e]
  simp (disch := omega) only [↓reduceIte, zinT, wr_id, wrl_id, ltT, ltF, leT, leF, eqT, eqF, ne_eq, not_true_eq_false, not_false_eq_true, Option.bind_some, Ok_some, bi_0, bi_n0, bi_01, ho.2.1, up_ne]
  have f : Fr 156 159 t ((t.up 156 (zix L) 0).up 157 (zix L) 0) := (Fr.rf.up (by omega) (by omega)).up (by omega) (by omega)
  have e1 : ((t.up 156 (zix L) 0).up 157 (zix L) 0).m 156 (zix L) = 0 := by rw [up_ne (by decide), u_156, zfu_z (by omega), if_pos rfl]
  have e2 : ((t.up 156 (zix L) 0).up 157 (zix L) 0).m 157 (zix L) = 0 := by rw [u_157, zfu_z (by omega), if_pos rfl]
  generalize (t.up 156 (zix L) 0).up 157 (zix L) 0 = u at f e1 e2 ⊢
  refine Ok_mono (n_17 hw hT hL8 L.toNat (L - 1) u _ _ _ _ (by omega) (by omega) (ho.fr f) ⟨⟨e1, e2, fun j j0 j1 => by omega⟩, fun j j0 j1 => ?_⟩) (fun v s h => ⟨f.tr h.1, h.2⟩)
  have e : j = L := by omega
  (try dsimp only)
  rw [e, e1, e2]
  omega
/-- the class's -/
def oK (t : zD P) (K B : Int → Int) (n : Int) (W : Int → Int) (L i : Int) : Prop := oT K B n W L (fun j => t.m 127 (zix j)) (fun j => t.m 128 (zix j)) (fun j => t.m 129 (zix j)) i ∧ oB (fun j => t.m 127 (zix j)) (fun j => t.m 128 (zix j)) i L
def oP (t : zD P) (K B : Int → Int) (n : Int) (W : Int → Int) (L : Int) : Prop := pM t K B n ∧ t.m 125 6 = L ∧ ∀ k, 0 ≤ k → k < L → t.m 126 (zix k) = W k ∧ 0 ≤ W k ∧ W k < 40
theorem oP.fr {s : zD P} {W : Int → Int} {L : Int} (h : oP t K B n W L) (f : Fr 127 130 t s) : oP s K B n W L := ⟨pM_fr h.1 (f 122 (by omega)) (f 123 (by omega)) (f 124 (by omega)), by rw [f 125 (by omega)]; exact h.2.1, by rw [f 126 (by omega)]; exact h.2.2⟩
theorem oK_s (hw : WF F) (hT : phT F kind K B n) {W : Int → Int} {L i : Int} {s : zD P} (i0 : 0 ≤ i) (i1 : i < L) (hL8 : L ≤ 8) (h : oK t K B n W L i) (hf : cFr i t s) (hm : lst1 (csA K B n W L (fun j => t.m 127 (zix j)) (fun j => t.m 128 (zix j)) i) (s.m 127 (zix i)) (s.m 128 (zix i)) (s.m 129 (zix i))) : oK s K B n W L (i - 1) := by
  have e : ∀ j, i < j → j ≤ L → s.m 127 (zix j) = t.m 127 (zix j) ∧ s.m 128 (zix j) = t.m 128 (zix j) ∧ s.m 129 (zix j) = t.m 129 (zix j) := fun j j0 j1 => hf.2 j (by omega) (by omega) (by omega)
  have b := oB_s hw hT i1 h.2 hm
  refine ⟨oT_s i1 h.1 e hm, oB_i (fun j j0 j1 => ?_) b⟩
  have ej := e j j0 j1
  have hb := h.2 j j0 j1
  (try dsimp only at hb ⊢)
  rw [ej.1, ej.2.1]
  exact hb
theorem k_put17 (hw : WF F) (hT : phT F kind K B n) {W : Int → Int} {L : Int} {Q : Int → zD P → Prop} (hL8 : L ≤ 8) : ∀ (m : Nat) (i : Int) (t : zD P), i + 1 = m → i < L → oP t K B n W L → oK t K B n W L i → (∀ s : zD P, Fr 127 130 t s → oK s K B n W L (-1) → Ok (pu_walk s) Q) → Ok (pu_put_17 t i) (fun v s => v = 0 ∧ ∃ w, Q w s)
  | 0, i, t, hi, i1, ho, hn, hq => by
    have e : i = -1 := by omega
    subst e
    rw [pu_put_17_e]
    simp (disch := omega) only [↓reduceIte, zinT, wr_id, wrl_id, ltT, ltF, leT, leF, eqT, eqF, ne_eq, not_true_eq_false, not_false_eq_true, Option.bind_some, Ok_some, bi_0, bi_n0, bi_01]
    exact Ok_bind (hq t Fr.rf hn) (fun v s f => Ok_ret ⟨rfl, v, f⟩)
  | m + 1, i, t, hi, i1, ho, hn, hq => by
    have i0 : 0 ≤ i := by omega
    rw [pu_put_17_e]
    simp (disch := omega) only [↓reduceIte, zinT, wr_id, wrl_id, ltT, ltF, leT, leF, eqT, eqF, ne_eq, not_true_eq_false, not_false_eq_true, Option.bind_some, Ok_some, bi_0, bi_n0, bi_01]
    refine Ok_bind (k_choose hw ho.1 hT ho.2.1 hL8 ho.2.2 i0 i1 (oB_af i0 hL8 hn.2 (fun j j0 j1 => ⟨rfl, rfl⟩))) (fun v s f => ?_)
    exact k_put17 hw hT hL8 m (i + (-1)) s (by omega) (by omega) (ho.fr f.1.1) (oK_s hw hT i0 i1 hL8 hn f.1 f.2) (fun s' hf hk => hq s' (f.1.1.tr hf) hk)
theorem k_put (hw : WF F) (hT : phT F kind K B n) {W : Int → Int} {L : Int} {Q : Int → zD P → Prop} (hL0 : 0 ≤ L) (hL8 : L ≤ 8) (ho : oP t K B n W L) (hq : ∀ s : zD P, Fr 127 130 t s → oK s K B n W L (-1) → Ok (pu_walk s) Q) : Ok (pu_put t) (fun v s => v = 0 ∧ ∃ w, Q w s) := by
  rw [pu_put_e]
  simp (disch := omega) only [↓reduceIte, zinT, wr_id, wrl_id, ltT, ltF, leT, leF, eqT, eqF, ne_eq, not_true_eq_false, not_false_eq_true, Option.bind_some, Ok_some, bi_0, bi_n0, bi_01, ho.2.1, up_ne]
  have f : Fr 127 130 t ((t.up 127 (zix L) 0).up 128 (zix L) 0) := (Fr.rf.up (by omega) (by omega)).up (by omega) (by omega)
  have e1 : ((t.up 127 (zix L) 0).up 128 (zix L) 0).m 127 (zix L) = 0 := by rw [up_ne (by decide), u_127, zfu_z (by omega), if_pos rfl]
  have e2 : ((t.up 127 (zix L) 0).up 128 (zix L) 0).m 128 (zix L) = 0 := by rw [u_128, zfu_z (by omega), if_pos rfl]
  generalize (t.up 127 (zix L) 0).up 128 (zix L) 0 = u at f e1 e2 ⊢
  refine k_put17 hw hT hL8 L.toNat (L - 1) u (by omega) (by omega) (ho.fr f) ⟨⟨e1, e2, fun j j0 j1 => by omega⟩, fun j j0 j1 => ?_⟩ (fun s hf hk => hq s (f.tr hf) hk)
  have e : j = L := by omega
  (try dsimp only)
  rw [e, e1, e2]
  omega
end
