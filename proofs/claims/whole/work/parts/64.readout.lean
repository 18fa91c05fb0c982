/-! PHRASES: rows read out of the table, both sides. -/
theorem sm_nz {g : Int → Int} {n : Int} (hn : 0 ≤ n) (h : sm n g ≠ 0) : ∃ k, 0 ≤ k ∧ k < n ∧ g k ≠ 0 := Classical.byContradiction (fun hc => h (by
  rw [sm_congr (g := fun _ => 0) hn (fun k a b => Classical.byContradiction (fun e => hc ⟨k, a, b, e⟩))]
  have := sm_le (g := fun _ => 0) (B := 0) hn (fun k a b => by (try dsimp only); omega)
  omega))
theorem rkX_1 {F : Nat → Int} (hw : WF F) {p s a b : Int} (h1 : 0 ≤ p) (h2 : p < prs F) (h3 : 0 ≤ s) (h4 : s < 2) (h5 : 0 ≤ a) (hab : a < b) (h6 : b ≤ lng F p s) : 1 ≤ rkX F p s a b 0 := by
  unfold rkX
  rw [if_pos (by omega)]
  have := hw.wrd_ h1 h2 h3 h4 (i := a + 0) (by omega) (by omega)
  omega
theorem pk_1 {F : Nat → Int} (hw : WF F) {p one other : Int} (h1 : 0 ≤ p) (h2 : p < prs F) (h3 : 0 ≤ one) (h4 : 0 ≤ other) (h5 : sp1 one ≤ lng F p 0) (h6 : sp1 other ≤ lng F p 1) : 1681 ≤ rwK (pk F p one other) 0 ∧ 1681 ≤ rwK (pk F p one other) 1 := by
  have s0 : 0 ≤ sp0 one ∧ sp0 one < sp1 one := by unfold sp0 sp1; omega
  have s1 : 0 ≤ sp0 other ∧ sp0 other < sp1 other := by unfold sp0 sp1; omega
  have a : ∀ k, 0 ≤ k → k < 3 → (0 ≤ rkX F p 0 (sp0 one) (sp1 one) k ∧ rkX F p 0 (sp0 one) (sp1 one) k < 41) ∧ (0 ≤ rkX F p 1 (sp0 other) (sp1 other) k ∧ rkX F p 1 (sp0 other) (sp1 other) k < 41) := fun k k0 _ => ⟨rkX_le hw h1 h2 (by omega) (by omega) s0.1 h5 k0, rkX_le hw h1 h2 (by omega) (by omega) s1.1 h6 k0⟩
  have a0 := a 0 (by omega) (by omega)
  have a1 := a 1 (by omega) (by omega)
  have a2 := a 2 (by omega) (by omega)
  have b0 := rkX_1 hw (s := 0) h1 h2 (by omega) (by omega) s0.1 s0.2 h5
  have b1 := rkX_1 hw (s := 1) h1 h2 (by omega) (by omega) s1.1 s1.2 h6
  unfold rwK pk rk
  rw [if_pos rfl, if_neg (by decide)]
  constructor <;> omega
theorem bgF_row {F : Nat → Int} (hw : WF F) {kind x : Int} (h : bgF F kind (prs F) x ≠ 0) : 1681 ≤ rwK x 0 ∧ 1681 ≤ rwK x 1 ∧ 0 ≤ x ∧ x < 4750104241 := by
  have q := hw.prs_
  obtain ⟨p, p0, p1, hp⟩ := sm_nz q.1 h
  obtain ⟨one, o0, o1, ho⟩ := sm_nz (by omega) hp
  obtain ⟨other, t0, t1, ht⟩ := sm_nz (by omega) ho
  (try dsimp only at ht)
  cases hb : bxo (lk F kind p) (lng F p 0) (lng F p 1) one other
  · rw [hb, Bool.false_and] at ht
    exact absurd rfl ht
  · rw [hb, Bool.true_and] at ht
    by_cases e : pk F p one other = x
    · have bin := bxo_in hb
      have := pk_1 hw p0 p1 o0 t0 bin.1 bin.2
      have l := pkb_le hw (one := one) (other := other) p0 p1 o0 t0 bin.1 bin.2
      rw [e] at this l
      exact ⟨this.1, this.2, l.1, l.2.1⟩
    · rw [bi_f e] at ht
      exact absurd rfl ht
theorem bgF_tt {F : Nat → Int} (hw : WF F) {kind n x : Int} (hn : 0 ≤ n) : bgF F kind n x ≤ ttF F kind n := (sm_all hn (fun p _ _ => (sm_all (by omega) (fun one _ _ => (sm_all (by omega) (fun other _ _ => by
  (try dsimp only)
  cases bxo (lk F kind p) (lng F p 0) (lng F p 1) one other
  · exact Int.le_refl _
  · rw [Bool.true_and]; exact (bi_le _).2)).1)).1)).1
def wsK (r : Int) : Int := if 0 ≤ wdK r 1 then (if 0 ≤ wdK r 2 then 3 else 2) else 1
noncomputable def rbK (K B : Int → Int) (n a : Int) : Int := sm n (fun k => if rwK (K k) 0 = rwK (K a) 0 then B k else 0)
noncomputable def phV (K B : Int → Int) (n a w : Int) : Int := if w = 0 then B a else if w = 1 then wsK (rwK (K a) 0) else if w = 2 then wsK (rwK (K a) 1) else if w = 3 then rbK K B n a else if w = 4 then 1050 - 1000 * B a / rbK K B n a else if 0 ≤ wdK (rwK (K a) (if w < 20 then 0 else 1)) (w % 10) then wdK (rwK (K a) (if w < 20 then 0 else 1)) (w % 10) else -4
/-- a table of F's phrases -/
def phT (F : Nat → Int) (kind : Int) (K B : Int → Int) (n : Int) : Prop := n ≤ 5400 ∧ Tab K B n (fun x => bgF F kind (prs F) x)
theorem phT_le {F : Nat → Int} (hw : WF F) {kind n : Int} {K B : Int → Int} (h : phT F kind K B n) {k : Int} (k0 : 0 ≤ k) (k1 : k < n) : 1 ≤ B k ∧ B k ≤ 5400 ∧ 1681 ≤ rwK (K k) 0 ∧ 1681 ≤ rwK (K k) 1 ∧ 0 ≤ K k ∧ K k < 4750104241 := by
  have q := hw.prs_
  have b := h.2.2.2.1 k k0 k1
  (try dsimp only at b)
  have t := ttF_le hw (kind := kind) (n := prs F) q.1 (Int.le_refl _)
  have u := bgF_tt hw (kind := kind) (n := prs F) (x := K k) q.1
  have r := bgF_row hw (kind := kind) (x := K k) (by omega)
  exact ⟨b.2, by omega, r.1, r.2.1, r.2.2⟩
theorem rbK_le {F : Nat → Int} (hw : WF F) {kind n a : Int} {K B : Int → Int} (h : phT F kind K B n) (a0 : 0 ≤ a) (a1 : a < n) : B a ≤ rbK K B n a ∧ rbK K B n a ≤ 29160000 := by
  have hn := h.1
  have g : ∀ k, 0 ≤ k → k < n → 0 ≤ (fun k => if rwK (K k) 0 = rwK (K a) 0 then B k else 0) k ∧ (fun k => if rwK (K k) 0 = rwK (K a) 0 then B k else 0) k ≤ 5400 := fun k k0 k1 => by
    have := phT_le hw h k0 k1
    (try dsimp only)
    split <;> omega
  have t := (sm_term (g := fun k => if rwK (K k) 0 = rwK (K a) 0 then B k else 0) h.2.1 (fun k k0 k1 => (g k k0 k1).1)).2 a a0 a1
  have u := sm_le h.2.1 g
  (try dsimp only at t)
  rw [if_pos rfl] at t
  unfold rbK
  refine ⟨t, Int.le_trans u.2 (by omega)⟩
theorem phV_uni {F : Nat → Int} {kind n n' a w : Int} {K B K' B' : Int → Int} (h : phT F kind K B n) (h' : phT F kind K' B' n') (a0 : 0 ≤ a) : n = n' ∧ (a < n → phV K B n a w = phV K' B' n' a w) := by
  have u := Tab_uni h.2 h'.2
  refine ⟨u.1, fun a1 => ?_⟩
  have ka := u.2 a a0 a1
  have r : rbK K B n a = rbK K' B' n' a := by
    unfold rbK
    rw [← u.1]
    exact sm_congr h.2.1 (fun k k0 k1 => by have := u.2 k k0 k1; (try dsimp only); rw [this.1, this.2, ka.1])
  unfold phV
  rw [r, ka.1, ka.2]
section
variable {P : zP} {d t : zD P} {F : Nat → Int} {K B : Int → Int} {n kind : Int}
theorem k_wordOf (h : pM t K B n) (hn : n ≤ 5400) {a s i : Int} (a0 : 0 ≤ a) (a1 : a < n) (hs0 : 0 ≤ s) (hs1 : s < 2) (hi0 : 0 ≤ i) (hi1 : i < 3) : ph_wordOf t a s i = some (wdK (rwK (K a) s) i, t) := by
  have ha := h.2.1 a a0 a1
  have dg := ph6_digit ha.2.1 ha.2.2 hs0 hs1 hi0 hi1
  rw [ph_wordOf_e, ha.1]
  rcases (by omega : s = 0 ∨ s = 1) with rfl | rfl
  · rw [if_pos rfl] at dg
    simp (disch := omega) only [↓reduceIte, zinT, wr_id, wrl_id, ltT, ltF, leT, leF, eqT, eqF, ne_eq, not_true_eq_false, not_false_eq_true, Option.bind_some, Ok_some, bi_0, bi_n0, bi_01, dg]
  · rw [if_neg (by decide)] at dg
    simp (disch := omega) only [↓reduceIte, zinT, wr_id, wrl_id, ltT, ltF, leT, leF, eqT, eqF, ne_eq, not_true_eq_false, not_false_eq_true, Option.bind_some, Ok_some, bi_0, bi_n0, bi_01, dg]
theorem wdK_le {r i : Int} (h0 : 0 ≤ r) (h1 : r < 68921) : -1 ≤ wdK r i ∧ wdK r i ≤ 40 := by
  unfold wdK
  split
  · omega
  · split <;> omega
theorem rwK_le {x s : Int} (h0 : 0 ≤ x) (h1 : x < 4750104241) : 0 ≤ rwK x s ∧ rwK x s < 68921 := by
  unfold rwK
  split <;> omega
theorem k_wordsOf (hw : WF F) (h : pM t K B n) (hT : phT F kind K B n) {a s : Int} (a0 : 0 ≤ a) (a1 : a < n) (hs0 : 0 ≤ s) (hs1 : s < 2) : ph_wordsOf t a s = some (wsK (rwK (K a) s), t) := by
  have le := phT_le hw hT a0 a1
  have r := rwK_le (s := s) le.2.2.2.2.1 le.2.2.2.2.2
  have w0 := wdK_le (i := 0) r.1 r.2
  have w1 := wdK_le (i := 1) r.1 r.2
  have w2 := wdK_le (i := 2) r.1 r.2
  have f : 0 ≤ wdK (rwK (K a) s) 0 := by
    have : 1681 ≤ rwK (K a) s := by
      rcases (by omega : s = 0 ∨ s = 1) with rfl | rfl
      · exact le.2.2.1
      · exact le.2.2.2.1
    unfold wdK
    rw [if_pos rfl]
    omega
  have e := fun i i0 i1 => k_wordOf h hT.1 a0 a1 hs0 hs1 (i := i) i0 i1
  have e0 := e 0 (by omega) (by omega)
  have e1 := e 1 (by omega) (by omega)
  have e2 := e 2 (by omega) (by omega)
  rw [ph_wordsOf_e, ph_wordsOf_2_e]
  simp (disch := omega) only [↓reduceIte, zinT, wr_id, wrl_id, ltT, ltF, leT, leF, eqT, eqF, ne_eq, not_true_eq_false, not_false_eq_true, Option.bind_some, Ok_some, bi_0, bi_n0, bi_01, e0]
  rw [ph_wordsOf_2_e]
  simp (disch := omega) only [↓reduceIte, zinT, wr_id, wrl_id, ltT, ltF, leT, leF, eqT, eqF, ne_eq, not_true_eq_false, not_false_eq_true, Option.bind_some, Ok_some, bi_0, bi_n0, bi_01, show (0 + 1 : Int) = 1 by omega, e1]
  unfold wsK
  by_cases c1 : 0 ≤ wdK (rwK (K a) s) 1
  · rw [if_pos c1, if_neg (by omega), ph_wordsOf_2_e]
    simp (disch := omega) only [↓reduceIte, zinT, wr_id, wrl_id, ltT, ltF, leT, leF, eqT, eqF, ne_eq, not_true_eq_false, not_false_eq_true, Option.bind_some, Ok_some, bi_0, bi_n0, bi_01, show (1 + 1 : Int) = 2 by omega, e2]
    by_cases c2 : 0 ≤ wdK (rwK (K a) s) 2
    · rw [if_pos c2, if_neg (by omega), ph_wordsOf_2_e]
      simp (disch := omega) only [↓reduceIte, zinT, wr_id, wrl_id, ltT, ltF, leT, leF, eqT, eqF, ne_eq, not_true_eq_false, not_false_eq_true, Option.bind_some, Ok_some, bi_0, bi_n0, bi_01]
      rfl
    · rw [if_neg c2, if_pos (by omega)]
  · rw [if_neg c1, if_pos (by omega)]
end
