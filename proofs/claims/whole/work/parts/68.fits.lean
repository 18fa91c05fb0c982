/-! OVER: which rows fit at a place of what was said. -/
/-- the row made of so many words from a place on -/
def rwW (W : Int → Int) (i n : Int) : Int := 41 * (41 * (W i + 1) + (if 1 < n then W (i + 1) + 1 else 0)) + (if 2 < n then W (i + 2) + 1 else 0)
theorem rkX_z {F : Nat → Int} (hw : WF F) {p s a b : Int} (h1 : 0 ≤ p) (h2 : p < prs F) (h3 : 0 ≤ s) (h4 : s < 2) (h5 : 0 ≤ a) (h6 : b ≤ lng F p s) (h : rkX F p s a b 1 = 0) : rkX F p s a b 2 = 0 := by
  unfold rkX at h ⊢
  by_cases c : a + 2 < b
  · rw [if_pos (by omega)] at h
    have := hw.wrd_ h1 h2 h3 h4 (i := a + 1) (by omega) (by omega)
    omega
  · rw [if_neg c]
theorem pk_z {F : Nat → Int} (hw : WF F) {p one other s : Int} (h1 : 0 ≤ p) (h2 : p < prs F) (h3 : 0 ≤ one) (h4 : 0 ≤ other) (h5 : sp1 one ≤ lng F p 0) (h6 : sp1 other ≤ lng F p 1) (s0 : 0 ≤ s) (s1 : s < 2) (h : wdK (rwK (pk F p one other) s) 1 < 0) : wdK (rwK (pk F p one other) s) 2 < 0 := by
  have s0 : 0 ≤ sp0 one ∧ sp0 one < sp1 one := by unfold sp0 sp1; omega
  have s1 : 0 ≤ sp0 other ∧ sp0 other < sp1 other := by unfold sp0 sp1; omega
  have a : ∀ k, 0 ≤ k → k < 3 → (0 ≤ rkX F p 0 (sp0 one) (sp1 one) k ∧ rkX F p 0 (sp0 one) (sp1 one) k < 41) ∧ (0 ≤ rkX F p 1 (sp0 other) (sp1 other) k ∧ rkX F p 1 (sp0 other) (sp1 other) k < 41) := fun k k0 _ => ⟨rkX_le hw h1 h2 (by omega) (by omega) s0.1 h5 k0, rkX_le hw h1 h2 (by omega) (by omega) s1.1 h6 k0⟩
  have a0 := a 0 (by omega) (by omega)
  have a1 := a 1 (by omega) (by omega)
  have a2 := a 2 (by omega) (by omega)
  have z0 := rkX_z hw (s := 0) h1 h2 (by omega) (by omega) s0.1 h5
  have z1 := rkX_z hw (s := 1) h1 h2 (by omega) (by omega) s1.1 h6
  have key : ∀ x y z : Int, 0 ≤ x → x < 41 → 0 ≤ y → y < 41 → 0 ≤ z → z < 41 → (y = 0 → z = 0) → wdK (41 * (41 * x + y) + z) 1 < 0 → wdK (41 * (41 * x + y) + z) 2 < 0 := by
    intro x y z x0 x1 y0 y1 z0 z1 hz
    unfold wdK
    have e : (41 * (41 * x + y) + z) / 41 = 41 * x + y := by omega
    have e2 : (41 * x + y) % 41 = y := by omega
    have e3 : (41 * (41 * x + y) + z) % 41 = z := by omega
    rw [if_neg (by decide), if_pos rfl, if_neg (by decide), if_neg (by decide), e, e2, e3]
    omega
  have r : rwK (pk F p one other) 0 = rk F p 0 (sp0 one) (sp1 one) ∧ rwK (pk F p one other) 1 = rk F p 1 (sp0 other) (sp1 other) := by
    have l : 0 ≤ rk F p 1 (sp0 other) (sp1 other) ∧ rk F p 1 (sp0 other) (sp1 other) < 68921 := by unfold rk; omega
    unfold rwK pk
    rw [if_pos rfl, if_neg (by decide)]
    constructor <;> omega
  rcases (by omega : s = 0 ∨ s = 1) with rfl | rfl
  · rw [r.1] at h ⊢
    exact key _ _ _ a0.1.1 a0.1.2 a1.1.1 a1.1.2 a2.1.1 a2.1.2 z0 h
  · rw [r.2] at h ⊢
    exact key _ _ _ a0.2.1 a0.2.2 a1.2.1 a1.2.2 a2.2.1 a2.2.2 z1 h
theorem bgF_z {F : Nat → Int} (hw : WF F) {kind x s : Int} (h : bgF F kind (prs F) x ≠ 0) (s0 : 0 ≤ s) (s1 : s < 2) (hz : wdK (rwK x s) 1 < 0) : wdK (rwK x s) 2 < 0 := by
  have q := hw.prs_
  obtain ⟨p, p0, p1, hp⟩ := sm_nz q.1 h
  obtain ⟨one, o0, o1, ho⟩ := sm_nz (by omega) hp
  obtain ⟨other, t0, t1, ht⟩ := sm_nz (by omega) ho
  (try dsimp only at ht)
  cases hb : bxo (lk F kind p) (lng F p 0) (lng F p 1) one other
  · rw [hb, Bool.false_and] at ht
    exact absurd rfl ht
  · rw [hb, Bool.true_and] at ht
    by_cases e : pk F p one other = x
    · have bin := bxo_in hb
      rw [← e] at hz ⊢
      exact pk_z hw p0 p1 o0 t0 bin.1 bin.2 s0 s1 hz
    · rw [bi_f e] at ht
      exact absurd rfl ht
theorem phT_z {F : Nat → Int} (hw : WF F) {kind n : Int} {K B : Int → Int} (h : phT F kind K B n) {k s : Int} (k0 : 0 ≤ k) (k1 : k < n) (s0 : 0 ≤ s) (s1 : s < 2) (hz : wdK (rwK (K k) s) 1 < 0) : wdK (rwK (K k) s) 2 < 0 := by
  have b := h.2.2.2.1 k k0 k1
  (try dsimp only at b)
  exact bgF_z hw (kind := kind) (by omega) s0 s1 hz
theorem wdK_row {r : Int} (h0 : 0 ≤ r) (h1 : r < 68921) : r = 41 * (41 * (wdK r 0 + 1) + (wdK r 1 + 1)) + (wdK r 2 + 1) := by
  unfold wdK
  rw [if_pos rfl, if_neg (by decide), if_pos rfl, if_neg (by decide), if_neg (by decide)]
  have a : r / 1681 = r / 41 / 41 := by omega
  rw [a]
  omega
/-- a row fits at a place -/
def fitW (W : Int → Int) (L i r : Int) : Bool := decide (i + wsK r ≤ L ∧ r = rwW W i (wsK r))
section
variable {P : zP} {d t : zD P} {F : Nat → Int} {K B : Int → Int} {n kind : Int}
theorem rwW_inj {x y z a b c : Int} (h : 41 * (41 * x + y) + z = 41 * (41 * a + b) + c) (y0 : 0 ≤ y ∧ y < 41) (z0 : 0 ≤ z ∧ z < 41) (b0 : 0 ≤ b ∧ b < 41) (c0 : 0 ≤ c ∧ c < 41) : x = a ∧ y = b ∧ z = c := by
  have e : z = c := by omega
  have e2 : 41 * x + y = 41 * a + b := by omega
  omega
theorem k_fits (hw : WF F) (h : pM t K B n) (hT : phT F kind K B n) {W : Int → Int} {L a i : Int} (a0 : 0 ≤ a) (a1 : a < n) (hL : t.m 125 6 = L) (hL8 : L ≤ 8) (hW : ∀ k, 0 ≤ k → k < L → t.m 126 (zix k) = W k ∧ 0 ≤ W k ∧ W k < 40) (i0 : 0 ≤ i) (i1 : i < L) : pu_fits t a i = some (bi (fitW W L i (rwK (K a) 0)), t) := by
  have le := phT_le hw hT a0 a1
  have z := phT_z hw hT (s := 0) a0 a1 (by omega) (by omega)
  have r := rwK_le (s := 0) le.2.2.2.2.1 le.2.2.2.2.2
  have w0 := wdK_le (i := 0) r.1 r.2
  have w1 := wdK_le (i := 1) r.1 r.2
  have w2 := wdK_le (i := 2) r.1 r.2
  have ro := wdK_row r.1 r.2
  have wo := k_wordsOf hw h hT a0 a1 (s := 0) (by omega) (by omega)
  have e0 := k_wordOf h hT.1 a0 a1 (s := 0) (i := 0) (by omega) (by omega) (by omega) (by omega)
  have e1 := k_wordOf h hT.1 a0 a1 (s := 0) (i := 1) (by omega) (by omega) (by omega) (by omega)
  have e2 := k_wordOf h hT.1 a0 a1 (s := 0) (i := 2) (by omega) (by omega) (by omega) (by omega)
  have W0 := hW i i0 i1
  rw [pu_fits_e, wo]
  generalize rwK (K a) 0 = R at *
  generalize wdK R 0 = x0 at *
  have wsd : wsK R = if 0 ≤ wdK R 1 then (if 0 ≤ wdK R 2 then 3 else 2) else 1 := rfl
  generalize wdK R 1 = x1 at *
  generalize wdK R 2 = x2 at *
  have ends : ∀ m, 0 ≤ m → m ≤ 3 → pu_fits_15 t a i m m = some (1, t) := fun m m0 m1 => by
    rw [pu_fits_15_e]
    simp (disch := omega) only [↓reduceIte, zinT, wr_id, wrl_id, ltT, ltF, leT, leF, eqT, eqF, ne_eq, not_true_eq_false, not_false_eq_true, Option.bind_some, Ok_some, bi_0, bi_n0, bi_01]
  by_cases c1 : 0 ≤ x1
  · by_cases c2 : 0 ≤ x2
    · rw [if_pos c1, if_pos c2] at wsd
      rw [wsd]
      by_cases cl : i + 3 ≤ L
      · have W1 := hW (i + 1) (by omega) (by omega)
        have W2 := hW (i + 2) (by omega) (by omega)
        simp (disch := omega) only [↓reduceIte, zinT, wr_id, wrl_id, ltT, ltF, leT, leF, eqT, eqF, ne_eq, not_true_eq_false, not_false_eq_true, Option.bind_some, Ok_some, bi_0, bi_n0, bi_01, hL]
        rw [pu_fits_15_e]
        simp (disch := omega) only [↓reduceIte, zinT, wr_id, wrl_id, ltT, ltF, leT, leF, eqT, eqF, ne_eq, not_true_eq_false, not_false_eq_true, Option.bind_some, Ok_some, bi_0, bi_n0, bi_01, e0, W0.1, show i + 0 = i by omega]
        by_cases d0 : x0 = W i
        · rw [if_pos d0, pu_fits_15_e]
          simp (disch := omega) only [↓reduceIte, zinT, wr_id, wrl_id, ltT, ltF, leT, leF, eqT, eqF, ne_eq, not_true_eq_false, not_false_eq_true, Option.bind_some, Ok_some, bi_0, bi_n0, bi_01, show (0 + 1 : Int) = 1 by omega, e1, W1.1]
          by_cases d1 : x1 = W (i + 1)
          · rw [if_pos d1, pu_fits_15_e]
            simp (disch := omega) only [↓reduceIte, zinT, wr_id, wrl_id, ltT, ltF, leT, leF, eqT, eqF, ne_eq, not_true_eq_false, not_false_eq_true, Option.bind_some, Ok_some, bi_0, bi_n0, bi_01, show (1 + 1 : Int) = 2 by omega, e2, W2.1]
            by_cases d2 : x2 = W (i + 2)
            · rw [if_pos d2, show (2 + 1 : Int) = 3 by omega, ends 3 (by omega) (by omega)]
              unfold fitW rwW
              rw [wsd, if_pos (by decide), if_pos (by decide), bi_t ⟨cl, by omega⟩]
            · rw [if_neg d2]
              unfold fitW rwW
              rw [wsd, if_pos (by decide), if_pos (by decide), bi_f (fun hh => d2 (by have := rwW_inj (ro.symm.trans hh.2); omega))]
          · rw [if_neg d1]
            unfold fitW rwW
            rw [wsd, if_pos (by decide), if_pos (by decide), bi_f (fun hh => d1 (by have := rwW_inj (ro.symm.trans hh.2); omega))]
        · rw [if_neg d0]
          unfold fitW rwW
          rw [wsd, if_pos (by decide), if_pos (by decide), bi_f (fun hh => d0 (by have := rwW_inj (ro.symm.trans hh.2); omega))]
      · simp (disch := omega) only [↓reduceIte, zinT, wr_id, wrl_id, ltT, ltF, leT, leF, eqT, eqF, ne_eq, not_true_eq_false, not_false_eq_true, Option.bind_some, Ok_some, bi_0, bi_n0, bi_01, hL]
        unfold fitW
        rw [wsd, bi_f (fun hh => cl hh.1)]
    · rw [if_pos c1, if_neg c2] at wsd
      rw [wsd]
      by_cases cl : i + 2 ≤ L
      · have W1 := hW (i + 1) (by omega) (by omega)
        simp (disch := omega) only [↓reduceIte, zinT, wr_id, wrl_id, ltT, ltF, leT, leF, eqT, eqF, ne_eq, not_true_eq_false, not_false_eq_true, Option.bind_some, Ok_some, bi_0, bi_n0, bi_01, hL]
        rw [pu_fits_15_e]
        simp (disch := omega) only [↓reduceIte, zinT, wr_id, wrl_id, ltT, ltF, leT, leF, eqT, eqF, ne_eq, not_true_eq_false, not_false_eq_true, Option.bind_some, Ok_some, bi_0, bi_n0, bi_01, e0, W0.1, show i + 0 = i by omega]
        by_cases d0 : x0 = W i
        · rw [if_pos d0, pu_fits_15_e]
          simp (disch := omega) only [↓reduceIte, zinT, wr_id, wrl_id, ltT, ltF, leT, leF, eqT, eqF, ne_eq, not_true_eq_false, not_false_eq_true, Option.bind_some, Ok_some, bi_0, bi_n0, bi_01, show (0 + 1 : Int) = 1 by omega, e1, W1.1]
          by_cases d1 : x1 = W (i + 1)
          · rw [if_pos d1, show (1 + 1 : Int) = 2 by omega, ends 2 (by omega) (by omega)]
            unfold fitW rwW
            rw [wsd, if_pos (by decide), if_neg (by decide), bi_t ⟨cl, by omega⟩]
          · rw [if_neg d1]
            unfold fitW rwW
            rw [wsd, if_pos (by decide), if_neg (by decide), bi_f (fun hh => d1 (by have := rwW_inj (ro.symm.trans hh.2); omega))]
        · rw [if_neg d0]
          unfold fitW rwW
          rw [wsd, if_pos (by decide), if_neg (by decide), bi_f (fun hh => d0 (by have := rwW_inj (ro.symm.trans hh.2); omega))]
      · simp (disch := omega) only [↓reduceIte, zinT, wr_id, wrl_id, ltT, ltF, leT, leF, eqT, eqF, ne_eq, not_true_eq_false, not_false_eq_true, Option.bind_some, Ok_some, bi_0, bi_n0, bi_01, hL]
        unfold fitW
        rw [wsd, bi_f (fun hh => cl hh.1)]
  · have x2n := z (by omega)
    rw [if_neg c1] at wsd
    rw [wsd]
    simp (disch := omega) only [↓reduceIte, zinT, wr_id, wrl_id, ltT, ltF, leT, leF, eqT, eqF, ne_eq, not_true_eq_false, not_false_eq_true, Option.bind_some, Ok_some, bi_0, bi_n0, bi_01, hL]
    rw [pu_fits_15_e]
    simp (disch := omega) only [↓reduceIte, zinT, wr_id, wrl_id, ltT, ltF, leT, leF, eqT, eqF, ne_eq, not_true_eq_false, not_false_eq_true, Option.bind_some, Ok_some, bi_0, bi_n0, bi_01, e0, W0.1, show i + 0 = i by omega]
    by_cases d0 : x0 = W i
    · rw [if_pos d0, show (0 + 1 : Int) = 1 by omega, ends 1 (by omega) (by omega)]
      unfold fitW rwW
      rw [wsd, if_neg (by decide), if_neg (by decide), bi_t ⟨by omega, by omega⟩]
    · rw [if_neg d0]
      unfold fitW rwW
      rw [wsd, if_neg (by decide), if_neg (by decide), bi_f (fun hh => d0 (by have := rwW_inj (ro.symm.trans hh.2); omega))]
end
