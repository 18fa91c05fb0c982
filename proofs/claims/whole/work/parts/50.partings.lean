/-! IN HOW MANY WAYS A PAIR COMES APART. -/
def prX (s : Int → Int) (f : Int → Int → Int → Int → Int) (a w c h x y : Int) : Int := (if acr s a (a + w) c (c + h) (a + x) (c + y) false = 0 then f a (x - 1) c (y - 1) * f (a + x) (w - x) (c + y) (h - y) else 0) + (if acr s a (a + w) c (c + h) (a + x) (c + y) true = 0 then f a (x - 1) (c + y) (h - y) * f (a + x) (w - x) c (y - 1) else 0)
def prY (s : Int → Int) (f : Int → Int → Int → Int → Int) (a w c h x n : Int) : Int := sm n (fun y => prX s f a w c h x (y + 1))
def prS (s : Int → Int) (f : Int → Int → Int → Int → Int) (a w c h n : Int) : Int := sm n (fun x => prY s f a w c h (x + 1) h)
def prB (s : Int → Int) (f : Int → Int → Int → Int → Int) (a w c h : Int) : Int := if w = 0 ∨ h = 0 then 1 else prS s f a w c h w
def prT (s : Int → Int) (n : Nat) : Int → Int → Int → Int → Int := Nat.rec (motive := fun _ => Int → Int → Int → Int → Int) (fun _ _ _ _ => 0) (fun n f a w c h => if w < (n : Int) then f a w c h else prB s f a w c h) n
def pr (s : Int → Int) (a w c h : Int) : Int := prT s (w.toNat + 1) a w c h
theorem prT_s {s : Int → Int} {n : Nat} {a w c h : Int} : prT s (n + 1) a w c h = if w < (n : Int) then prT s n a w c h else prB s (prT s n) a w c h := rfl
theorem prT_st {s : Int → Int} : ∀ (n : Nat) (a w c h : Int), 0 ≤ w → w < n → prT s n a w c h = pr s a w c h
  | 0, _, _, _, _, _, hn => by omega
  | n + 1, a, w, c, h, h0, hn => by
    rw [prT_s]
    by_cases e : w < (n : Int)
    · rw [if_pos e]; exact prT_st n a w c h h0 e
    · have e2 : w.toNat = n := by omega
      unfold pr
      rw [e2, prT_s]
theorem prB_congr {s : Int → Int} {f g : Int → Int → Int → Int → Int} {a w c h : Int} (hw : 0 ≤ w) (hh : 0 ≤ h) (hfg : ∀ a' w' c' h', 0 ≤ w' → w' < w → f a' w' c' h' = g a' w' c' h') : prB s f a w c h = prB s g a w c h := by
  unfold prB
  by_cases e : w = 0 ∨ h = 0
  · rw [if_pos e, if_pos e]
  · rw [if_neg e, if_neg e]
    refine sm_congr hw (fun x x0 x1 => ?_)
    refine sm_congr hh (fun y y0 y1 => ?_)
    (try dsimp only)
    unfold prX
    rw [hfg _ (x + 1 - 1) _ _ (by omega) (by omega), hfg _ (w - (x + 1)) _ _ (by omega) (by omega), hfg a (x + 1 - 1) (c + (y + 1)) _ (by omega) (by omega), hfg _ (w - (x + 1)) c _ (by omega) (by omega)]
theorem pr_eq {s : Int → Int} {a w c h : Int} (hw : 0 ≤ w) (hh : 0 ≤ h) : pr s a w c h = prB s (pr s) a w c h := by
  have e : pr s a w c h = prT s (w.toNat + 1) a w c h := rfl
  rw [e, prT_s, if_neg (by omega)]
  exact prB_congr hw hh (fun a' w' c' h' x0 x1 => prT_st _ _ _ _ _ x0 (by omega))
theorem acr_0 {s : Int → Int} {a b c e i j : Int} {t : Bool} (h1 : a ≤ i) (h2 : i ≤ b + 1) (h3 : i ≤ a + 6) (h4 : b + 1 ≤ i + 6) : 0 ≤ acr s a b c e i j t ∧ acr s a b c e i j t ≤ 72 := by
  have w1 := sw_le (s := s) (i0 := a) (i1 := i) (M := mk c j) h1 (by omega)
  have w2 := sw_le (s := s) (i0 := i) (i1 := b + 1) (M := mk j (e + 1)) h2 (by omega)
  have w3 := sw_le (s := s) (i0 := a) (i1 := i) (M := mk j (e + 1)) h1 (by omega)
  have w4 := sw_le (s := s) (i0 := i) (i1 := b + 1) (M := mk c j) h2 (by omega)
  unfold acr
  cases t
  · simp; omega
  · simp; omega
section
variable {P : zP} {d : zD P} {s E : Int → Int} {l m : Int}
/-- a table of parts that is right where c says so: p, q, i, j -/
def pTab (t : zD P) (s : Int → Int) (l m : Int) (c : Int → Int → Int → Int → Prop) : Prop := ∀ p q i j, 1 ≤ p → 0 ≤ i → i + p ≤ l → 1 ≤ q → 0 ≤ j → j + q ≤ m → c p q i j → t.m 121 (zix (((((((i * 7) + p) * 7) + j) * 7) + q))) = pr s i (p - 1) j (q - 1)
theorem k_waysOfPart (h : lC d E s l m) {i p j q : Int} (h0 : 0 ≤ i) (h1 : 2 ≤ p) (h2 : i + p ≤ l) (h3 : 0 ≤ j) (h4 : 2 ≤ q) (h5 : j + q ≤ m) (hT : pTab d s l m (fun p' _ _ _ => p' < p)) : sh_waysOfPart d i p j q = some (pr s i (p - 1) j (q - 1), d) := by
  have l1 := h.2.2.1
  have m1 := h.2.2.2.1
  rw [sh_waysOfPart_e]
  refine Ok_eq (lpQ (fun x (y : Int × zV × zV × zV × zV) => sh_waysOfPart_4 d i p j q y.1 y.2.1 x y.2.2.1 y.2.2.2.1 y.2.2.2.2) (fun x y => y.1 = prS s (pr s) i (p - 1) j (q - 1) (x - 1)) 1 p (by omega) (0, (3, 0), (3, 0), (3, 0), (3, 0)) rfl (fun y hy => ?_) (fun x y hx hx2 hy hnext => ?_))
  · obtain ⟨v, g1, g2, g3, g4⟩ := y
    (try dsimp only at hy ⊢)
    rw [sh_waysOfPart_4_e]
    simp (disch := omega) only [↓reduceIte, zinT, wr_id, wrl_id, ltT, ltF, leT, leF, eqT, eqF, ne_eq, not_true_eq_false, not_false_eq_true, Option.bind_some, Ok_some, bi_0, bi_n0, bi_01]
    refine ⟨?_, trivial⟩
    rw [hy, pr_eq (by omega) (by omega)]
    unfold prB
    rw [if_neg (by omega)]
  · obtain ⟨v, g1, g2, g3, g4⟩ := y
    (try dsimp only at hy ⊢)
    rw [sh_waysOfPart_4_e]
    simp (disch := omega) only [↓reduceIte, zinT, wr_id, wrl_id, ltT, ltF, leT, leF, eqT, eqF, ne_eq, not_true_eq_false, not_false_eq_true, Option.bind_some, Ok_some, bi_0, bi_n0, bi_01]
    refine lpQ (fun y (u : Int × zV × zV × zV) => sh_waysOfPart_9 d i p j q u.1 u.2.1 x y u.2.2.1 u.2.2.2) (fun y u => u.1 = v + prY s (pr s) i (p - 1) j (q - 1) x (y - 1)) 1 q (by omega) (v, g1, g3, g4) (Int.add_zero _).symm (fun u hu => ?_) (fun y u hy0 hy1 hu hnext2 => ?_)
    · obtain ⟨v2, g1, g3, g4⟩ := u
      (try dsimp only at hu ⊢)
      rw [sh_waysOfPart_9_e]
      simp (disch := omega) only [↓reduceIte, zinT, wr_id, wrl_id, ltT, ltF, leT, leF, eqT, eqF, ne_eq, not_true_eq_false, not_false_eq_true, Option.bind_some, Ok_some, bi_0, bi_n0, bi_01]
      refine hnext (_, _, _, _, _) ?_
      (try dsimp only)
      unfold prS
      rw [show x + 1 - 1 = (x - 1) + 1 by omega, sm_s _ (by omega), show x - 1 + 1 = x by omega, hu, hy]
      rfl
    · obtain ⟨v2, g1, g3, g4⟩ := u
      (try dsimp only at hu ⊢)
      have A1 := k_linksWithin h (i0 := i) (i1 := i + x) (j0 := j + y) (j1 := j + q) (by omega) (by omega) (by omega) (by omega) (by omega) (by omega)
      have A2 := k_linksWithin h (i0 := i + x) (i1 := i + p) (j0 := j) (j1 := j + y) (by omega) (by omega) (by omega) (by omega) (by omega) (by omega)
      have B1 := k_linksWithin h (i0 := i) (i1 := i + x) (j0 := j) (j1 := j + y) (by omega) (by omega) (by omega) (by omega) (by omega) (by omega)
      have B2 := k_linksWithin h (i0 := i + x) (i1 := i + p) (j0 := j + y) (j1 := j + q) (by omega) (by omega) (by omega) (by omega) (by omega) (by omega)
      have a1 := sw_le (s := s) (i0 := i) (i1 := i + x) (M := mk (j + y) (j + q)) (by omega) (by omega)
      have a2 := sw_le (s := s) (i0 := i + x) (i1 := i + p) (M := mk j (j + y)) (by omega) (by omega)
      have b1 := sw_le (s := s) (i0 := i) (i1 := i + x) (M := mk j (j + y)) (by omega) (by omega)
      have b2 := sw_le (s := s) (i0 := i + x) (i1 := i + p) (M := mk (j + y) (j + q)) (by omega) (by omega)
      have t1 := hT x y i j hx h0 (by omega) hy0 h3 (by omega) hx2
      have t2 := hT (p - x) (q - y) (i + x) (j + y) (by omega) (by omega) (by omega) (by omega) (by omega) (by omega) (by omega)
      have t3 := hT x (q - y) i (j + y) hx h0 (by omega) (by omega) (by omega) (by omega) hx2
      have t4 := hT (p - x) y (i + x) j (by omega) (by omega) (by omega) (by omega) (by omega) (by omega) (by omega)
      have eA : acr s i (i + (p - 1)) j (j + (q - 1)) (i + x) (j + y) false = sw s i (i + x) (mk (j + y) (j + q)) + sw s (i + x) (i + p) (mk j (j + y)) := by
        unfold acr
        rw [show i + (p - 1) + 1 = i + p by omega, show j + (q - 1) + 1 = j + q by omega]
        simp
      have eB : acr s i (i + (p - 1)) j (j + (q - 1)) (i + x) (j + y) true = sw s i (i + x) (mk j (j + y)) + sw s (i + x) (i + p) (mk (j + y) (j + q)) := by
        unfold acr
        rw [show i + (p - 1) + 1 = i + p by omega, show j + (q - 1) + 1 = j + q by omega]
        simp
      have fin : ∀ v3, v3 = v2 + prX s (pr s) i (p - 1) j (q - 1) x y → ∀ g1 g3 g4 : zV, Ok (sh_waysOfPart_9 d i p j q v3 g1 x (y + 1) g3 g4) (fun v' d' => v' = pr s i (p - 1) j (q - 1) ∧ d' = d) := by
        intro v3 hv g1 g3 g4
        refine hnext2 (v3, g1, g3, g4) ?_
        (try dsimp only)
        unfold prY
        rw [show y + 1 - 1 = (y - 1) + 1 by omega, sm_s _ (by omega), show y - 1 + 1 = y by omega, hv, hu]
        unfold prY
        omega
      have eX : prX s (pr s) i (p - 1) j (q - 1) x y = (if sw s i (i + x) (mk (j + y) (j + q)) + sw s (i + x) (i + p) (mk j (j + y)) = 0 then pr s i (x - 1) j (y - 1) * pr s (i + x) (p - x - 1) (j + y) (q - y - 1) else 0) + (if sw s i (i + x) (mk j (j + y)) + sw s (i + x) (i + p) (mk (j + y) (j + q)) = 0 then pr s i (x - 1) (j + y) (q - y - 1) * pr s (i + x) (p - x - 1) j (y - 1) else 0) := by
        unfold prX
        rw [eA, eB, show p - 1 - x = p - x - 1 by omega, show q - 1 - y = q - y - 1 by omega]
      rw [eX] at fin
      have st132 : ∀ v3, v3 = v2 + ((if sw s i (i + x) (mk (j + y) (j + q)) + sw s (i + x) (i + p) (mk j (j + y)) = 0 then pr s i (x - 1) j (y - 1) * pr s (i + x) (p - x - 1) (j + y) (q - y - 1) else 0) + (if sw s i (i + x) (mk j (j + y)) + sw s (i + x) (i + p) (mk (j + y) (j + q)) = 0 then pr s i (x - 1) (j + y) (q - y - 1) * pr s (i + x) (p - x - 1) j (y - 1) else 0)) → ∀ g1 g3 g4 : zV, Ok (sh_waysOfPart_132 d i p j q v3 g1 x y g3 g4) (fun v' d' => v' = pr s i (p - 1) j (q - 1) ∧ d' = d) := by
        intro v3 hv g1 g3 g4
        rw [sh_waysOfPart_132_e]
        exact fin v3 hv g1 g3 g4
      have st102 : ∀ v3 (f : Int), v3 = v2 + (if sw s i (i + x) (mk (j + y) (j + q)) + sw s (i + x) (i + p) (mk j (j + y)) = 0 then pr s i (x - 1) j (y - 1) * pr s (i + x) (p - x - 1) (j + y) (q - y - 1) else 0) → ((f = 0 ∧ sw s i (i + x) (mk j (j + y)) + sw s (i + x) (i + p) (mk (j + y) (j + q)) = 0) ∨ (f = 1 ∧ ¬ sw s i (i + x) (mk j (j + y)) + sw s (i + x) (i + p) (mk (j + y) (j + q)) = 0)) → ∀ g1 g3 : zV, Ok (sh_waysOfPart_102 d i p j q v3 g1 x y g3 f) (fun v' d' => v' = pr s i (p - 1) j (q - 1) ∧ d' = d) := by
        intro v3 f hv hf g1 g3
        rw [sh_waysOfPart_102_e]
        rcases hf with ⟨rfl, c⟩ | ⟨rfl, c⟩
        · simp (disch := omega) only [↓reduceIte, zinT, wr_id, wrl_id, ltT, ltF, leT, leF, eqT, eqF, ne_eq, not_true_eq_false, not_false_eq_true, Option.bind_some, Ok_some, bi_0, bi_n0, bi_01, sh_index_e, t3, t4, if_false]
          refine st132 _ ?_ _ _ _
          rw [if_pos c, hv]
          omega
        · simp (disch := omega) only [↓reduceIte, zinT, wr_id, wrl_id, ltT, ltF, leT, leF, eqT, eqF, ne_eq, not_true_eq_false, not_false_eq_true, Option.bind_some, Ok_some, bi_0, bi_n0, bi_01, if_true]
          refine st132 _ ?_ _ _ _
          rw [if_neg c, hv]
          omega
      have st68 : ∀ (f f2 : Int) (g1 g3 : zV), ((f = 0 ∧ sw s i (i + x) (mk (j + y) (j + q)) + sw s (i + x) (i + p) (mk j (j + y)) = 0) ∨ (f = 1 ∧ ¬ sw s i (i + x) (mk (j + y) (j + q)) + sw s (i + x) (i + p) (mk j (j + y)) = 0)) → ((f2 = 0 ∧ sw s i (i + x) (mk j (j + y)) + sw s (i + x) (i + p) (mk (j + y) (j + q)) = 0) ∨ (f2 = 1 ∧ ¬ sw s i (i + x) (mk j (j + y)) + sw s (i + x) (i + p) (mk (j + y) (j + q)) = 0)) → Ok (if wr f ≠ 0 then sh_waysOfPart_102 d i p j q v2 g1 x y (0, f) f2 else ((sh_index d i x j y).bind fun q11 => (if zin q11.1 2401 then ((sh_index q11.2 (i + x) (p - x) (j + y) (q - y)).bind fun q12 => (if zin q12.1 2401 then sh_waysOfPart_102 q12.2 i p j q (v2 + ((q11.2.m 121 (zix q11.1)) * (q12.2.m 121 (zix q12.1)))) (3, 0) x y (0, f) f2 else none)) else none))) (fun v' d' => v' = pr s i (p - 1) j (q - 1) ∧ d' = d) := by
        intro f f2 g1 g3 hf hf2
        rcases hf with ⟨rfl, c⟩ | ⟨rfl, c⟩
        · simp (disch := omega) only [↓reduceIte, zinT, wr_id, wrl_id, ltT, ltF, leT, leF, eqT, eqF, ne_eq, not_true_eq_false, not_false_eq_true, Option.bind_some, Ok_some, bi_0, bi_n0, bi_01, sh_index_e, t1, t2, if_false]
          refine st102 _ f2 ?_ hf2 _ _
          rw [if_pos c]
        · simp (disch := omega) only [↓reduceIte, zinT, wr_id, wrl_id, ltT, ltF, leT, leF, eqT, eqF, ne_eq, not_true_eq_false, not_false_eq_true, Option.bind_some, Ok_some, bi_0, bi_n0, bi_01, if_true]
          refine st102 _ f2 ?_ hf2 _ _
          rw [if_neg c]
          omega
      have along : ∀ (f : Int) (g1 g3 g4 : zV), ((f = 0 ∧ sw s i (i + x) (mk (j + y) (j + q)) + sw s (i + x) (i + p) (mk j (j + y)) = 0) ∨ (f = 1 ∧ ¬ sw s i (i + x) (mk (j + y) (j + q)) + sw s (i + x) (i + p) (mk j (j + y)) = 0)) → 0 < sw s i (i + x) (mk j (j + y)) + sw s (i + x) (i + p) (mk (j + y) (j + q)) → Ok (sh_waysOfPart_68 d i p j q v2 g1 x y f g4) (fun v' d' => v' = pr s i (p - 1) j (q - 1) ∧ d' = d) := by
        intro f g1 g3 g4 hf hc
        rw [sh_waysOfPart_68_e]
        exact st68 f 1 g1 g3 hf (Or.inr ⟨rfl, by omega⟩)
      rw [sh_waysOfPart_9_e]
      simp (disch := omega) only [↓reduceIte, zinT, wr_id, wrl_id, ltT, ltF, leT, leF, eqT, eqF, ne_eq, not_true_eq_false, not_false_eq_true, Option.bind_some, Ok_some, bi_0, bi_n0, bi_01, A1]
      by_cases c1 : 0 < sw s i (i + x) (mk (j + y) (j + q)) + sw s (i + x) (i + p) (mk j (j + y))
      · have st38 : ∀ (g1 g3 g4 : zV), Ok (sh_waysOfPart_38 d i p j q v2 g1 x y g3 g4) (fun v' d' => v' = pr s i (p - 1) j (q - 1) ∧ d' = d) := by
          intro g1 g3 g4
          rw [sh_waysOfPart_38_e]
          simp (disch := omega) only [↓reduceIte, zinT, wr_id, wrl_id, ltT, ltF, leT, leF, eqT, eqF, ne_eq, not_true_eq_false, not_false_eq_true, Option.bind_some, Ok_some, bi_0, bi_n0, bi_01, B1]
          by_cases c2 : 0 < sw s i (i + x) (mk j (j + y))
          · rw [if_pos c2]
            exact along 1 _ (3, 0) _ (Or.inr ⟨rfl, by omega⟩) (by omega)
          · rw [if_neg c2]
            simp (disch := omega) only [↓reduceIte, zinT, wr_id, wrl_id, ltT, ltF, leT, leF, eqT, eqF, ne_eq, not_true_eq_false, not_false_eq_true, Option.bind_some, Ok_some, bi_0, bi_n0, bi_01, B2]
            by_cases c3 : sw s (i + x) (i + p) (mk (j + y) (j + q)) ≤ 0
            · simp (disch := omega) only [↓reduceIte, zinT, wr_id, wrl_id, ltT, ltF, leT, leF, eqT, eqF, ne_eq, not_true_eq_false, not_false_eq_true, Option.bind_some, Ok_some, bi_0, bi_n0, bi_01, if_true]
              exact st102 _ 0 (by rw [if_neg (by omega)]; omega) (Or.inl ⟨rfl, by omega⟩) _ _
            · simp (disch := omega) only [↓reduceIte, zinT, wr_id, wrl_id, ltT, ltF, leT, leF, eqT, eqF, ne_eq, not_true_eq_false, not_false_eq_true, Option.bind_some, Ok_some, bi_0, bi_n0, bi_01]
              exact along 1 _ (3, 0) _ (Or.inr ⟨rfl, by omega⟩) (by omega)
        by_cases c4 : 0 < sw s i (i + x) (mk (j + y) (j + q))
        · rw [if_pos c4]
          exact st38 _ _ _
        · rw [if_neg c4]
          simp (disch := omega) only [↓reduceIte, zinT, wr_id, wrl_id, ltT, ltF, leT, leF, eqT, eqF, ne_eq, not_true_eq_false, not_false_eq_true, Option.bind_some, Ok_some, bi_0, bi_n0, bi_01, A2]
          exact st38 _ _ _
      · simp (disch := omega) only [↓reduceIte, zinT, wr_id, wrl_id, ltT, ltF, leT, leF, eqT, eqF, ne_eq, not_true_eq_false, not_false_eq_true, Option.bind_some, Ok_some, bi_0, bi_n0, bi_01, A2, B1]
        by_cases c2 : 0 < sw s i (i + x) (mk j (j + y))
        · rw [if_pos c2]
          exact along 0 _ (3, 0) _ (Or.inl ⟨rfl, by omega⟩) (by omega)
        · rw [if_neg c2]
          simp (disch := omega) only [↓reduceIte, zinT, wr_id, wrl_id, ltT, ltF, leT, leF, eqT, eqF, ne_eq, not_true_eq_false, not_false_eq_true, Option.bind_some, Ok_some, bi_0, bi_n0, bi_01, B2]
          by_cases c3 : sw s (i + x) (i + p) (mk (j + y) (j + q)) ≤ 0
          · simp (disch := omega) only [↓reduceIte, zinT, wr_id, wrl_id, ltT, ltF, leT, leF, eqT, eqF, ne_eq, not_true_eq_false, not_false_eq_true, Option.bind_some, Ok_some, bi_0, bi_n0, bi_01, sh_index_e, t1, t2]
            exact st102 _ 0 (by rw [if_pos (by omega)]) (Or.inl ⟨rfl, by omega⟩) _ _
          · simp (disch := omega) only [↓reduceIte, zinT, wr_id, wrl_id, ltT, ltF, leT, leF, eqT, eqF, ne_eq, not_true_eq_false, not_false_eq_true, Option.bind_some, Ok_some, bi_0, bi_n0, bi_01]
            exact along 0 _ (3, 0) _ (Or.inl ⟨rfl, by omega⟩) (by omega)
end
