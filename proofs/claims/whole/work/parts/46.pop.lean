/-! HOW MANY links. -/
def pc (x : Int) : Int := bi (tb x 0) + (bi (tb x 1) + (bi (tb x 2) + (bi (tb x 3) + (bi (tb x 4) + bi (tb x 5)))))
def mk (j0 j1 : Int) : Int := zbin 6 1 j1 - zbin 6 1 j0
def sw (s : Int → Int) (i0 i1 M : Int) : Int := sm (i1 - i0) (fun k => pc (zbin 3 (s (i0 + k)) M))
def tot (s : Int → Int) : Int := sm 6 (fun i => pc (s i))
theorem pc_le (x : Int) : 0 ≤ pc x ∧ pc x ≤ 6 := by
  have := bi_le (tb x 0); have := bi_le (tb x 1); have := bi_le (tb x 2); have := bi_le (tb x 3); have := bi_le (tb x 4); have := bi_le (tb x 5)
  unfold pc
  omega
theorem pc_0 : pc 0 = 0 := by decide +kernel
theorem z_mk : ∀ j0 : Nat, j0 < 7 → ∀ j1 : Nat, j1 < 7 → j0 ≤ j1 → 0 ≤ mk j0 j1 ∧ mk j0 j1 < 64 := by decide +kernel
theorem mk_6 {j0 j1 : Int} (h0 : 0 ≤ j0) (h1 : j0 ≤ j1) (h2 : j1 ≤ 6) : lt6 (mk j0 j1) := by
  obtain ⟨a, rfl⟩ := Int.eq_ofNat_of_zero_le h0
  obtain ⟨b, rfl⟩ := Int.eq_ofNat_of_zero_le (by omega : 0 ≤ j1)
  exact z_mk a (by omega) b (by omega) (by omega)
theorem z_mkall : ∀ m : Nat, m < 7 → ∀ x : Nat, x < 64 → x < 2 ^ m → zbin 3 x (mk 0 m) = x := by decide +kernel
theorem mk_all {x m : Int} (hx : lt6 x) (h0 : 0 ≤ m) (h1 : m ≤ 6) (hb : ∀ j, m ≤ j → 0 ≤ j → tb x j = false) : zbin 3 x (mk 0 m) = x := by
  obtain ⟨x, rfl⟩ := Int.eq_ofNat_of_zero_le hx.1
  obtain ⟨m, rfl⟩ := Int.eq_ofNat_of_zero_le h0
  refine z_mkall m (by omega) x (by have := hx.2; omega) (Nat.lt_pow_two_of_testBit _ (fun i hi => ?_))
  have := hb i (by omega) (by omega)
  exact this
theorem sw_z (s : Int → Int) (i M : Int) : sw s i i M = 0 := by
  unfold sw
  rw [Int.sub_self]
  rfl
theorem sw_s {s : Int → Int} {i0 k M : Int} (h : i0 ≤ k) : sw s i0 (k + 1) M = sw s i0 k M + pc (zbin 3 (s k) M) := by
  unfold sw
  rw [show k + 1 - i0 = (k - i0) + 1 by omega, sm_s _ (by omega), show i0 + (k - i0) = k by omega]
theorem sw_le {s : Int → Int} {i0 i1 M : Int} (h : i0 ≤ i1) (h2 : i1 ≤ i0 + 6) : 0 ≤ sw s i0 i1 M ∧ sw s i0 i1 M ≤ 36 := by
  have := sm_le (g := fun k => pc (zbin 3 (s (i0 + k)) M)) (n := i1 - i0) (B := 6) (by omega) (fun k _ _ => pc_le _)
  unfold sw
  omega
theorem tot_le (s : Int → Int) : 0 ≤ tot s ∧ tot s ≤ 36 := by
  have := sm_le (g := fun k => pc (s k)) (n := 6) (B := 6) (by omega) (fun k _ _ => pc_le _)
  unfold tot
  omega
theorem sw_tot {s : Int → Int} {l m : Int} (h : sOK s l m) (h0 : 0 ≤ l) (h6 : l ≤ 6) (hm0 : 0 ≤ m) (hm : m ≤ 6) : sw s 0 l (mk 0 m) = tot s := by
  have a : sw s 0 l (mk 0 m) = sm l (fun i => pc (s i)) := by
    unfold sw
    rw [Int.sub_zero]
    refine sm_congr h0 (fun k k0 k1 => ?_)
    have o := h k k0 (by omega)
    (try dsimp only)
    rw [Int.zero_add, mk_all o.1 hm0 hm o.2.2]
  have key : ∀ q : Nat, l + q ≤ 6 → sm (l + q) (fun i => pc (s i)) = sm l (fun i => pc (s i)) := by
    intro q
    induction q with
    | zero => intro _; rw [show l + ((0 : Nat) : Int) = l by omega]
    | succ q ih =>
      intro hq
      have o := h (l + q) (by omega) (by omega)
      rw [show l + ((q + 1 : Nat) : Int) = (l + (q : Int)) + 1 by omega, sm_s _ (by omega), ih (by omega), o.2.1 (by omega), pc_0]
      omega
  have b := key (6 - l).toNat (by omega)
  rw [show l + ((6 - l).toNat : Int) = 6 by omega] at b
  rw [a, ← b]
  rfl
section
variable {P : zP} {d : zD P}
set_option maxRecDepth 100000 in
theorem bc_all : ∀ (P : zP) (d : zD P) (n : Nat), n < 64 → bcI_bitCount d (n : Int) = some (pc n, d) := by
  intro P d n hn
  rw [bcI_bitCount_e]
  have key : ∀ n : Nat, n < 64 → ∀ a0 : Int, a0 = n → ((zbin 3 ((((zbin 3 ((((zbin 3 ((a0 - (zbin 3 ((zbin 8 a0 1)) 1431655765))) 858993459) + (zbin 3 ((zbin 8 ((a0 - (zbin 3 ((zbin 8 a0 1)) 1431655765))) 2)) 858993459)) + (zbin 8 (((zbin 3 ((a0 - (zbin 3 ((zbin 8 a0 1)) 1431655765))) 858993459) + (zbin 3 ((zbin 8 ((a0 - (zbin 3 ((zbin 8 a0 1)) 1431655765))) 2)) 858993459))) 4))) 252645135) + (zbin 8 ((zbin 3 ((((zbin 3 ((a0 - (zbin 3 ((zbin 8 a0 1)) 1431655765))) 858993459) + (zbin 3 ((zbin 8 ((a0 - (zbin 3 ((zbin 8 a0 1)) 1431655765))) 2)) 858993459)) + (zbin 8 (((zbin 3 ((a0 - (zbin 3 ((zbin 8 a0 1)) 1431655765))) 858993459) + (zbin 3 ((zbin 8 ((a0 - (zbin 3 ((zbin 8 a0 1)) 1431655765))) 2)) 858993459))) 4))) 252645135)) 8)) + (zbin 8 (((zbin 3 ((((zbin 3 ((a0 - (zbin 3 ((zbin 8 a0 1)) 1431655765))) 858993459) + (zbin 3 ((zbin 8 ((a0 - (zbin 3 ((zbin 8 a0 1)) 1431655765))) 2)) 858993459)) + (zbin 8 (((zbin 3 ((a0 - (zbin 3 ((zbin 8 a0 1)) 1431655765))) 858993459) + (zbin 3 ((zbin 8 ((a0 - (zbin 3 ((zbin 8 a0 1)) 1431655765))) 2)) 858993459))) 4))) 252645135) + (zbin 8 ((zbin 3 ((((zbin 3 ((a0 - (zbin 3 ((zbin 8 a0 1)) 1431655765))) 858993459) + (zbin 3 ((zbin 8 ((a0 - (zbin 3 ((zbin 8 a0 1)) 1431655765))) 2)) 858993459)) + (zbin 8 (((zbin 3 ((a0 - (zbin 3 ((zbin 8 a0 1)) 1431655765))) 858993459) + (zbin 3 ((zbin 8 ((a0 - (zbin 3 ((zbin 8 a0 1)) 1431655765))) 2)) 858993459))) 4))) 252645135)) 8))) 16))) 63)) = pc n := by
    have k2 : ∀ n : Nat, n < 64 → ((zbin 3 (((((zbin 3 (((((zbin 3 ((((n : Int) - (zbin 3 ((zbin 8 (n : Int) 1)) 1431655765)))) 858993459) + (zbin 3 ((zbin 8 ((((n : Int) - (zbin 3 ((zbin 8 (n : Int) 1)) 1431655765)))) 2)) 858993459)) + (zbin 8 (((zbin 3 ((((n : Int) - (zbin 3 ((zbin 8 (n : Int) 1)) 1431655765)))) 858993459) + (zbin 3 ((zbin 8 ((((n : Int) - (zbin 3 ((zbin 8 (n : Int) 1)) 1431655765)))) 2)) 858993459))) 4)))) 252645135) + (zbin 8 ((zbin 3 (((((zbin 3 ((((n : Int) - (zbin 3 ((zbin 8 (n : Int) 1)) 1431655765)))) 858993459) + (zbin 3 ((zbin 8 ((((n : Int) - (zbin 3 ((zbin 8 (n : Int) 1)) 1431655765)))) 2)) 858993459)) + (zbin 8 (((zbin 3 ((((n : Int) - (zbin 3 ((zbin 8 (n : Int) 1)) 1431655765)))) 858993459) + (zbin 3 ((zbin 8 ((((n : Int) - (zbin 3 ((zbin 8 (n : Int) 1)) 1431655765)))) 2)) 858993459))) 4)))) 252645135)) 8)) + (zbin 8 ((((zbin 3 (((((zbin 3 ((((n : Int) - (zbin 3 ((zbin 8 (n : Int) 1)) 1431655765)))) 858993459) + (zbin 3 ((zbin 8 ((((n : Int) - (zbin 3 ((zbin 8 (n : Int) 1)) 1431655765)))) 2)) 858993459)) + (zbin 8 (((zbin 3 ((((n : Int) - (zbin 3 ((zbin 8 (n : Int) 1)) 1431655765)))) 858993459) + (zbin 3 ((zbin 8 ((((n : Int) - (zbin 3 ((zbin 8 (n : Int) 1)) 1431655765)))) 2)) 858993459))) 4)))) 252645135) + (zbin 8 ((zbin 3 (((((zbin 3 ((((n : Int) - (zbin 3 ((zbin 8 (n : Int) 1)) 1431655765)))) 858993459) + (zbin 3 ((zbin 8 ((((n : Int) - (zbin 3 ((zbin 8 (n : Int) 1)) 1431655765)))) 2)) 858993459)) + (zbin 8 (((zbin 3 ((((n : Int) - (zbin 3 ((zbin 8 (n : Int) 1)) 1431655765)))) 858993459) + (zbin 3 ((zbin 8 ((((n : Int) - (zbin 3 ((zbin 8 (n : Int) 1)) 1431655765)))) 2)) 858993459))) 4)))) 252645135)) 8)))) 16)))) 63)) = pc n := by decide +kernel
    intro n hn a0 ha
    subst ha
    exact k2 n hn
  rw [key n hn n rfl]
theorem k_bc {x : Int} (h : lt6 x) : bcI_bitCount d x = some (pc x, d) := by
  obtain ⟨n, rfl⟩ := Int.eq_ofNat_of_zero_le h.1
  exact bc_all P d n (by have := h.2; omega)
theorem z_down : ∀ n : Nat, n < 64 → n ≠ 0 → 0 ≤ zbin 3 n ((n : Int) - 1) ∧ zbin 3 n ((n : Int) - 1) < n ∧ pc n = pc (zbin 3 n ((n : Int) - 1)) + 1 := by decide +kernel
theorem n_sizeOf4 : ∀ (n : Nat) (x : Int), x.toNat ≤ n → lt6 x → ∀ (g : zV) (c : Int), m_sizeOf_4 d g c x = some (c + pc x, d)
  | 0, x, hn, hx, g, c => by
    have e : x = 0 := by have := hx.1; omega
    subst e
    rw [m_sizeOf_4_e]
    simp (disch := omega) only [↓reduceIte, zinT, wr_id, wrl_id, ltT, ltF, leT, leF, eqT, eqF, ne_eq, not_true_eq_false, not_false_eq_true, Option.bind_some, Ok_some, bi_0, bi_n0, bi_01, pc_0, if_true, Int.add_zero]
  | n + 1, x, hn, hx, g, c => by
    rw [m_sizeOf_4_e]
    by_cases e : x = 0
    · subst e
      simp (disch := omega) only [↓reduceIte, zinT, wr_id, wrl_id, ltT, ltF, leT, leF, eqT, eqF, ne_eq, not_true_eq_false, not_false_eq_true, Option.bind_some, Ok_some, bi_0, bi_n0, bi_01, pc_0, if_true, Int.add_zero]
    · obtain ⟨q, rfl⟩ := Int.eq_ofNat_of_zero_le hx.1
      have z := z_down q (by have := hx.2; omega) (by omega)
      have := hx.2
      simp (disch := omega) only [↓reduceIte, zinT, wr_id, wrl_id, ltT, ltF, leT, leF, eqT, eqF, ne_eq, not_true_eq_false, not_false_eq_true, Option.bind_some, Ok_some, bi_0, bi_n0, bi_01]
      rw [n_sizeOf4 n _ (by omega) ⟨z.1, by omega⟩]
      rw [z.2.2]
      congr 2
      omega
theorem n_sizeOf {x : Int} (h : lt6 x) : m_sizeOf d x = some (pc x, d) := by
  rw [m_sizeOf_e, n_sizeOf4 _ _ (Nat.le_refl _) h, Int.zero_add]
variable {s E : Int → Int} {l m : Int}
theorem k_linksWithin (h : lC d E s l m) {i0 i1 j0 j1 : Int} (h0 : 0 ≤ i0) (h1 : i0 ≤ i1) (h2 : i1 ≤ l) (h3 : 0 ≤ j0) (h4 : j0 ≤ j1) (h5 : j1 ≤ 6) : li_linksWithin d i0 i1 j0 j1 = some (sw s i0 i1 (mk j0 j1), d) := by
  obtain ⟨e1, e2, l1, m1, oE, oS, hE, hs⟩ := h
  have em : zbin 6 1 j1 - zbin 6 1 j0 = mk j0 j1 := rfl
  have m6 := mk_6 h3 h4 h5
  rw [li_linksWithin_e, em]
  simp (disch := omega) only [↓reduceIte, zinT, wr_id, wrl_id, ltT, ltF, leT, leF, eqT, eqF, ne_eq, not_true_eq_false, not_false_eq_true, Option.bind_some, Ok_some, bi_0, bi_n0, bi_01]
  refine Ok_eq (lpQ (fun k (t : Int) => li_linksWithin_14 d (0, i0) i1 (0, j0) (0, j1) (mk j0 j1) t k) (fun k t => t = sw s i0 k (mk j0 j1)) i0 i1 h1 0 (sw_z _ _ _).symm (fun t ht => ?_) (fun k t hk hk2 ht hnext => ?_))
  · subst ht
    (try dsimp only)
    rw [li_linksWithin_14_e]
    simp (disch := omega) only [↓reduceIte, zinT, wr_id, wrl_id, ltT, ltF, leT, leF, eqT, eqF, ne_eq, not_true_eq_false, not_false_eq_true, Option.bind_some, Ok_some, bi_0, bi_n0, bi_01]
    exact ⟨trivial, trivial⟩
  · have z := z_and6 (oS k (by omega) (by omega)).1 m6
    (try dsimp only)
    rw [li_linksWithin_14_e]
    simp (disch := omega) only [↓reduceIte, zinT, wr_id, wrl_id, ltT, ltF, leT, leF, eqT, eqF, ne_eq, not_true_eq_false, not_false_eq_true, Option.bind_some, Ok_some, bi_0, bi_n0, bi_01, e1, hs, k_bc z]
    refine hnext _ ?_
    rw [sw_s hk, ht]
theorem k_size (h : lC d E s l m) : li_size d = some (tot s, d) := by
  have e1 := h.1
  have e2 := h.2.1
  have l1 := h.2.2.1
  have m1 := h.2.2.2.1
  rw [li_size_e]
  simp (disch := omega) only [↓reduceIte, zinT, wr_id, wrl_id, ltT, ltF, leT, leF, eqT, eqF, ne_eq, not_true_eq_false, not_false_eq_true, Option.bind_some, Ok_some, bi_0, bi_n0, bi_01, e1, e2, k_linksWithin h]
  rw [sw_tot h.2.2.2.2.2.1 (by omega) l1.2 (by omega) m1.2]
theorem n_linksMany (h : mL d E s l m) : m_linksMany d = some (tot s, d) := by
  obtain ⟨l1, m1, oE, oS, hE, hs⟩ := h
  have key := lpS (fun k t => m_linksMany_4 d t k) (fun i => pc (s i)) 6 (by omega) (fun k t hk hk2 _ => by
    have o := (oS k hk hk2).1
    (try dsimp only)
    rw [m_linksMany_4_e]
    simp (disch := omega) only [↓reduceIte, zinT, wr_id, wrl_id, ltT, ltF, leT, leF, eqT, eqF, ne_eq, not_true_eq_false, not_false_eq_true, Option.bind_some, Ok_some, bi_0, bi_n0, bi_01, hs, n_sizeOf o])
  (try dsimp only at key)
  rw [m_linksMany_e, key, m_linksMany_4_e]
  simp (disch := omega) only [↓reduceIte, zinT, wr_id, wrl_id, ltT, ltF, leT, leF, eqT, eqF, ne_eq, not_true_eq_false, not_false_eq_true, Option.bind_some, Ok_some, bi_0, bi_n0, bi_01]
  rfl
theorem n_span {a b : Int} : m_span d a b = some (mk a (b + 1), d) := by
  rw [m_span_e]
  rfl
def acr (s : Int → Int) (a b c e i j : Int) (t : Bool) : Int := if t then sw s a i (mk c j) + sw s i (b + 1) (mk j (e + 1)) else sw s a i (mk j (e + 1)) + sw s i (b + 1) (mk c j)
theorem n_goAcross (h : mL d E s l m) {a b c e i j : Int} {t : Bool} (h0 : 0 ≤ a) (h1 : a ≤ i) (h2 : i ≤ b + 1) (h3 : b < l) (h4 : 0 ≤ c) (h5 : c ≤ j) (h6 : j ≤ e + 1) (h7 : e < m) : m_goAcross d a b c e i j (bi t) = some (acr s a b c e i j t, d) := by
  obtain ⟨l1, m1, oE, oS, hE, hs⟩ := h
  have ma := mk_6 h4 h5 (by omega)
  have mb := mk_6 (j0 := j) (j1 := e + 1) (by omega) h6 (by omega)
  rw [m_goAcross_e]
  simp (disch := omega) only [↓reduceIte, zinT, wr_id, wrl_id, ltT, ltF, leT, leF, eqT, eqF, ne_eq, not_true_eq_false, not_false_eq_true, Option.bind_some, Ok_some, bi_0, bi_n0, bi_01, n_span]
  rw [show j - 1 + 1 = j by omega]
  refine Ok_eq (lpQ (fun k (y : Int) => m_goAcross_14 d (0, a) b (0, c) (0, e) i (0, j) (bi t) (mk c j) (mk j (e + 1)) y k) (fun k y => y = if k ≤ i then sw s a k (if t then mk c j else mk j (e + 1)) else sw s a i (if t then mk c j else mk j (e + 1)) + sw s i k (if t then mk j (e + 1) else mk c j)) a (b + 1) (by omega) 0 ?_ (fun y hy => ?_) (fun k y hk hk2 hy hnext => ?_))
  · rw [if_pos h1, sw_z]
  · (try dsimp only)
    rw [m_goAcross_14_e]
    simp (disch := omega) only [↓reduceIte, zinT, wr_id, wrl_id, ltT, ltF, leT, leF, eqT, eqF, ne_eq, not_true_eq_false, not_false_eq_true, Option.bind_some, Ok_some, bi_0, bi_n0, bi_01]
    rw [hy]
    unfold acr
    by_cases c1 : b + 1 ≤ i
    · have : i = b + 1 := by omega
      subst this
      rw [if_pos (Int.le_refl _), sw_z, sw_z]
      cases t <;> simp
    · rw [if_neg c1]
      cases t <;> simp
  · have za := z_and6 (oS k (by omega) (by omega)).1 ma
    have zb := z_and6 (oS k (by omega) (by omega)).1 mb
    have nx : ∀ M, (if k < i then (if t then mk c j else mk j (e + 1)) else (if t then mk j (e + 1) else mk c j)) = M → Ok (m_goAcross_14 d (0, a) b (0, c) (0, e) i (0, j) (bi t) (mk c j) (mk j (e + 1)) (y + pc (zbin 3 (s k) M)) (k + 1)) (fun v' d' => v' = acr s a b c e i j t ∧ d' = d) := by
      intro M hM
      refine hnext _ ?_
      subst hM
      rw [hy]
      by_cases c1 : k < i
      · rw [if_pos (by omega : k ≤ i), if_pos c1, if_pos (by omega : k + 1 ≤ i), sw_s hk]
      · rw [if_neg c1, if_neg (by omega : ¬ k + 1 ≤ i), sw_s (by omega : i ≤ k)]
        by_cases c2 : k ≤ i
        · have : k = i := by omega
          subst this
          rw [if_pos c2, sw_z]
          omega
        · rw [if_neg c2]
          omega
    (try dsimp only)
    rw [m_goAcross_14_e]
    by_cases c1 : i ≤ k
    · have n1 : ¬ k < i := by omega
      rw [if_neg n1] at nx
      cases t
      · simp (disch := omega) only [↓reduceIte, zinT, wr_id, wrl_id, ltT, ltF, leT, leF, eqT, eqF, ne_eq, not_true_eq_false, not_false_eq_true, Option.bind_some, Ok_some, bi_0, bi_n0, bi_01, hs, n_sizeOf za, bi, if_false, Bool.false_eq_true]
        exact nx _ rfl
      · simp (disch := omega) only [↓reduceIte, zinT, wr_id, wrl_id, ltT, ltF, leT, leF, eqT, eqF, ne_eq, not_true_eq_false, not_false_eq_true, Option.bind_some, Ok_some, bi_0, bi_n0, bi_01, hs, n_sizeOf zb, bi, if_true]
        exact nx _ rfl
    · have n1 : k < i := by omega
      rw [if_pos n1] at nx
      cases t
      · simp (disch := omega) only [↓reduceIte, zinT, wr_id, wrl_id, ltT, ltF, leT, leF, eqT, eqF, ne_eq, not_true_eq_false, not_false_eq_true, Option.bind_some, Ok_some, bi_0, bi_n0, bi_01, hs, n_sizeOf zb, bi, if_false, Bool.false_eq_true]
        exact nx _ rfl
      · simp (disch := omega) only [↓reduceIte, zinT, wr_id, wrl_id, ltT, ltF, leT, leF, eqT, eqF, ne_eq, not_true_eq_false, not_false_eq_true, Option.bind_some, Ok_some, bi_0, bi_n0, bi_01, hs, n_sizeOf za, bi, if_true]
        exact nx _ rfl
end
