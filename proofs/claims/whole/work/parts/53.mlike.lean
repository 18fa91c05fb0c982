/-! LETTERS IN COMMON: the model; both ways alike. -/
def lke (F : Nat → Int) (u v : Int) : Int → Int → Bool := fun i j => decide (ltr F 0 u i = ltr F 1 v j)
def lik (F : Nat → Int) (u v : Int) : Int := Lcol (lke F u v) (ltn F 1 v) (ltn F 0 u)
theorem Lcol_congr {e f : Int → Int → Bool} : ∀ (j : Nat) (n : Int), 0 ≤ n → (∀ i k : Int, 0 ≤ i → i < n → 0 ≤ k → k < j → e i k = f i k) → ∀ i : Int, 0 ≤ i → i ≤ n → Lcol e j i = Lcol f j i
  | 0, n, hn, h, i, _, _ => rfl
  | j + 1, n, hn, h, i, i0, i1 => by
    rw [show ((j + 1 : Nat) : Int) = (j : Int) + 1 by omega, Lcol_s (by omega), Lcol_s (by omega)]
    exact ncol_congr i0 (fun k k0 k1 => h k j k0 (by omega) (by omega) (by omega)) (fun k k0 k1 => Lcol_congr j n hn (fun a b a0 a1 b0 b1 => h a b a0 a1 b0 (by omega)) k k0 (by omega))
theorem Lcol_r {e : Int → Int → Bool} {i j : Int} (hi : 0 ≤ i) (hj : 0 ≤ j) : Lcol e (j + 1) (i + 1) = if e i j then Lcol e j i + 1 else if Lcol e (j + 1) i < Lcol e j (i + 1) then Lcol e j (i + 1) else Lcol e (j + 1) i := by
  rw [Lcol_s hj, ncol_s hi]
theorem Lcol_sym {e : Int → Int → Bool} : ∀ (i j : Nat), Lcol e j i = Lcol (fun a b => e b a) i j
  | 0, j => by rw [show ((0 : Nat) : Int) = 0 from rfl, Lcol_0 (by omega)]; rfl
  | i + 1, 0 => by rw [show ((0 : Nat) : Int) = 0 from rfl, Lcol_0 (by omega)]; rfl
  | i + 1, j + 1 => by
    rw [show ((i + 1 : Nat) : Int) = (i : Int) + 1 by omega, show ((j + 1 : Nat) : Int) = (j : Int) + 1 by omega, Lcol_r (by omega) (by omega), Lcol_r (by omega) (by omega)]
    have a := Lcol_sym (e := e) i j
    have b := Lcol_sym (e := e) i (j + 1)
    have c := Lcol_sym (e := e) (i + 1) j
    rw [show ((j + 1 : Nat) : Int) = (j : Int) + 1 by omega] at b
    rw [show ((i + 1 : Nat) : Int) = (i : Int) + 1 by omega] at c
    rw [a, b, c]
    (try dsimp only)
    split
    · rfl
    · split <;> split <;> omega
section
variable {P : zP} {d : zD P} {F : Nat → Int}
theorem key_ok (hw : WF F) {s w : Int} (h1 : 0 ≤ s) (h2 : s < 2) (h3 : 0 ≤ w) (h4 : w < wds F s) : gOK (ltn F s w) (fun k => ltr F s w k) := by
  have a := hw.ltn_ h1 h2 h3 h4
  exact ⟨by omega, fun k k0 k1 => hw.ltr_ h1 h2 h3 h4 k0 k1⟩
/-- the class's way from side 0 -/
theorem k_common0 (hw : WF F) {u v : Int} (hu : 0 ≤ u) (hu2 : u < wds F 0) (hv : 0 ≤ v) (hv2 : v < wds F 1) : wl_commonLetters d (key F 0 u) (key F 1 v) = some (lik F u v, d) := by
  have a := key_ok hw (s := 0) (by omega) (by omega) hu hu2
  have b := key_ok hw (s := 1) (by omega) (by omega) hv hv2
  have an := a.1
  have bn := b.1
  have e : wl_commonLetters d (key F 0 u) (key F 1 v) = _ := k_commonLetters a b
  rw [e]
  congr 2
  unfold lik
  obtain ⟨N, hN⟩ := Int.eq_ofNat_of_zero_le bn.1
  rw [hN]
  refine Lcol_congr N (ltn F 0 u) an.1 (fun i k i0 i1 k0 k1 => ?_) _ an.1 (Int.le_refl _)
  unfold lke cg
  rw [if_pos i1, if_pos (by omega)]
  refine dec_iff ?_
  (try dsimp only)
  omega
theorem k_common1 (hw : WF F) {u v : Int} (hu : 0 ≤ u) (hu2 : u < wds F 0) (hv : 0 ≤ v) (hv2 : v < wds F 1) : wl_commonLetters d (key F 1 v) (key F 0 u) = some (lik F u v, d) := by
  have a := key_ok hw (s := 0) (by omega) (by omega) hu hu2
  have b := key_ok hw (s := 1) (by omega) (by omega) hv hv2
  have an := a.1
  have bn := b.1
  have e : wl_commonLetters d (key F 1 v) (key F 0 u) = _ := k_commonLetters b a
  rw [e]
  congr 2
  unfold lik
  obtain ⟨N, hN⟩ := Int.eq_ofNat_of_zero_le bn.1
  obtain ⟨M, hM⟩ := Int.eq_ofNat_of_zero_le an.1
  have s := Lcol_sym (e := lke F u v) M N
  rw [← hN, ← hM] at s
  rw [s, hM]
  refine Lcol_congr M (ltn F 1 v) bn.1 (fun i k i0 i1 k0 k1 => ?_) _ bn.1 (Int.le_refl _)
  unfold lke cg
  rw [if_pos i1, if_pos (by omega)]
  refine dec_iff ?_
  (try dsimp only)
  omega
theorem lik_le (hw : WF F) {u v : Int} (hu : 0 ≤ u) (hu2 : u < wds F 0) (hv : 0 ≤ v) (hv2 : v < wds F 1) : 0 ≤ lik F u v ∧ lik F u v ≤ 7 := by
  have a := hw.ltn_ (s := 0) (by omega) (by omega) hu hu2
  have b := hw.ltn_ (s := 1) (by omega) (by omega) hv hv2
  obtain ⟨N, hN⟩ := Int.eq_ofNat_of_zero_le (by omega : 0 ≤ ltn F 1 v)
  have := Lcol_le (e := lke F u v) N (ltn F 0 u) (by omega)
  unfold lik
  rw [hN]
  omega
theorem n_likenessOf (hF : d.m 133 = F) (hw : WF F) {u v : Int} (hu : 0 ≤ u) (hu2 : u < wds F 0) (hv : 0 ≤ v) (hv2 : v < wds F 1) : Ok (m_likenessOf d u v) (fun x d' => x = lik F u v ∧ Fr 146 147 d d') := by
  have w0 := hw.wds_ (s := 0) (by omega) (by omega)
  have w1 := hw.wds_ (s := 1) (by omega) (by omega)
  have a := hw.ltn_ (s := 0) (by omega) (by omega) hu hu2
  have b := hw.ltn_ (s := 1) (by omega) (by omega) hv hv2
  have Lb : ∀ i j : Int, 0 ≤ i → 0 ≤ j → j ≤ 7 → 0 ≤ Lcol (lke F u v) j i ∧ Lcol (lke F u v) j i ≤ 7 := fun i j i0 j0 j1 => by
    obtain ⟨N, rfl⟩ := Int.eq_ofNat_of_zero_le j0
    have := Lcol_le (e := lke F u v) N i i0
    omega
  rw [m_likenessOf_e]
  refine lpD (fun k t => m_likenessOf_2 t u v k (3, 0) (3, 0)) (fun k t => Fr 146 147 d t ∧ ∀ i, 0 ≤ i → i < k → t.m 146 (zix i) = 0) 0 64 (by omega) d ⟨Fr.rf, fun i _ _ => by omega⟩ (fun t hi => ?_) (fun k t hk hk2 hi hnext => ?_)
  · (try dsimp only)
    rw [m_likenessOf_2_e]
    simp (disch := omega) only [↓reduceIte, zinT, wr_id, wrl_id, ltT, ltF, leT, leF, eqT, eqF, ne_eq, not_true_eq_false, not_false_eq_true, Option.bind_some, Ok_some, bi_0, bi_n0, bi_01]
    refine lpM (fun i t (y : zV × zV) => m_likenessOf_14 t u v i y.1 y.2) (fun i t _ => Fr 146 147 d t ∧ ∀ i' j', 0 ≤ i' → i' ≤ ltn F 0 u → 0 ≤ j' → j' ≤ ltn F 1 v → (i' < i ∨ j' = 0) → t.m 146 (zix ((8 * i') + j')) = Lcol (lke F u v) j' i') 1 (ltn F 0 u + 1) (by omega) t ((3, 0), (3, 0)) ⟨hi.1, fun i' j' a1 a2 a3 a4 a5 => ?_⟩ (fun t y hi => ?_) (fun i t y hi0 hi1 hi hnext => ?_)
    · rw [hi.2 _ (by omega) (by omega)]
      rcases a5 with h | h
      · rw [show i' = 0 by omega, Lcol_0 a3]
      · rw [h]; rfl
    · obtain ⟨g4, g5⟩ := y
      have hF' : t.m 133 = F := (hi.1 133 (by omega)).trans hF
      have e := hi.2 (ltn F 0 u) (ltn F 1 v) (by omega) (by omega) (by omega) (by omega) (by omega)
      (try dsimp only)
      rw [m_likenessOf_14_e]
      simp (disch := omega) only [↓reduceIte, zinT, wr_id, wrl_id, ltT, ltF, leT, leF, eqT, eqF, ne_eq, not_true_eq_false, not_false_eq_true, Option.bind_some, Ok_some, bi_0, bi_n0, bi_01, n_lettersOf hF', e]
      exact ⟨rfl, hi.1⟩
    · obtain ⟨g4, g5⟩ := y
      have hF' : t.m 133 = F := (hi.1 133 (by omega)).trans hF
      (try dsimp only)
      rw [m_likenessOf_14_e]
      simp (disch := omega) only [↓reduceIte, zinT, wr_id, wrl_id, ltT, ltF, leT, leF, eqT, eqF, ne_eq, not_true_eq_false, not_false_eq_true, Option.bind_some, Ok_some, bi_0, bi_n0, bi_01, n_lettersOf hF']
      refine lpM (fun j t (g5 : zV) => m_likenessOf_22 t u v i j g5) (fun j t _ => Fr 146 147 d t ∧ ∀ i' j', 0 ≤ i' → i' ≤ ltn F 0 u → 0 ≤ j' → j' ≤ ltn F 1 v → (i' < i ∨ j' = 0 ∨ (i' = i ∧ j' < j)) → t.m 146 (zix ((8 * i') + j')) = Lcol (lke F u v) j' i') 1 (ltn F 1 v + 1) (by omega) t g5 ⟨hi.1, fun i' j' a1 a2 a3 a4 a5 => hi.2 i' j' a1 a2 a3 a4 (by omega)⟩ (fun t g5 hj => ?_) (fun j t g5 hj0 hj1 hj hnext2 => ?_)
      · have hF' : t.m 133 = F := (hj.1 133 (by omega)).trans hF
        (try dsimp only)
        rw [m_likenessOf_22_e]
        simp (disch := omega) only [↓reduceIte, zinT, wr_id, wrl_id, ltT, ltF, leT, leF, eqT, eqF, ne_eq, not_true_eq_false, not_false_eq_true, Option.bind_some, Ok_some, bi_0, bi_n0, bi_01, n_lettersOf hF']
        refine hnext _ (_, _) ?_
        exact ⟨hj.1, fun i' j' a1 a2 a3 a4 a5 => hj.2 i' j' a1 a2 a3 a4 (by omega)⟩
      · have hF' : t.m 133 = F := (hj.1 133 (by omega)).trans hF
        have x1 := hw.ltr_ (s := 0) (k := i - 1) (by omega) (by omega) hu hu2 (by omega) (by omega)
        have x2 := hw.ltr_ (s := 1) (k := j - 1) (by omega) (by omega) hv hv2 (by omega) (by omega)
        have t8 := hj.2 (i - 1) j (by omega) (by omega) (by omega) (by omega) (by omega)
        have t9 := hj.2 (i - 1) (j - 1) (by omega) (by omega) (by omega) (by omega) (by omega)
        have t1 := hj.2 i (j - 1) (by omega) (by omega) (by omega) (by omega) (by omega)
        rw [show 8 * (i - 1) + j = 8 * i + j - 8 by omega] at t8
        rw [show 8 * (i - 1) + (j - 1) = 8 * i + j - 9 by omega] at t9
        rw [show 8 * i + (j - 1) = 8 * i + j - 1 by omega] at t1
        have q8 := Lb (i - 1) j (by omega) (by omega) (by omega)
        have q9 := Lb (i - 1) (j - 1) (by omega) (by omega) (by omega)
        have q1 := Lb i (j - 1) (by omega) (by omega) (by omega)
        have r := Lcol_r (e := lke F u v) (i := i - 1) (j := j - 1) (by omega) (by omega)
        rw [show i - 1 + 1 = i by omega, show j - 1 + 1 = j by omega] at r
        have go : ∀ x, x = Lcol (lke F u v) j i → ∀ g5 : zV, Ok (m_likenessOf_22 (t.up 146 (zix ((8 * i) + j)) x) u v i (j + 1) g5) (fun x d' => x = lik F u v ∧ Fr 146 147 d d') := by
          intro x hx g5
          subst hx
          refine hnext2 _ _ ⟨hj.1.up (by omega) (by omega), fun i' j' a1 a2 a3 a4 a5 => ?_⟩
          rw [u_146, zfu_z (by omega)]
          by_cases c : 8 * i' + j' = 8 * i + j
          · have : i' = i ∧ j' = j := by omega
            rw [if_pos c, this.1, this.2]
          · rw [if_neg c]
            exact hj.2 i' j' a1 a2 a3 a4 (by omega)
        (try dsimp only)
        rw [m_likenessOf_22_e]
        simp (disch := omega) only [↓reduceIte, zinT, wr_id, wrl_id, ltT, ltF, leT, leF, eqT, eqF, ne_eq, not_true_eq_false, not_false_eq_true, Option.bind_some, Ok_some, bi_0, bi_n0, bi_01, n_lettersOf hF', n_letterOf hF']
        by_cases c : ltr F 0 u (i - 1) = ltr F 1 v (j - 1)
        · have e : lke F u v (i - 1) (j - 1) = true := decide_eq_true c
          rw [if_pos e] at r
          simp (disch := omega) only [↓reduceIte, zinT, wr_id, wrl_id, ltT, ltF, leT, leF, eqT, eqF, ne_eq, not_true_eq_false, not_false_eq_true, Option.bind_some, Ok_some, bi_0, bi_n0, bi_01, t9]
          exact go _ r.symm _
        · have e : lke F u v (i - 1) (j - 1) = false := decide_eq_false c
          rw [if_neg (by rw [e]; decide)] at r
          have mx := n_max (d := t) (a := Lcol (lke F u v) j (i - 1)) (b := Lcol (lke F u v) (j - 1) i) (by unfold I32; omega)
          simp (disch := omega) only [↓reduceIte, zinT, wr_id, wrl_id, ltT, ltF, leT, leF, eqT, eqF, ne_eq, not_true_eq_false, not_false_eq_true, Option.bind_some, Ok_some, bi_0, bi_n0, bi_01, t8, t1, mx]
          refine go _ ?_ _
          rw [r]
          split <;> split <;> omega
  · (try dsimp only)
    rw [m_likenessOf_2_e]
    simp (disch := omega) only [↓reduceIte, zinT, wr_id, wrl_id, ltT, ltF, leT, leF, eqT, eqF, ne_eq, not_true_eq_false, not_false_eq_true, Option.bind_some, Ok_some, bi_0, bi_n0, bi_01]
    refine hnext _ ?_
    refine ⟨hi.1.up (by omega) (by omega), ?_⟩
    rw [u_146]
    exact zfu_next (g := fun _ => 0) hi.2 hk (by omega)
theorem n_firstWeight (hF : d.m 133 = F) (hw : WF F) {w u v : Int} (h1 : 0 ≤ w) (h2 : w < 2) (hu : 0 ≤ u) (hu2 : u < wds F w) (hv : 0 ≤ v) (hv2 : v < wds F (1 - w)) : Ok (m_firstWeight d w u v) (fun x d' => x = (if ltd F = 0 then 1 else 1 + 3 * (if w = 0 then lik F u v else lik F v u)) ∧ Fr 146 147 d d') := by
  have e2 : F (zix 2) = ltd F := rfl
  have hl := hw.ltd_
  rw [m_firstWeight_e]
  by_cases c : ltd F = 0
  · simp (disch := omega) only [↓reduceIte, zinT, wr_id, wrl_id, ltT, ltF, leT, leF, eqT, eqF, ne_eq, not_true_eq_false, not_false_eq_true, Option.bind_some, Ok_some, bi_0, bi_n0, bi_01, hF, e2, if_true]
    exact ⟨trivial, Fr.rf⟩
  · rcases (by omega : w = 0 ∨ w = 1) with rfl | rfl
    · rw [show (1 : Int) - 0 = 1 by omega] at hv2
      have b := lik_le hw hu hu2 hv hv2
      simp (disch := omega) only [↓reduceIte, zinT, wr_id, wrl_id, ltT, ltF, leT, leF, eqT, eqF, ne_eq, not_true_eq_false, not_false_eq_true, Option.bind_some, Ok_some, bi_0, bi_n0, bi_01, hF, e2, if_true]
      refine Ok_bind (n_likenessOf hF hw hu hu2 hv hv2) (fun x d' f => ?_)
      obtain ⟨rfl, f⟩ := f
      simp (disch := omega) only [↓reduceIte, zinT, wr_id, wrl_id, ltT, ltF, leT, leF, eqT, eqF, ne_eq, not_true_eq_false, not_false_eq_true, Option.bind_some, Ok_some, bi_0, bi_n0, bi_01, if_true]
      exact ⟨trivial, f⟩
    · rw [show (1 : Int) - 1 = 0 by omega] at hv2
      have b := lik_le hw hv hv2 hu hu2
      simp (disch := omega) only [↓reduceIte, zinT, wr_id, wrl_id, ltT, ltF, leT, leF, eqT, eqF, ne_eq, not_true_eq_false, not_false_eq_true, Option.bind_some, Ok_some, bi_0, bi_n0, bi_01, hF, e2]
      refine Ok_bind (n_likenessOf hF hw hv hv2 hu hu2) (fun x d' f => ?_)
      obtain ⟨rfl, f⟩ := f
      simp (disch := omega) only [↓reduceIte, zinT, wr_id, wrl_id, ltT, ltF, leT, leF, eqT, eqF, ne_eq, not_true_eq_false, not_false_eq_true, Option.bind_some, Ok_some, bi_0, bi_n0, bi_01]
      exact ⟨trivial, f⟩
end
