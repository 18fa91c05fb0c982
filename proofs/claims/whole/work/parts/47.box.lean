/-! BOXES. -/
theorem sw_add {s : Int → Int} {i0 k i1 M : Int} (h : i0 ≤ k) (h2 : k ≤ i1) : sw s i0 i1 M = sw s i0 k M + sw s k i1 M := by
  obtain ⟨q, hq⟩ : ∃ q : Nat, i1 = k + q := ⟨(i1 - k).toNat, by omega⟩
  subst hq
  clear h2
  induction q with
  | zero => rw [show k + ((0 : Nat) : Int) = k by omega, sw_z]; omega
  | succ q ih =>
    rw [show k + ((q + 1 : Nat) : Int) = (k + (q : Int)) + 1 by omega, sw_s (by omega), sw_s (by omega), ih]
    omega
theorem sm_all {f g : Int → Int} {n : Int} (hn : 0 ≤ n) (h : ∀ k, 0 ≤ k → k < n → f k ≤ g k) : sm n f ≤ sm n g ∧ (sm n f = sm n g ↔ ∀ k, 0 ≤ k → k < n → f k = g k) := by
  have key : ∀ q : Nat, (q : Int) ≤ n → sm q f ≤ sm q g ∧ (sm q f = sm q g ↔ ∀ k, 0 ≤ k → k < (q : Int) → f k = g k) := by
    intro q
    induction q with
    | zero => intro _; exact ⟨Int.le_refl _, ⟨fun _ k a b => by omega, fun _ => rfl⟩⟩
    | succ q ih =>
      intro hq
      have a := ih (by omega)
      have b := h q (by omega) (by omega)
      rw [show ((q + 1 : Nat) : Int) = (q : Int) + 1 by omega, sm_s f (by omega), sm_s g (by omega)]
      refine ⟨by omega, ⟨fun e k k0 k1 => ?_, fun e => ?_⟩⟩
      · by_cases c : k = q
        · rw [c]; omega
        · exact a.2.mp (by omega) k k0 (by omega)
      · rw [a.2.mpr (fun k k0 k1 => e k k0 (by omega)), e q (by omega) (by omega)]
  obtain ⟨q, rfl⟩ := Int.eq_ofNat_of_zero_le hn
  exact key q (Int.le_refl _)
theorem beq_iff {p q : Prop} [Decidable p] [Decidable q] (h : (decide p == decide q) = true) : p ↔ q := by
  have e := eq_of_beq h
  constructor
  · intro hp; rw [decide_eq_true hp] at e; exact of_decide_eq_true e.symm
  · intro hq; rw [decide_eq_true hq] at e; exact of_decide_eq_true e
theorem pcM {x j0 j1 : Int} (hx : lt6 x) (h0 : 0 ≤ j0) (h1 : j0 ≤ j1) (h2 : j1 ≤ 6) : pc (zbin 3 x (mk j0 j1)) ≤ pc x ∧ (pc (zbin 3 x (mk j0 j1)) = pc x ↔ zbin 3 x (zbin 5 (mk j0 j1) (-1)) = 0) ∧ (pc (zbin 3 x (mk j0 j1)) = 0 ↔ zbin 3 x (mk j0 j1) = 0) := by
  obtain ⟨x, rfl⟩ := Int.eq_ofNat_of_zero_le hx.1
  obtain ⟨j0, rfl⟩ := Int.eq_ofNat_of_zero_le h0
  obtain ⟨j1, rfl⟩ := Int.eq_ofNat_of_zero_le (by omega : 0 ≤ j1)
  have x6 : x < 64 := by have := hx.2; omega
  have n : decide (j1 < j0) = false := decide_eq_false (by omega)
  have a1 := z_pcM1 j1 (by omega) j0 (by omega) x x6
  have a2 := z_pcM2 j1 (by omega) j0 (by omega) x x6
  have a3 := z_pcM3 j1 (by omega) j0 (by omega) x x6
  rw [n, Bool.false_or] at a1 a2 a3
  exact ⟨of_decide_eq_true a1, beq_iff a2, beq_iff a3⟩
theorem z_pc0 : ∀ x : Nat, x < 64 → (pc x = 0 ↔ (x : Int) = 0) := by decide +kernel
theorem pc0 {x : Int} (hx : lt6 x) : pc x = 0 ↔ x = 0 := by
  obtain ⟨x, rfl⟩ := Int.eq_ofNat_of_zero_le hx.1
  exact z_pc0 x (by have := hx.2; omega)
theorem notM {x j0 j1 : Int} (hx : lt6 x) (h0 : 0 ≤ j0) (h1 : j0 ≤ j1) (h2 : j1 ≤ 6) : lt6 (zbin 3 x (zbin 5 (mk j0 j1) (-1))) := by
  obtain ⟨x, rfl⟩ := Int.eq_ofNat_of_zero_le hx.1
  obtain ⟨j0, rfl⟩ := Int.eq_ofNat_of_zero_le h0
  obtain ⟨j1, rfl⟩ := Int.eq_ofNat_of_zero_le (by omega : 0 ≤ j1)
  exact z_notM j1 (by omega) j0 (by omega) (by omega) x (by have := hx.2; omega)
def bxP (s : Int → Int) (l i0 i1 M : Int) : Prop := (∀ i, 0 ≤ i → i < l → if i0 ≤ i ∧ i < i1 then zbin 3 (s i) (zbin 5 M (-1)) = 0 else zbin 3 (s i) M = 0) ∧ ∃ i, i0 ≤ i ∧ i < i1 ∧ s i ≠ 0
noncomputable def bx (s : Int → Int) (l i0 i1 M : Int) : Bool := by
  classical
  exact decide (bxP s l i0 i1 M)
theorem bx_t {s : Int → Int} {l i0 i1 M : Int} : bx s l i0 i1 M = true ↔ bxP s l i0 i1 M := by
  unfold bx
  simp only [decide_eq_true_eq]
theorem sw_0 {s : Int → Int} {i0 i1 M : Int} (h : i0 ≤ i1) : 0 ≤ sw s i0 i1 M ∧ (sw s i0 i1 M = 0 ↔ ∀ k, i0 ≤ k → k < i1 → pc (zbin 3 (s k) M) = 0) := by
  have a := sm_all (f := fun _ => 0) (g := fun k => pc (zbin 3 (s (i0 + k)) M)) (n := i1 - i0) (by omega) (fun k _ _ => (pc_le _).1)
  have z : sm (i1 - i0) (fun _ => 0) = 0 := by
    have := sm_le (g := fun _ => (0 : Int)) (n := i1 - i0) (B := 0) (by omega) (fun _ _ _ => ⟨Int.le_refl _, Int.le_refl _⟩)
    omega
  rw [z] at a
  unfold sw
  refine ⟨a.1, ⟨fun e k k0 k1 => ?_, fun e => ?_⟩⟩
  · have := a.2.mp e.symm (k - i0) (by omega) (by omega)
    rw [show i0 + (k - i0) = k by omega] at this
    exact this.symm
  · exact (a.2.mpr (fun k k0 k1 => (e (i0 + k) (by omega) (by omega)).symm)).symm
theorem bx_class {s : Int → Int} {l m i0 i1 j0 j1 : Int} (h : sOK s l m) (h0 : 0 ≤ i0) (h1 : i0 ≤ i1) (h2 : i1 ≤ l) (h6 : l ≤ 6) (h3 : 0 ≤ j0) (h4 : j0 ≤ j1) (h5 : j1 ≤ m) (hm : m ≤ 6) : (0 < sw s i0 i1 (mk j0 j1) ∧ sw s i0 i1 (mk j0 j1) = sw s i0 i1 (mk 0 m) ∧ sw s i0 i1 (mk j0 j1) = sw s 0 l (mk j0 j1)) ↔ bxP s l i0 i1 (mk j0 j1) := by
  have all : sw s i0 i1 (mk j0 j1) = sw s i0 i1 (mk 0 m) ↔ ∀ i, i0 ≤ i → i < i1 → zbin 3 (s i) (zbin 5 (mk j0 j1) (-1)) = 0 := by
    have a := sm_all (f := fun k => pc (zbin 3 (s (i0 + k)) (mk j0 j1))) (g := fun k => pc (zbin 3 (s (i0 + k)) (mk 0 m))) (n := i1 - i0) (by omega) (fun k k0 k1 => by
      have o := h (i0 + k) (by omega) (by omega)
      (try dsimp only)
      rw [mk_all o.1 (by omega) hm o.2.2]
      exact (pcM o.1 h3 h4 (by omega)).1)
    unfold sw
    refine a.2.trans ⟨fun e i a1 a2 => ?_, fun e k k0 k1 => ?_⟩
    · have o := h i (by omega) (by omega)
      have := e (i - i0) (by omega) (by omega)
      (try dsimp only at this)
      rw [show i0 + (i - i0) = i by omega, mk_all o.1 (by omega) hm o.2.2] at this
      exact (pcM o.1 h3 h4 (by omega)).2.1.mp this
    · have o := h (i0 + k) (by omega) (by omega)
      (try dsimp only)
      rw [mk_all o.1 (by omega) hm o.2.2]
      exact (pcM o.1 h3 h4 (by omega)).2.1.mpr (e (i0 + k) (by omega) (by omega))
  have out : sw s i0 i1 (mk j0 j1) = sw s 0 l (mk j0 j1) ↔ ∀ i, 0 ≤ i → i < l → ¬ (i0 ≤ i ∧ i < i1) → zbin 3 (s i) (mk j0 j1) = 0 := by
    have e1 := sw_add (s := s) (i0 := 0) (k := i0) (i1 := l) (M := mk j0 j1) h0 (by omega)
    have e2 := sw_add (s := s) (i0 := i0) (k := i1) (i1 := l) (M := mk j0 j1) h1 h2
    have z1 := sw_0 (s := s) (i0 := 0) (i1 := i0) (M := mk j0 j1) h0
    have z2 := sw_0 (s := s) (i0 := i1) (i1 := l) (M := mk j0 j1) h2
    refine ⟨fun e i a1 a2 a3 => ?_, fun e => ?_⟩
    · have o := h i (by omega) (by omega)
      refine (pcM o.1 h3 h4 (by omega)).2.2.mp ?_
      by_cases c : i < i0
      · exact z1.2.mp (by omega) i a1 c
      · exact z2.2.mp (by omega) i (by omega) a2
    · have b1 := z1.2.mpr (fun k k0 k1 => (pcM (h k (by omega) (by omega)).1 h3 h4 (by omega)).2.2.mpr (e k k0 (by omega) (by omega)))
      have b2 := z2.2.mpr (fun k k0 k1 => (pcM (h k (by omega) (by omega)).1 h3 h4 (by omega)).2.2.mpr (e k (by omega) k1 (by omega)))
      omega
  have z := sw_0 (s := s) (i0 := i0) (i1 := i1) (M := mk j0 j1) h1
  constructor
  · rintro ⟨p1, p2, p3⟩
    refine ⟨fun i a1 a2 => ?_, ?_⟩
    · by_cases c : i0 ≤ i ∧ i < i1
      · rw [if_pos c]; exact all.mp p2 i c.1 c.2
      · rw [if_neg c]; exact out.mp p3 i a1 a2 c
    · refine Classical.byContradiction (fun hn => ?_)
      have : sw s i0 i1 (mk j0 j1) = 0 := z.2.mpr (fun k k0 k1 => by
        have e : s k = 0 := Classical.byContradiction (fun x => hn ⟨k, k0, k1, x⟩)
        have o := (h k (by omega) (by omega)).1
        have a := (pcM o h3 h4 (by omega)).1
        have b := (pc0 o).mpr e
        have := pc_le (zbin 3 (s k) (mk j0 j1))
        omega)
      omega
  · rintro ⟨p1, i, a1, a2, a3⟩
    have p2 := all.mpr (fun i a b => by have := p1 i (by omega) (by omega); rw [if_pos ⟨a, b⟩] at this; exact this)
    refine ⟨?_, p2, out.mpr (fun i a b c => by have := p1 i a b; rw [if_neg c] at this; exact this)⟩
    refine Classical.byContradiction (fun hn => ?_)
    have z0 := z.2.mp (by omega) i a1 a2
    have o := (h i (by omega) (by omega)).1
    have q := p1 i (by omega) (by omega)
    rw [if_pos ⟨a1, a2⟩] at q
    have r := (pcM o h3 h4 (by omega)).2.1.mpr q
    exact a3 ((pc0 o).mp (by omega))
def sp0 (k : Int) : Int := k / 3
def sp1 (k : Int) : Int := k / 3 + k % 3 + 1
noncomputable def bxo (s : Int → Int) (l m one other : Int) : Bool := decide (sp1 one ≤ l) && (decide (sp1 other ≤ m) && bx s l (sp0 one) (sp1 one) (mk (sp0 other) (sp1 other)))
section
variable {P : zP} {d : zD P} {s E : Int → Int} {l m : Int}
theorem k_isBox (h : lC d E s l m) {one other : Int} (h0 : 0 ≤ one) (h1 : one < 18) (h2 : 0 ≤ other) (h3 : other < 18) : li_isBox d one other = some (bi (bxo s l m one other), d) := by
  have e1 := h.1
  have e2 := h.2.1
  have l1 := h.2.2.1
  have m1 := h.2.2.2.1
  have oS := h.2.2.2.2.2.1
  have s0 : sp0 one = one / 3 := rfl
  have s1 : sp1 one = one / 3 + one % 3 + 1 := rfl
  have s2 : sp0 other = other / 3 := rfl
  have s3 : sp1 other = other / 3 + other % 3 + 1 := rfl
  have r : ∀ x : Int, zdiv 0 one 3 = sp0 one ∧ zdiv 0 one 3 + zdiv 1 one 3 + 1 = sp1 one ∧ zdiv 0 other 3 = sp0 other ∧ zdiv 0 other 3 + zdiv 1 other 3 + 1 = sp1 other := fun _ => by
    rw [zdiv0 (by omega), zdiv0 (by omega), zdiv1 (by omega), zdiv1 (by omega)]
    exact ⟨rfl, rfl, rfl, rfl⟩
  have r1 := (r 0).1
  have r2 := (r 0).2.1
  have r3 := (r 0).2.2.1
  have r4 := (r 0).2.2.2
  rw [r1] at r2
  rw [r3] at r4
  rw [li_isBox_e, li_spanStart_e]
  simp (disch := omega) only [↓reduceIte, zinT, wr_id, wrl_id, ltT, ltF, leT, leF, eqT, eqF, ne_eq, not_true_eq_false, not_false_eq_true, Option.bind_some, Ok_some, bi_0, bi_n0, bi_01, li_spanStart_e, li_spanEnd_e, r1, r2, r3, r4, e1, e2]
  unfold bxo
  by_cases c1 : l < sp1 one
  · rw [if_pos c1, decide_eq_false (by omega)]; rfl
  · rw [if_neg c1, decide_eq_true (by omega)]
    by_cases c2 : sp1 other ≤ m
    · rw [if_pos c2, decide_eq_true c2]
      have w1 := sw_le (s := s) (i0 := sp0 one) (i1 := sp1 one) (M := mk (sp0 other) (sp1 other)) (by omega) (by omega)
      have w2 := sw_le (s := s) (i0 := sp0 one) (i1 := sp1 one) (M := mk 0 m) (by omega) (by omega)
      have w3 := sw_le (s := s) (i0 := 0) (i1 := l) (M := mk (sp0 other) (sp1 other)) (by omega) (by omega)
      have key := bx_class (i0 := sp0 one) (i1 := sp1 one) (j0 := sp0 other) (j1 := sp1 other) oS (by omega) (by omega) (by omega) l1.2 (by omega) (by omega) c2 m1.2
      simp (disch := omega) only [↓reduceIte, zinT, wr_id, wrl_id, ltT, ltF, leT, leF, eqT, eqF, ne_eq, not_true_eq_false, not_false_eq_true, Option.bind_some, Ok_some, bi_0, bi_n0, bi_01, k_linksWithin h, e1, e2]
      by_cases b : bxP s l (sp0 one) (sp1 one) (mk (sp0 other) (sp1 other))
      · have k := key.mpr b
        rw [bx_t.mpr b]
        rw [if_neg (by omega), if_neg (fun x => x k.2.1), if_neg (fun x => x k.2.2)]
        rfl
      · have hb : bx s l (sp0 one) (sp1 one) (mk (sp0 other) (sp1 other)) = false := by
          cases hq : bx s l (sp0 one) (sp1 one) (mk (sp0 other) (sp1 other))
          · rfl
          · exact absurd (bx_t.mp hq) b
        rw [hb]
        by_cases d1 : sw s (sp0 one) (sp1 one) (mk (sp0 other) (sp1 other)) ≤ 0
        · rw [if_pos d1]; rfl
        · rw [if_neg d1]
          by_cases d2 : sw s (sp0 one) (sp1 one) (mk (sp0 other) (sp1 other)) = sw s (sp0 one) (sp1 one) (mk 0 m)
          · rw [if_neg (fun x => x d2)]
            by_cases d3 : sw s (sp0 one) (sp1 one) (mk (sp0 other) (sp1 other)) = sw s 0 l (mk (sp0 other) (sp1 other))
            · exact absurd (key.mp ⟨by omega, d2, d3⟩) b
            · rw [if_pos d3]; rfl
          · rw [if_pos d2]; rfl
    · rw [if_neg c2, decide_eq_false c2]; rfl
theorem n_isBox (h : mL d E s l m) {F : Nat → Int} (hF : d.m 133 = F) {p : Int} (h3 : 0 ≤ p) (h4 : p < 24) (hl : lng F p 0 = l) {a b c e : Int} (ha : 0 ≤ a) (hab : a ≤ b) (hb : b < l) (hc : 0 ≤ c) (hce : c ≤ e) (he : e < m) : m_isBox d p a b c e = some (bi (bx s l a (b + 1) (mk c (e + 1))), d) := by
  obtain ⟨l1, m1, oE, oS, hE, hs⟩ := h
  have mM := mk_6 (j0 := c) (j1 := e + 1) hc (by omega) (by omega)
  rw [m_isBox_e]
  simp (disch := omega) only [↓reduceIte, zinT, wr_id, wrl_id, ltT, ltF, leT, leF, eqT, eqF, ne_eq, not_true_eq_false, not_false_eq_true, Option.bind_some, Ok_some, bi_0, bi_n0, bi_01, n_span]
  refine Ok_eq (lpQ (fun k (y : Int × zV) => m_isBox_8 d p a b (0, c) (0, e) (mk c (e + 1)) y.1 k y.2) (fun k y => (∀ i, 0 ≤ i → i < k → if a ≤ i ∧ i < b + 1 then zbin 3 (s i) (zbin 5 (mk c (e + 1)) (-1)) = 0 else zbin 3 (s i) (mk c (e + 1)) = 0) ∧ ((y.1 = 1 ∧ ∃ i, a ≤ i ∧ i < b + 1 ∧ s i ≠ 0) ∨ (y.1 = 0 ∧ ∀ i, a ≤ i → i < b + 1 → i < k → s i = 0))) 0 l (by omega) (0, (3, 0)) ⟨fun i _ _ => by omega, Or.inr ⟨rfl, fun i _ _ _ => by omega⟩⟩ (fun y hy => ?_) (fun k y hk hk2 hy hnext => ?_))
  · obtain ⟨v, g⟩ := y
    (try dsimp only at hy ⊢)
    rw [m_isBox_8_e]
    simp (disch := omega) only [↓reduceIte, zinT, wr_id, wrl_id, ltT, ltF, leT, leF, eqT, eqF, ne_eq, not_true_eq_false, not_false_eq_true, Option.bind_some, Ok_some, bi_0, bi_n0, bi_01, n_longOf hF, hl]
    rcases hy.2 with ⟨rfl, hx⟩ | ⟨rfl, hx⟩
    · rw [if_pos (Or.inr rfl), bx_t.mpr ⟨hy.1, hx⟩]
      exact Ok_ret ⟨rfl, rfl⟩
    · have hb0 : bx s l a (b + 1) (mk c (e + 1)) = false := by
        cases hq : bx s l a (b + 1) (mk c (e + 1))
        · rfl
        · obtain ⟨-, i, i1, i2, i3⟩ := bx_t.mp hq
          exact absurd (hx i i1 i2 (by omega)) i3
      rw [if_pos (Or.inl rfl), hb0]
      exact Ok_ret ⟨rfl, rfl⟩
  · obtain ⟨v, g⟩ := y
    (try dsimp only at hy ⊢)
    have o := oS k hk (by omega)
    have z1 := z_and6 o.1 mM
    have z2 := notM (j0 := c) (j1 := e + 1) o.1 hc (by omega) (by omega)
    have o1 := o.1
    unfold lt6 at z1 z2 o1
    have no : (¬ (if a ≤ k ∧ k < b + 1 then zbin 3 (s k) (zbin 5 (mk c (e + 1)) (-1)) = 0 else zbin 3 (s k) (mk c (e + 1)) = 0)) → bx s l a (b + 1) (mk c (e + 1)) = false := by
      intro hn
      cases hq : bx s l a (b + 1) (mk c (e + 1))
      · rfl
      · exact absurd ((bx_t.mp hq).1 k hk hk2) hn
    have go : ∀ v2 g2, (if a ≤ k ∧ k < b + 1 then zbin 3 (s k) (zbin 5 (mk c (e + 1)) (-1)) = 0 else zbin 3 (s k) (mk c (e + 1)) = 0) → ((v2 = 1 ∧ ∃ i, a ≤ i ∧ i < b + 1 ∧ s i ≠ 0) ∨ (v2 = 0 ∧ ∀ i, a ≤ i → i < b + 1 → i < k + 1 → s i = 0)) → Ok (m_isBox_8 d p a b (0, c) (0, e) (mk c (e + 1)) v2 (k + 1) g2) (fun v' d' => v' = bi (bx s l a (b + 1) (mk c (e + 1))) ∧ d' = d) := by
      intro v2 g2 q1 q2
      refine hnext (v2, g2) ⟨fun i i0 i1 => ?_, q2⟩
      by_cases c1 : i = k
      · rw [c1]; exact q1
      · exact hy.1 i i0 (by omega)
    rw [m_isBox_8_e]
    by_cases c1 : k < a
    · have n1 : ¬ (a ≤ k ∧ k < b + 1) := by omega
      rw [if_neg n1] at no go
      by_cases c2 : zbin 3 (s k) (mk c (e + 1)) = 0
      · rcases hy.2 with ⟨rfl, hx⟩ | ⟨rfl, hx⟩
        · simp (disch := omega) only [↓reduceIte, zinT, wr_id, wrl_id, ltT, ltF, leT, leF, eqT, eqF, ne_eq, not_true_eq_false, not_false_eq_true, Option.bind_some, Ok_some, bi_0, bi_n0, bi_01, n_longOf hF, hl, hs, if_true]
          exact go _ _ c2 (Or.inl ⟨rfl, hx⟩)
        · simp (disch := omega) only [↓reduceIte, zinT, wr_id, wrl_id, ltT, ltF, leT, leF, eqT, eqF, ne_eq, not_true_eq_false, not_false_eq_true, Option.bind_some, Ok_some, bi_0, bi_n0, bi_01, n_longOf hF, hl, hs, if_true]
          exact go _ _ c2 (Or.inr ⟨rfl, fun i i0 i1 i2 => hx i i0 i1 (by omega)⟩)
      · rw [no c2]
        simp (disch := omega) only [↓reduceIte, zinT, wr_id, wrl_id, ltT, ltF, leT, leF, eqT, eqF, ne_eq, not_true_eq_false, not_false_eq_true, Option.bind_some, Ok_some, bi_0, bi_n0, bi_01, n_longOf hF, hl, hs, if_true]
        exact ⟨rfl, trivial⟩
    · by_cases c3 : b < k
      · have n1 : ¬ (a ≤ k ∧ k < b + 1) := by omega
        rw [if_neg n1] at no go
        by_cases c2 : zbin 3 (s k) (mk c (e + 1)) = 0
        · rcases hy.2 with ⟨rfl, hx⟩ | ⟨rfl, hx⟩
          · simp (disch := omega) only [↓reduceIte, zinT, wr_id, wrl_id, ltT, ltF, leT, leF, eqT, eqF, ne_eq, not_true_eq_false, not_false_eq_true, Option.bind_some, Ok_some, bi_0, bi_n0, bi_01, n_longOf hF, hl, hs, if_true]
            exact go _ _ c2 (Or.inl ⟨rfl, hx⟩)
          · simp (disch := omega) only [↓reduceIte, zinT, wr_id, wrl_id, ltT, ltF, leT, leF, eqT, eqF, ne_eq, not_true_eq_false, not_false_eq_true, Option.bind_some, Ok_some, bi_0, bi_n0, bi_01, n_longOf hF, hl, hs, if_true]
            exact go _ _ c2 (Or.inr ⟨rfl, fun i i0 i1 i2 => hx i i0 i1 (by omega)⟩)
        · rw [no c2]
          simp (disch := omega) only [↓reduceIte, zinT, wr_id, wrl_id, ltT, ltF, leT, leF, eqT, eqF, ne_eq, not_true_eq_false, not_false_eq_true, Option.bind_some, Ok_some, bi_0, bi_n0, bi_01, n_longOf hF, hl, hs, if_true]
          exact ⟨rfl, trivial⟩
      · have n1 : a ≤ k ∧ k < b + 1 := by omega
        rw [if_pos n1] at no go
        by_cases c2 : zbin 3 (s k) (zbin 5 (mk c (e + 1)) (-1)) = 0
        · rcases hy.2 with ⟨rfl, hx⟩ | ⟨rfl, hx⟩
          · simp (disch := omega) only [↓reduceIte, zinT, wr_id, wrl_id, ltT, ltF, leT, leF, eqT, eqF, ne_eq, not_true_eq_false, not_false_eq_true, Option.bind_some, Ok_some, bi_0, bi_n0, bi_01, n_longOf hF, hl, hs]
            exact go _ _ c2 (Or.inl ⟨rfl, hx⟩)
          · by_cases c4 : s k = 0
            · simp (disch := omega) only [↓reduceIte, zinT, wr_id, wrl_id, ltT, ltF, leT, leF, eqT, eqF, ne_eq, not_true_eq_false, not_false_eq_true, Option.bind_some, Ok_some, bi_0, bi_n0, bi_01, n_longOf hF, hl, hs]
              refine go _ _ c2 (Or.inr ⟨rfl, fun i i0 i1 i2 => ?_⟩)
              by_cases c5 : i = k
              · rw [c5]; exact c4
              · exact hx i i0 i1 (by omega)
            · simp (disch := omega) only [↓reduceIte, zinT, wr_id, wrl_id, ltT, ltF, leT, leF, eqT, eqF, ne_eq, not_true_eq_false, not_false_eq_true, Option.bind_some, Ok_some, bi_0, bi_n0, bi_01, n_longOf hF, hl, hs]
              exact go _ _ c2 (Or.inl ⟨rfl, k, n1.1, n1.2, c4⟩)
        · rw [no c2]
          simp (disch := omega) only [↓reduceIte, zinT, wr_id, wrl_id, ltT, ltF, leT, leF, eqT, eqF, ne_eq, not_true_eq_false, not_false_eq_true, Option.bind_some, Ok_some, bi_0, bi_n0, bi_01, n_longOf hF, hl, hs]
          exact ⟨rfl, trivial⟩
end
