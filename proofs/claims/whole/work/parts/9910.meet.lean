/-! PAIRS COME: the class's partners met. -/
theorem lbit_or {X v : Int} (hX : 0 ≤ X ∧ X < 1099511627776) (hv : 0 ≤ v ∧ v < 40) : (0 ≤ zlbin 4 X (zlsh 0 1 v) ∧ zlbin 4 X (zlsh 0 1 v) < 1099511627776) ∧ ∀ w : Int, 0 ≤ w → (zlbin 4 X (zlsh 0 1 v)).toNat.testBit w.toNat = ((X.toNat.testBit w.toNat) || decide (w = v)) := by
  obtain ⟨a, rfl⟩ := Int.eq_ofNat_of_zero_le hX.1
  obtain ⟨k, rfl⟩ := Int.eq_ofNat_of_zero_le hv.1
  have p : (1 <<< k : Nat) = 2 ^ k := by rw [Nat.shiftLeft_eq, Nat.one_mul]
  have pk : 2 ^ k ≤ 2 ^ 39 := Nat.pow_le_pow_right (by omega) (by omega)
  have e0 : zlsh 0 1 (k : Int) = ((2 ^ k : Nat) : Int) := by
    have := l0 (a := 1) (k := k) (by omega) (by rw [p]; omega)
    rw [p] at this
    exact this
  have lt : a ||| 2 ^ k < 2 ^ 40 := Nat.or_lt_two_pow (n := 40) (by omega) (by omega)
  have e1 : zlbin 4 (a : Int) (zlsh 0 1 (k : Int)) = ((a ||| 2 ^ k : Nat) : Int) := by rw [e0, l4 (by omega) (by omega)]
  rw [e1]
  refine ⟨by omega, fun w w0 => ?_⟩
  rw [Int.toNat_natCast, Nat.testBit_or, Nat.testBit_two_pow, Int.toNat_natCast]
  congr 1
  exact dec_iff (by omega)
/-- what is met by now -/
def mt (G : Nat → Int) (c : Int → Int → Int → Prop) (s u v : Int) : Prop := ∃ p i j, (0 ≤ p ∧ p < prs G) ∧ (0 ≤ i ∧ i < lng G p 0) ∧ (0 ≤ j ∧ j < lng G p 1) ∧ c p i j ∧ ((s = 0 ∧ u = wrd G p 0 i ∧ v = wrd G p 1 j) ∨ (s = 1 ∧ u = wrd G p 1 j ∧ v = wrd G p 0 i))
/-- a state of the class, without partners -/
def RepB (m : Nat → Nat → Int) (b : Nat) (F : Nat → Int) : Prop := m (b + 1) 6 = prs F
  ∧ (∀ s, 0 ≤ s → s < 2 → m (b + 2) (zix s) = wds F s)
  ∧ (∀ s w, 0 ≤ s → s < 2 → 0 ≤ w → w < wds F s → m (b + 3 + (1 + zix s)) (zix w) = key F s w)
  ∧ (∀ s p, 0 ≤ s → s < 2 → 0 ≤ p → p < prs F → m (b + 9 + (1 + zix s)) (zix p) = lng F p s)
  ∧ (∀ s p i, 0 ≤ s → s < 2 → 0 ≤ p → p < prs F → 0 ≤ i → i < lng F p s → m (b + 12 + (1 + zix s)) (zix ((p * 6) + i)) = wrd F p s i)
  ∧ (∀ p i, 0 ≤ p → p < 24 → 0 ≤ i → i < 6 → m (b + 15) (zix ((p * 6) + i)) = if p < prs F then tld F p i else 0)
  ∧ m b 5 = ltd F ∧ m b 6 = plc F ∧ m b 7 = lst F
theorem mt_put {G : Nat → Int} {c c' : Int → Int → Int → Prop} {p i j : Int} (h1 : 0 ≤ p ∧ p < prs G) (h2 : 0 ≤ i ∧ i < lng G p 0) (h3 : 0 ≤ j ∧ j < lng G p 1) (hc : ∀ a b e, c' a b e ↔ (c a b e ∨ (a = p ∧ b = i ∧ e = j))) (s u v : Int) : mt G c' s u v ↔ (mt G c s u v ∨ ((s = 0 ∧ u = wrd G p 0 i ∧ v = wrd G p 1 j) ∨ (s = 1 ∧ u = wrd G p 1 j ∧ v = wrd G p 0 i))) := by
  constructor
  · rintro ⟨p', i', j', a1, a2, a3, a4, a5⟩
    rcases (hc _ _ _).mp a4 with h | ⟨rfl, rfl, rfl⟩
    · exact Or.inl ⟨p', i', j', a1, a2, a3, h, a5⟩
    · exact Or.inr a5
  · rintro (⟨p', i', j', a1, a2, a3, a4, a5⟩ | h)
    · exact ⟨p', i', j', a1, a2, a3, (hc _ _ _).mpr (Or.inl a4), a5⟩
    · exact ⟨p, i, j, h1, h2, h3, (hc _ _ _).mpr (Or.inr ⟨rfl, rfl, rfl⟩), h⟩
theorem mt_co {G : Nat → Int} {c c' : Int → Int → Int → Prop} (hc : ∀ a b e, 0 ≤ a → a < prs G → 0 ≤ b → b < lng G a 0 → 0 ≤ e → e < lng G a 1 → (c' a b e ↔ c a b e)) (s u v : Int) : mt G c' s u v ↔ mt G c s u v := by
  constructor
  · rintro ⟨p', i', j', a1, a2, a3, a4, a5⟩
    exact ⟨p', i', j', a1, a2, a3, (hc _ _ _ a1.1 a1.2 a2.1 a2.2 a3.1 a3.2).mp a4, a5⟩
  · rintro ⟨p', i', j', a1, a2, a3, a4, a5⟩
    exact ⟨p', i', j', a1, a2, a3, (hc _ _ _ a1.1 a1.2 a2.1 a2.2 a3.1 a3.2).mpr a4, a5⟩
section
variable {P : zP} {d t : zD P} {G : Nat → Int}
def MB (t : zD P) (G : Nat → Int) (c : Int → Int → Int → Prop) : Prop := ∀ s u v, 0 ≤ s → s < 2 → 0 ≤ u → u < 40 → 0 ≤ v → v < 40 → (0 ≤ t.m (19 + (1 + zix s)) (zix u) ∧ t.m (19 + (1 + zix s)) (zix u) < 1099511627776) ∧ ((t.m (19 + (1 + zix s)) (zix u)).toNat.testBit v.toNat = true ↔ mt G c s u v)
theorem MB_co {c c' : Int → Int → Int → Prop} (h : MB t G c) (hc : ∀ a b e, 0 ≤ a → a < prs G → 0 ≤ b → b < lng G a 0 → 0 ≤ e → e < lng G a 1 → (c' a b e ↔ c a b e)) : MB t G c' := fun s u v s0 s1 u0 u1 v0 v1 => by
  have a := h s u v s0 s1 u0 u1 v0 v1
  exact ⟨a.1, a.2.trans (mt_co hc s u v).symm⟩
def m2S : Nat → Prop := fun r => r = 20 ∨ r = 21
theorem MB_put {c c' : Int → Int → Int → Prop} {p i j : Int} (h : MB t G c) (h1 : 0 ≤ p ∧ p < prs G) (h2 : 0 ≤ i ∧ i < lng G p 0) (h3 : 0 ≤ j ∧ j < lng G p 1) (hu : 0 ≤ wrd G p 0 i ∧ wrd G p 0 i < 40) (hv : 0 ≤ wrd G p 1 j ∧ wrd G p 1 j < 40) (hc : ∀ a b e, c' a b e ↔ (c a b e ∨ (a = p ∧ b = i ∧ e = j))) : MB ((t.up 20 (zix (wrd G p 0 i)) (zlbin 4 (t.m 20 (zix (wrd G p 0 i))) (zlsh 0 1 (wrd G p 1 j)))).up 21 (zix (wrd G p 1 j)) (zlbin 4 (t.m 21 (zix (wrd G p 1 j))) (zlsh 0 1 (wrd G p 0 i)))) G c' := fun s u v s0 s1 u0 u1 v0 v1 => by
  have z0 : zix 0 = 0 := by rw [zix_id (by omega)]; rfl
  have z1 : zix 1 = 1 := by rw [zix_id (by omega)]; rfl
  have pt := mt_put (G := G) h1 h2 h3 hc s u v
  rw [pt]
  rcases (by omega : s = 0 ∨ s = 1) with rfl | rfl
  · have a := h 0 u v (by omega) (by omega) u0 u1 v0 v1
    have b := h 0 (wrd G p 0 i) v (by omega) (by omega) hu.1 hu.2 v0 v1
    rw [z0] at a b ⊢
    have o := lbit_or (X := t.m (19 + (1 + 0)) (zix (wrd G p 0 i))) (v := wrd G p 1 j) b.1 hv
    show (0 ≤ (((t.up 20 _ _).up 21 _ _).m 20 (zix u)) ∧ (((t.up 20 _ _).up 21 _ _).m 20 (zix u)) < _) ∧ ((((t.up 20 _ _).up 21 _ _).m 20 (zix u)).toNat.testBit v.toNat = true ↔ _)
    rw [up_ne (show (20 : Nat) ≠ 21 by decide), u_20, zfu_z (by omega)]
    by_cases e : u = wrd G p 0 i
    · rw [if_pos e]
      refine ⟨o.1, ?_⟩
      have o2 := o.2 v v0
      show (zlbin 4 (t.m 20 (zix (wrd G p 0 i))) (zlsh 0 1 (wrd G p 1 j))).toNat.testBit v.toNat = true ↔ _
      have o3 : (zlbin 4 (t.m 20 (zix (wrd G p 0 i))) (zlsh 0 1 (wrd G p 1 j))).toNat.testBit v.toNat = ((t.m 20 (zix (wrd G p 0 i))).toNat.testBit v.toNat || decide (v = wrd G p 1 j)) := o2
      rw [o3, Bool.or_eq_true, decide_eq_true_iff, e]
      have b2 : ((t.m 20 (zix (wrd G p 0 i))).toNat.testBit v.toNat = true ↔ mt G c 0 (wrd G p 0 i) v) := b.2
      rw [b2]
      constructor
      · rintro (hh | hh)
        · exact Or.inl hh
        · exact Or.inr (Or.inl ⟨rfl, rfl, hh⟩)
      · rintro (hh | ⟨-, -, hh⟩ | ⟨hh, -⟩)
        · exact Or.inl hh
        · exact Or.inr hh
        · exact absurd hh (by decide)
    · rw [if_neg e]
      refine ⟨a.1, ?_⟩
      have a2 : ((t.m 20 (zix u)).toNat.testBit v.toNat = true ↔ mt G c 0 u v) := a.2
      rw [a2]
      constructor
      · intro hh; exact Or.inl hh
      · rintro (hh | ⟨-, hh, -⟩ | ⟨hh, -⟩)
        · exact hh
        · exact absurd hh e
        · exact absurd hh (by decide)
  · have a := h 1 u v (by omega) (by omega) u0 u1 v0 v1
    have b := h 1 (wrd G p 1 j) v (by omega) (by omega) hv.1 hv.2 v0 v1
    rw [z1] at a b ⊢
    have o := lbit_or (X := t.m (19 + (1 + 1)) (zix (wrd G p 1 j))) (v := wrd G p 0 i) b.1 hu
    show (0 ≤ (((t.up 20 _ _).up 21 _ _).m 21 (zix u)) ∧ (((t.up 20 _ _).up 21 _ _).m 21 (zix u)) < _) ∧ ((((t.up 20 _ _).up 21 _ _).m 21 (zix u)).toNat.testBit v.toNat = true ↔ _)
    rw [u_21, up_ne (show (21 : Nat) ≠ 20 by decide), zfu_z (by omega)]
    by_cases e : u = wrd G p 1 j
    · rw [if_pos e]
      refine ⟨o.1, ?_⟩
      have o2 := o.2 v v0
      have o3 : (zlbin 4 (t.m 21 (zix (wrd G p 1 j))) (zlsh 0 1 (wrd G p 0 i))).toNat.testBit v.toNat = ((t.m 21 (zix (wrd G p 1 j))).toNat.testBit v.toNat || decide (v = wrd G p 0 i)) := o2
      rw [o3, Bool.or_eq_true, decide_eq_true_iff, e]
      have b2 : ((t.m 21 (zix (wrd G p 1 j))).toNat.testBit v.toNat = true ↔ mt G c 1 (wrd G p 1 j) v) := b.2
      rw [b2]
      constructor
      · rintro (hh | hh)
        · exact Or.inl hh
        · exact Or.inr (Or.inr ⟨rfl, rfl, hh⟩)
      · rintro (hh | ⟨hh, -⟩ | ⟨-, -, hh⟩)
        · exact Or.inl hh
        · exact absurd hh (by decide)
        · exact Or.inr hh
    · rw [if_neg e]
      refine ⟨a.1, ?_⟩
      have a2 : ((t.m 21 (zix u)).toNat.testBit v.toNat = true ↔ mt G c 1 u v) := a.2
      rw [a2]
      constructor
      · intro hh; exact Or.inl hh
      · rintro (hh | ⟨hh, -⟩ | ⟨-, hh, -⟩)
        · exact hh
        · exact absurd hh (by decide)
        · exact absurd hh e
theorem k_wordAtB (h : RepB t.m 13 G) {s p i : Int} (s0 : 0 ≤ s) (s1 : s < 2) (p0 : 0 ≤ p) (p1 : p < prs G) (p24 : prs G ≤ 24) (i0 : 0 ≤ i) (i1 : i < lng G p s) (i6 : i < 6) : co_wordAt t s p i = some (wrd G p s i, t) := by
  have a := h.2.2.2.2.1 s p i s0 s1 p0 p1 i0 i1
  have z2 : zin s 2 := of_eq_true (zinT (by omega))
  have z144 : zin ((p * 6) + i) 144 := of_eq_true (zinT (by omega))
  rw [co_wordAt_e]
  rw [if_neg (by rw [wr_id (by omega)]; omega), if_neg (by rw [wr_id (by omega), wr_id (by omega)]; omega), if_pos z2, if_pos z144]
  exact congrArg some (Prod.ext a rfl)
theorem RepB.fx {S : Nat → Prop} {s : zD P} (h : RepB t.m 13 G) (f : Fx S t s) (hS : ∀ r, 13 ≤ r → r < 29 → r ≠ 20 → r ≠ 21 → ¬ S r) : RepB s.m 13 G := by
  have eg : ∀ (b : Nat) (s' : Int), (b = 16 ∨ b = 22 ∨ b = 25) → 0 ≤ s' → s' < 2 → s.m (b + (1 + zix s')) = t.m (b + (1 + zix s')) := fun b s' h1 h3 h4 => f _ (hS _ (by omega) (by have := zix2 h3 h4; omega) (by have := zix2 h3 h4; omega) (by have := zix2 h3 h4; omega))
  obtain ⟨a1, a2, a3, a4, a5, a6, a7⟩ := h
  refine ⟨?_, fun s h1 h2 => ?_, fun s w h1 h2 h3 h4 => ?_, fun s p h1 h2 h3 h4 => ?_, fun s p i h1 h2 h3 h4 h5 h6 => ?_, fun p i h1 h2 h3 h4 => ?_, ?_⟩
  · rw [f (13 + 1) (hS _ (by omega) (by omega) (by omega) (by omega))]; exact a1
  · rw [f (13 + 2) (hS _ (by omega) (by omega) (by omega) (by omega))]; exact a2 s h1 h2
  · rw [eg (13 + 3) s (by omega) h1 h2]; exact a3 s w h1 h2 h3 h4
  · rw [eg (13 + 9) s (by omega) h1 h2]; exact a4 s p h1 h2 h3 h4
  · rw [eg (13 + 12) s (by omega) h1 h2]; exact a5 s p i h1 h2 h3 h4 h5 h6
  · rw [f (13 + 15) (hS _ (by omega) (by omega) (by omega) (by omega))]; exact a6 p i h1 h2 h3 h4
  · rw [f 13 (hS _ (by omega) (by omega) (by omega) (by omega))]; exact a7
theorem k_meet (hw : WF (mkN G)) (h : RepB d.m 13 G) : Ok (co_meetPartners d) (fun _ t => Fx m2S d t ∧ MB t G (fun _ _ _ => True)) := by
  have S : SameA G (mkN G) := mkC_same
  have p24 : 0 ≤ prs G ∧ prs G ≤ 24 := by have := hw.prs_; rw [S.prs_] at this; exact this
  have nb := fun {p s i : Int} => nb_wrd (F := G) (p := p) (s := s) (i := i) hw
  have lg : ∀ p s, 0 ≤ p → p < prs G → 0 ≤ s → s < 2 → 1 ≤ lng G p s ∧ lng G p s ≤ 6 := fun p s p0 p1 s0 s1 => by
    have b := hw.lng_ p0 (by rw [S.prs_]; exact p1) s0 s1
    rw [S.lng_ p0 (by omega) s0 s1] at b
    exact b
  have z0 : zix 0 = 0 := by rw [zix_id (by omega)]; rfl
  have z1 : zix 1 = 1 := by rw [zix_id (by omega)]; rfl
  have y0 : zin 0 2 := of_eq_true (zinT (by omega))
  have y1 : zin 1 2 := of_eq_true (zinT (by omega))
  rw [co_meetPartners_e, if_pos y0, z0]
  refine Ok_bind (k_fillJ (r := 20) (n := 40) (v := 0) rfl rfl (by omega)) (fun v1 s1 f1 => ?_)
  (try dsimp only)
  rw [if_pos y1, z1]
  refine Ok_bind (k_fillJ (r := 21) (n := 40) (v := 0) rfl rfl (by omega)) (fun v2 s2 f2 => ?_)
  have fx0 : Fx m2S d s2 := fun r hr => by
    unfold m2S at hr
    rw [f2.1 r (by omega), f1.1 r (by omega)]
  have mb0 : MB s2 G (fun p _ _ => p < 0) := fun s u v s0 s1' u0 u1 v0 v1 => by
    have none : ¬ mt G (fun p _ _ => p < 0) s u v := by
      rintro ⟨p', i', j', a1, a2, a3, a4, a5⟩
      omega
    have e : s2.m (19 + (1 + zix s)) (zix u) = 0 := by
      rcases (by omega : s = 0 ∨ s = 1) with rfl | rfl
      · rw [z0]
        show s2.m 20 (zix u) = 0
        rw [f2.1 20 (by omega)]
        exact f1.2 u u0 (by omega)
      · rw [z1]
        exact f2.2 u u0 (by omega)
    rw [e]
    refine ⟨by omega, ?_⟩
    constructor
    · intro hh
      rw [Int.toNat_zero, Nat.zero_testBit] at hh
      exact absurd hh (by decide)
    · intro hh; exact absurd hh none
  (try dsimp only)
  refine lpM (fun p t (y : zV × zV × zV × zV) => co_meetPartners_14 t p y.1 y.2.1 y.2.2.1 y.2.2.2) (fun p t _ => Fx m2S d t ∧ MB t G (fun a _ _ => a < p)) 0 (prs G) p24.1 s2 ((3, 0), (3, 0), (3, 0), (3, 0)) ⟨fx0, mb0⟩ (fun t y hi => ?_) (fun p t y q0 q1 hi hnext => ?_)
  · obtain ⟨g2, g3, g4, g5⟩ := y
    have hb : RepB t.m 13 G := h.fx hi.1 (fun r r0 r1 r2 r3 => by unfold m2S; omega)
    (try dsimp only)
    rw [co_meetPartners_14_e, if_pos (by have := hb.1; rw [show (14 : Nat) = 13 + 1 from rfl, this]; omega)]
    exact Ok_ret ⟨hi.1, MB_co hi.2 (fun a b e a0 a1 _ _ _ _ => ⟨fun _ => a1, fun _ => trivial⟩)⟩
  · obtain ⟨g2, g3, g4, g5⟩ := y
    have hb : RepB t.m 13 G := h.fx hi.1 (fun r r0 r1 r2 r3 => by unfold m2S; omega)
    have l0 := lg p 0 q0 q1 (by omega) (by omega)
    have l1 := lg p 1 q0 q1 (by omega) (by omega)
    have y24 : zin p 24 := of_eq_true (zinT (by omega))
    (try dsimp only)
    rw [co_meetPartners_14_e, if_neg (by have := hb.1; rw [show (14 : Nat) = 13 + 1 from rfl, this, wr_id (by omega), wr_id (by omega)]; omega)]
    refine lpM (fun i t (y : zV × zV × zV) => co_meetPartners_20 t p i y.1 y.2.1 y.2.2) (fun i t _ => Fx m2S d t ∧ MB t G (fun a b _ => a < p ∨ (a = p ∧ b < i))) 0 (lng G p 0) (by omega) t (g3, g4, g5) ⟨hi.1, MB_co hi.2 (fun a b e _ _ b0 _ _ _ => by omega)⟩ (fun t y hi => ?_) (fun i t y i0 i1 hi hnx => ?_)
    · obtain ⟨g3, g4, g5⟩ := y
      have hb : RepB t.m 13 G := h.fx hi.1 (fun r r0 r1 r2 r3 => by unfold m2S; omega)
      have e22 : t.m (22 + (1 + zix 0)) (zix p) = lng G p 0 := hb.2.2.2.1 0 p (by omega) (by omega) q0 q1
      (try dsimp only)
      rw [co_meetPartners_20_e, if_pos y0, if_pos y24, e22, if_pos (by omega)]
      refine hnext _ (_, _, _, _) ⟨hi.1, MB_co hi.2 (fun a b e a0 a1 b0 b1 _ _ => ?_)⟩
      by_cases e2 : a = p
      · rw [e2] at b1; omega
      · omega
    · obtain ⟨g3, g4, g5⟩ := y
      have hb : RepB t.m 13 G := h.fx hi.1 (fun r r0 r1 r2 r3 => by unfold m2S; omega)
      have e22 : t.m (22 + (1 + zix 0)) (zix p) = lng G p 0 := hb.2.2.2.1 0 p (by omega) (by omega) q0 q1
      (try dsimp only)
      rw [co_meetPartners_20_e, if_pos y0, if_pos y24, e22, if_neg (by rw [wr_id (by omega), wr_id (by omega)]; omega)]
      refine lpM (fun j t (y : zV × zV) => co_meetPartners_30 t p i j y.1 y.2) (fun j t _ => Fx m2S d t ∧ MB t G (fun a b e => a < p ∨ (a = p ∧ (b < i ∨ (b = i ∧ e < j))))) 0 (lng G p 1) (by omega) t (g4, g5) ⟨hi.1, MB_co hi.2 (fun a b e _ _ _ _ e0 _ => by omega)⟩ (fun t y hi => ?_) (fun j t y j0 j1 hi hny => ?_)
      · obtain ⟨g4, g5⟩ := y
        have hb : RepB t.m 13 G := h.fx hi.1 (fun r r0 r1 r2 r3 => by unfold m2S; omega)
        have e22 : t.m (22 + (1 + zix 1)) (zix p) = lng G p 1 := hb.2.2.2.1 1 p (by omega) (by omega) q0 q1
        (try dsimp only)
        rw [co_meetPartners_30_e, if_pos y1, if_pos y24, e22, if_pos (by omega)]
        refine hnx _ (_, _, _) ⟨hi.1, MB_co hi.2 (fun a b e a0 a1 b0 b1 e0 e1 => ?_)⟩
        by_cases e2 : a = p
        · rw [e2] at e1; omega
        · omega
      · obtain ⟨g4, g5⟩ := y
        have hb : RepB t.m 13 G := h.fx hi.1 (fun r r0 r1 r2 r3 => by unfold m2S; omega)
        have e22 : t.m (22 + (1 + zix 1)) (zix p) = lng G p 1 := hb.2.2.2.1 1 p (by omega) (by omega) q0 q1
        have n0 := nb (p := p) (s := 0) (i := i) q0 q1 (by omega) (by omega) i0 i1
        have n1 := nb (p := p) (s := 1) (i := j) q0 q1 (by omega) (by omega) j0 j1
        have x0 : zin (wrd G p 0 i) 40 := of_eq_true (zinT (by omega))
        have x1 : zin (wrd G p 1 j) 40 := of_eq_true (zinT (by omega))
        (try dsimp only)
        rw [co_meetPartners_30_e, if_pos y1, if_pos y24, e22, if_neg (by rw [wr_id (by omega), wr_id (by omega)]; omega), k_wordAtB hb (s := 0) (by omega) (by omega) q0 q1 p24.2 i0 i1 (by omega), Option.bind_some]
        (try dsimp only)
        rw [k_wordAtB hb (s := 1) (by omega) (by omega) q0 q1 p24.2 j0 j1 (by omega), Option.bind_some]
        (try dsimp only)
        rw [if_pos y0, if_pos x0, if_pos x0, if_pos y1, if_pos x1, if_pos x1, z0, z1, up_ne (show (19 + (1 + 1) : Nat) ≠ 19 + (1 + 0) by decide)]
        refine hny _ (_, _) ⟨(hi.1.up (Or.inl rfl)).up (Or.inr rfl), ?_⟩
        exact MB_put hi.2 ⟨q0, q1⟩ ⟨i0, i1⟩ ⟨j0, j1⟩ n0.2.2 n1.2.2 (fun a b e => by omega)
end
