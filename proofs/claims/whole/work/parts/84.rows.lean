/-! TEXTS: the class's rows of words. -/
section
variable {P : zP} {d t : zD P}
/-- rows of words at a cell: how many, their lengths, their words -/
def rO (m : Nat → Nat → Int) (b : Nat) (R : Int) (ln : Int → Int) (ky : Int → Int → Int) : Prop := m b 2 = R ∧ (0 ≤ R ∧ R ≤ 12) ∧ (∀ r, 0 ≤ r → r < R → m (b + 1) (zix r) = ln r ∧ 0 ≤ ln r ∧ ln r ≤ 8) ∧ ∀ r i, 0 ≤ r → r < R → 0 ≤ i → i < ln r → m (b + 2) (zix ((r * 8) + i)) = ky r i
theorem rO.fx {S : Nat → Prop} {s : zD P} {b : Nat} {R : Int} {ln : Int → Int} {ky : Int → Int → Int} (h : rO t.m b R ln ky) (f : Fx S t s) (h0 : ¬ S b) (h1 : ¬ S (b + 1)) (h2 : ¬ S (b + 2)) : rO s.m b R ln ky := by
  unfold rO at h ⊢
  rw [f b h0, f (b + 1) h1, f (b + 2) h2]
  exact h
theorem rO.co {m : Nat → Nat → Int} {b : Nat} {R R' : Int} {ln ln' : Int → Int} {ky ky' : Int → Int → Int} (h : rO m b R ln ky) (e : R = R') (e1 : ∀ r, 0 ≤ r → r < R → ln r = ln' r) (e2 : ∀ r i, 0 ≤ r → r < R → 0 ≤ i → i < ln r → ky r i = ky' r i) : rO m b R' ln' ky' := by
  obtain ⟨a, b, c, f⟩ := h
  subst e
  refine ⟨a, b, fun r r0 r1 => by rw [← e1 r r0 r1]; exact c r r0 r1, fun r i r0 r1 i0 i1 => ?_⟩
  rw [← e1 r r0 r1] at i1
  rw [← e2 r i r0 r1 i0 i1]
  exact f r i r0 r1 i0 i1
theorem r_len {b : Nat} {R r : Int} {ln : Int → Int} {ky : Int → Int → Int} (h : rO t.m b R ln ky) (r0 : 0 ≤ r) (r1 : r < R) (hz : zkd b = 7) : rw_lengthOf t b r = some (ln r, t) := by
  obtain ⟨h1, h2, h3, h4⟩ := h
  rw [rw_lengthOf_e hz, h1]
  simp (disch := omega) only [↓reduceIte, zinT, wr_id, wrl_id, ltT, ltF, leT, leF, eqT, eqF, ne_eq, not_true_eq_false, not_false_eq_true, Option.bind_some, Ok_some, bi_0, bi_n0, bi_01, (h3 r r0 r1).1]
theorem r_key {b : Nat} {R r i : Int} {ln : Int → Int} {ky : Int → Int → Int} (h : rO t.m b R ln ky) (r0 : 0 ≤ r) (r1 : r < R) (i0 : 0 ≤ i) (i1 : i < ln r) (hz : zkd b = 7) : rw_keyAt t b r i = some (ky r i, t) := by
  have hh := h
  obtain ⟨h1, h2, h3, h4⟩ := h
  have l := (h3 r r0 r1).2
  rw [rw_keyAt_e hz, r_len hh r0 r1 hz]
  simp (disch := omega) only [↓reduceIte, zinT, wr_id, wrl_id, ltT, ltF, leT, leF, eqT, eqF, ne_eq, not_true_eq_false, not_false_eq_true, Option.bind_some, Ok_some, bi_0, bi_n0, bi_01, h4 r i r0 r1 i0 i1]
/-- one and other -/
theorem rb_z {b : Nat} (hb : b = 97 ∨ b = 100) : zkd b = 7 := by rcases hb with rfl | rfl <;> rfl
theorem rb_u1 {b k : Nat} {x : Int} (hb : b = 97 ∨ b = 100) : (d.up (b + 1) k x).m (b + 1) = zfu (d.m (b + 1)) k x := by
  rcases hb with rfl | rfl
  · exact u_98
  · exact u_101
theorem rb_u2 {b k : Nat} {x : Int} (hb : b = 97 ∨ b = 100) : (d.up (b + 2) k x).m (b + 2) = zfu (d.m (b + 2)) k x := by
  rcases hb with rfl | rfl
  · exact u_99
  · exact u_102
theorem rb_u0 {b : Nat} {x : Int} (hb : b = 97 ∨ b = 100) : (d.up b 2 x).m b = zfu (d.m b) 2 x := by
  rcases hb with rfl | rfl
  · exact u_97_2
  · exact u_100_2
def bS (b : Nat) : Nat → Prop := fun r => b ≤ r ∧ r < b + 3
theorem r_clear {b : Nat} {ln : Int → Int} {ky : Int → Int → Int} (hb : b = 97 ∨ b = 100) : ∃ s, rw_clear t b = some (0, s) ∧ Fx (bS b) t s ∧ rO s.m b 0 ln ky := by
  rw [rw_clear_e (rb_z hb)]
  refine ⟨_, rfl, Fx.rf.up ⟨by omega, by omega⟩, ?_, by omega, fun r r0 r1 => by omega, fun r i r0 r1 => by omega⟩
  rw [rb_u0 hb, zfu_n, if_pos rfl]
/-- a row more, with no word by now -/
theorem r_open {b : Nat} {R : Int} {ln : Int → Int} {ky : Int → Int → Int} (hb : b = 97 ∨ b = 100) (h : rO t.m b R ln ky) (hR : R < 12) : ∃ s, rw_open t b = some (0, s) ∧ Fx (bS b) t s ∧ rO s.m b (R + 1) (fun r => if r = R then 0 else ln r) ky := by
  obtain ⟨h1, h2, h3, h4⟩ := h
  rw [rw_open_e (rb_z hb)]
  simp (disch := omega) only [↓reduceIte, zinT, wr_id, wrl_id, ltT, ltF, leT, leF, eqT, eqF, ne_eq, not_true_eq_false, not_false_eq_true, Option.bind_some, Ok_some, bi_0, bi_n0, bi_01, h1, up_ne (show b ≠ b + 1 by omega)]
  refine ⟨_, rfl, (Fx.rf.up ⟨by omega, by omega⟩).up ⟨by omega, by omega⟩, ?_, by omega, fun r r0 r1 => ?_, fun r i r0 r1 i0 i1 => ?_⟩
  · rw [rb_u0 hb, zfu_n, if_pos rfl]
  · rw [up_ne (by omega), rb_u1 hb, zfu_z (by omega)]
    (try dsimp only)
    by_cases e : r = R
    · rw [if_pos e, if_pos e]; omega
    · rw [if_neg e, if_neg e]; exact h3 r r0 (by omega)
  · (try dsimp only at i1)
    by_cases e : r = R
    · rw [if_pos e] at i1; omega
    · rw [if_neg e] at i1
      rw [up_ne (by omega), up_ne (by omega)]
      exact h4 r i r0 (by omega) i0 i1
/-- a word more in the last row -/
theorem r_push {b : Nat} {R L x : Int} {ln : Int → Int} {ky ky' : Int → Int → Int} (hb : b = 97 ∨ b = 100) (h : rO t.m b (R + 1) (fun r => if r = R then L else ln r) ky) (R0 : 0 ≤ R) (hL : 0 ≤ L ∧ L < 8) (e1 : ∀ r i, 0 ≤ r → r < R → 0 ≤ i → i < ln r → ky r i = ky' r i) (e2 : ∀ i, 0 ≤ i → i < L → ky R i = ky' R i) (e3 : x = ky' R L) : ∃ s, rw_push t b x = some (0, s) ∧ Fx (bS b) t s ∧ rO s.m b (R + 1) (fun r => if r = R then L + 1 else ln r) ky' := by
  obtain ⟨h1, h2, h3, h4⟩ := h
  have hl := h3 R R0 (by omega)
  (try dsimp only at hl)
  rw [if_pos rfl] at hl
  rw [rw_push_e (rb_z hb)]
  simp (disch := omega) only [↓reduceIte, zinT, wr_id, wrl_id, ltT, ltF, leT, leF, eqT, eqF, ne_eq, not_true_eq_false, not_false_eq_true, Option.bind_some, Ok_some, bi_0, bi_n0, bi_01, h1, show R + 1 - 1 = R by omega, hl.1, up_ne (show b + 1 ≠ b + 2 by omega)]
  refine ⟨_, rfl, (Fx.rf.up ⟨by omega, by omega⟩).up ⟨by omega, by omega⟩, ?_, h2, fun r r0 r1 => ?_, fun r i r0 r1 i0 i1 => ?_⟩
  · rw [up_ne (by omega), up_ne (by omega)]; exact h1
  · rw [rb_u1 hb, zfu_z (by omega)]
    (try dsimp only)
    by_cases e : r = R
    · rw [if_pos e, if_pos e]; omega
    · have := h3 r r0 r1
      (try dsimp only at this)
      rw [if_neg e] at this
      rw [if_neg e, if_neg e, up_ne (by omega)]
      exact this
  · (try dsimp only at i1)
    have lr := (h3 r r0 r1).2
    (try dsimp only at lr)
    by_cases e : r = R
    · rw [if_pos e] at i1 lr
      rw [up_ne (by omega), rb_u2 hb, zfu_z (by omega)]
      by_cases e4 : i = L
      · rw [if_pos (by omega), e, e4, e3]
      · rw [if_neg (by omega), e]
        have := h4 R i R0 (by omega) i0
        (try dsimp only at this)
        rw [if_pos rfl] at this
        rw [this (by omega), e2 i i0 (by omega)]
    · rw [if_neg e] at i1 lr
      rw [up_ne (by omega), rb_u2 hb, zfu_z (by omega), if_neg (by omega)]
      have := h4 r i r0 r1 i0
      (try dsimp only at this)
      rw [if_neg e] at this
      rw [this i1, e1 r i r0 (by omega) i0 i1]
end
