/-! TEXTS: the class reads sentences. -/
theorem wln0 {H : Int → Int} {q : Int} : (isL (H q) = false → wln H q = 0) ∧ (isL (H q) = true → wln H q ≠ 0) := by
  constructor
  · intro h
    by_cases c : wln H q = 0
    · exact c
    · have l := wln_le (H := H) (q := q)
      have L := wln_L (H := H) (q := q) (k := 0) (by omega) (by omega) (by omega)
      rw [Int.add_zero] at L
      exact absurd L (isL_f h)
  · intro h e
    have E := wln_E (H := H) (q := q) (by omega)
    rw [e, Int.add_zero] at E
    exact E (isL_t h)
theorem kyW_b {H : Int → Int} {q : Int} (h : wln H q ≠ -1) : 0 ≤ kyW H q ∧ kyW H q < 34359738368 := kof_le (kyW_ok h)
section
variable {P : zP} {d t : zD P}
def tS (b : Nat) : Nat → Prop := fun r => r = 11 ∨ bS b r
theorem k_sent {b : Nat} {H : Int → Int} {n T q R most : Int} {ln : Int → Int} {ky : Int → Int → Int} (hb : b = 97 ∨ b = 100) (R0 : 0 ≤ R) (m8 : most ≤ 8) (hK : ∀ i, ky R i = kyW H (wst H q i)) : ∀ (m : Nat) (k : Int) (t : zD P) (g4 g5 : zV), 0 ≤ k → k + m = most → tR t H n T (wst H q k) → rO t.m b (R + 1) (fun r => if r = R then k else ln r) ky → Ok (tp_readSentence_4 t b most k g4 g5) (fun v s => Fx (tS b) t s ∧ tR s H n T (sen H m k (wst H q k)).2.1 ∧ ((sen H m k (wst H q k)).1 ≠ 0 → v = 0 ∧ s.m 11 4 = (sen H m k (wst H q k)).1) ∧ ((sen H m k (wst H q k)).1 = 0 → v = 1 ∧ rO s.m b (R + 1) (fun r => if r = R then (sen H m k (wst H q k)).2.2 else ln r) ky))
  | 0, k, t, g4, g5, k0, km, hr, ho => by
    rw [tp_readSentence_4_e (rb_z hb)]
    unfold sen
    cases il : isL (H (wst H q k))
    · simp (disch := omega) only [↓reduceIte, zinT, wr_id, wrl_id, ltT, ltF, leT, leF, eqT, eqF, ne_eq, not_true_eq_false, not_false_eq_true, Option.bind_some, Ok_some, bi_0, bi_n0, bi_01, k_isLetter hr, il, reduceCtorEq, k_fail, true_or]
      exact ⟨Fx.rf.up (Or.inl rfl), hr.up4.1, fun _ => ⟨by trivial, hr.up4.2⟩, fun hh => by simp at hh⟩
    · simp (disch := omega) only [↓reduceIte, zinT, wr_id, wrl_id, ltT, ltF, leT, leF, eqT, eqF, ne_eq, not_true_eq_false, not_false_eq_true, Option.bind_some, Ok_some, bi_0, bi_n0, bi_01, k_isLetter hr, il, reduceCtorEq, k_fail, true_or]
      exact ⟨Fx.rf.up (Or.inl rfl), hr.up4.1, fun _ => ⟨by trivial, hr.up4.2⟩, fun hh => by simp at hh⟩
  | m + 1, k, t, g4, g5, k0, km, hr, ho => by
    have wl := wln_le (H := H) (q := wst H q k)
    have qq := hr.2.2.2.2
    rw [tp_readSentence_4_e (rb_z hb)]
    unfold sen
    cases il : isL (H (wst H q k))
    · have z := wln0.1 il
      rw [if_pos z]
      simp (disch := omega) only [↓reduceIte, zinT, wr_id, wrl_id, ltT, ltF, leT, leF, eqT, eqF, ne_eq, not_true_eq_false, not_false_eq_true, Option.bind_some, Ok_some, bi_0, bi_n0, bi_01, k_isLetter hr, il, reduceCtorEq, k_fail, true_or]
      exact ⟨Fx.rf.up (Or.inl rfl), hr.up4.1, fun _ => ⟨by trivial, hr.up4.2⟩, fun hh => by simp at hh⟩
    · have z := wln0.2 il
      rw [if_neg z]
      simp (disch := omega) only [↓reduceIte, zinT, wr_id, wrl_id, ltT, ltF, leT, leF, eqT, eqF, ne_eq, not_true_eq_false, not_false_eq_true, Option.bind_some, Ok_some, bi_0, bi_n0, bi_01, k_isLetter hr, il, reduceCtorEq]
      refine Ok_bind (k_word hr) (fun v s f => ?_)
      by_cases c : wln H (wst H q k) = -1
      · rw [if_pos c]
        have f2 := f.2.1 c
        rw [f2.1]
        (try dsimp only)
        rw [if_neg (by rw [wrl_id (by omega)]; omega)]
        exact Ok_ret ⟨f.1.mo (fun r hr => Or.inl hr), f2.2.1, fun _ => ⟨rfl, f2.2.2⟩, fun hh => absurd hh (by simp)⟩
      · rw [if_neg c]
        have f2 := f.2.2 c
        have kb := kyW_b (H := H) (q := wst H q k) c
        rw [f2.1]
        (try dsimp only)
        rw [if_pos (by rw [wrl_id (by omega)]; omega)]
        have n11 : ¬ bS b 11 := by unfold bS; omega
        have n12 : ¬ bS b 12 := by unfold bS; omega
        have ho' : rO s.m b (R + 1) (fun r => if r = R then k else ln r) ky := ho.fx f.1 (by omega) (by omega) (by omega)
        obtain ⟨u, e, fu, hu⟩ := r_push (x := kyW H (wst H q k)) (ky' := ky) hb ho' R0 (by omega) (fun _ _ _ _ _ _ => rfl) (fun _ _ _ => rfl) (hK k).symm
        have hru := f2.2.fx fu n11 n12
        have fx : Fx (tS b) t u := (f.1.mo (fun r hr => Or.inl hr)).tr (fu.mo (fun r hr => Or.inr hr))
        rw [e, Option.bind_some]
        (try dsimp only)
        rw [k_here hru, Option.bind_some]
        have hl := H_le hr.sg (q := wst H q k + wln H (wst H q k)) (by omega)
        (try dsimp only)
        rw [wr_id (x := H (wst H q k + wln H (wst H q k))) (by omega)]
        by_cases c3 : H (wst H q k + wln H (wst H q k)) = 32
        · rw [if_pos c3, if_pos c3, hru.1.2.2]
          have lt := hr.sg.lt (k := wst H q k + wln H (wst H q k)) (by omega)
          have es := wst_s (H := H) (q := q) k0
          have nx := k_sent hb R0 m8 hK m (k + 1) (u.up 11 3 (wst H q k + wln H (wst H q k) + 1)) (1, kyW H (wst H q k)) (3, 0) (by omega) (by omega) (by rw [es]; exact hru.up3 (by omega) (by omega)) (hu.fx (S := fun r => r = 11) (Fx.rf.up rfl) (by omega) (by omega) (by omega))
          rw [es] at nx
          exact Ok_mono nx (fun v' s' g => ⟨(fx.up (Or.inl rfl)).tr g.1, g.2⟩)
        · rw [if_neg c3, if_neg c3]
          exact Ok_ret ⟨fx, hru, fun hh => absurd rfl hh, fun _ => ⟨rfl, hu⟩⟩
theorem k_sentence {b : Nat} {H : Int → Int} {n T q R : Int} {ln : Int → Int} {ky : Int → Int → Int} (m : Nat) {most : Int} (hm : most = m) (m8 : most ≤ 8) (hb : b = 97 ∨ b = 100) (R12 : R < 12) (hK : ∀ i, ky R i = kyW H (wst H q i)) (hr : tR t H n T q) (ho : rO t.m b R ln ky) : Ok (tp_readSentence t b most) (fun v s => Fx (tS b) t s ∧ tR s H n T (sen H m 0 q).2.1 ∧ ((sen H m 0 q).1 ≠ 0 → v = 0 ∧ s.m 11 4 = (sen H m 0 q).1) ∧ ((sen H m 0 q).1 = 0 → v = 1 ∧ rO s.m b (R + 1) (fun r => if r = R then (sen H m 0 q).2.2 else ln r) ky)) := by
  obtain ⟨s, e, f, h⟩ := r_open hb ho R12
  have n11 : ¬ bS b 11 := by unfold bS; omega
  have n12 : ¬ bS b 12 := by unfold bS; omega
  rw [tp_readSentence_e (rb_z hb), e, Option.bind_some]
  (try dsimp only)
  have w0 : wst H q 0 = q := wst_0
  have nx := k_sent (n := n) (T := T) (q := q) (most := most) hb ho.2.1.1 m8 hK m 0 s (3, 0) (3, 0) (by omega) (by omega) (by rw [w0]; exact hr.fx f n11 n12) h
  rw [w0] at nx
  exact Ok_mono nx (fun v u g => ⟨(f.mo (fun r hr => Or.inr hr)).tr g.1, g.2⟩)
end
