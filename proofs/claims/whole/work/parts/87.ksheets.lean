/-! TEXTS: the class reads sheets, rows and lone words. -/
def shst (H : Int → Int) (q k : Int) : Int := fo k q (fun _ x => (sen H 6 0 x).2.1 + 1)
theorem shst_0 {H : Int → Int} {q : Int} : shst H q 0 = q := fo_0 _ _
theorem shst_s {H : Int → Int} {q k : Int} (h : 0 ≤ k) : shst H q (k + 1) = (sen H 6 0 (shst H q k)).2.1 + 1 := fo_s _ _ h
/-- sentences of a sheet: fault, place, how many -/
def shd (H : Int → Int) (q : Int) : Nat → Int → Int × Int × Int
  | 0, k => (4, shst H q k, k)
  | m + 1, k => if (sen H 6 0 (shst H q k)).1 ≠ 0 then ((sen H 6 0 (shst H q k)).1, (sen H 6 0 (shst H q k)).2.1, k) else if H (sen H 6 0 (shst H q k)).2.1 = 44 then shd H q m (k + 1) else (0, (sen H 6 0 (shst H q k)).2.1, k + 1)
def hln (H : Int → Int) (q r : Int) : Int := (sen H 6 0 (shst H q r)).2.2
def hky (H : Int → Int) (q r i : Int) : Int := kyW H (wst H (shst H q r) i)
theorem shd_ok {H : Int → Int} {n q : Int} (h : sgn H n) : ∀ (m : Nat) (k : Int), 0 ≤ k → 0 ≤ shst H q k → shst H q k ≤ n → (0 ≤ (shd H q m k).2.1 ∧ (shd H q m k).2.1 ≤ n) ∧ ((shd H q m k).1 = 0 → (k < (shd H q m k).2.2 ∧ (shd H q m k).2.2 ≤ k + m) ∧ (∀ i, k ≤ i → i < (shd H q m k).2.2 → (0 ≤ shst H q i ∧ shst H q i < (shd H q m k).2.1) ∧ (sen H 6 0 (shst H q i)).1 = 0) ∧ (shd H q m k).2.1 = (sen H 6 0 (shst H q ((shd H q m k).2.2 - 1))).2.1 ∧ H (shd H q m k).2.1 ≠ 44 ∧ shst H q k < (shd H q m k).2.1 ∧ (∀ i, k ≤ i → i < (shd H q m k).2.2 - 1 → H (sen H 6 0 (shst H q i)).2.1 = 44))
  | 0, k, k0, q0, qn => by
    unfold shd
    exact ⟨⟨q0, qn⟩, fun hh => by simp at hh⟩
  | m + 1, k, k0, q0, qn => by
    have s := sen_0 h 6 q0 qn
    unfold shd
    by_cases c1 : (sen H 6 0 (shst H q k)).1 ≠ 0
    · rw [if_pos c1]
      exact ⟨s.1, fun hh => absurd hh c1⟩
    · have c1' : (sen H 6 0 (shst H q k)).1 = 0 := Classical.byContradiction c1
      have s2 := s.2 c1'
      rw [if_neg c1]
      by_cases c2 : H (sen H 6 0 (shst H q k)).2.1 = 44
      · rw [if_pos c2]
        have lt := h.lt (k := (sen H 6 0 (shst H q k)).2.1) (by omega)
        have es := shst_s (H := H) (q := q) k0
        have r := shd_ok (q := q) h m (k + 1) (by omega) (by omega) (by omega)
        refine ⟨r.1, fun hh => ?_⟩
        have r2 := r.2 hh
        refine ⟨by omega, fun i i0 i1 => ?_, r2.2.2.1, r2.2.2.2.1, by omega, fun i i0 i1 => ?_⟩
        · by_cases e : i = k
          · rw [e]; exact ⟨by omega, c1'⟩
          · exact r2.2.1 i (by omega) i1
        · by_cases e : i = k
          · rw [e]; exact c2
          · exact r2.2.2.2.2.2 i (by omega) i1
      · rw [if_neg c2]
        refine ⟨s.1, fun hh => ?_⟩
        (try dsimp only)
        rw [show k + 1 - 1 = k by omega]
        refine ⟨by omega, fun i i0 i1 => ?_, rfl, c2, by omega, fun i i0 i1 => by omega⟩
        have e : i = k := by omega
        rw [e]
        exact ⟨by omega, c1'⟩
/-- both sheets: fault, place -/
def shs (H : Int → Int) (n : Int) : Int × Int := if (shd H 0 8 0).1 ≠ 0 then ((shd H 0 8 0).1, (shd H 0 8 0).2.1) else if H (shd H 0 8 0).2.1 ≠ 124 then (1, (shd H 0 8 0).2.1) else if (shd H ((shd H 0 8 0).2.1 + 1) 8 0).1 ≠ 0 then ((shd H ((shd H 0 8 0).2.1 + 1) 8 0).1, (shd H ((shd H 0 8 0).2.1 + 1) 8 0).2.1) else if (shd H ((shd H 0 8 0).2.1 + 1) 8 0).2.1 = n then (0, n) else (1, (shd H ((shd H 0 8 0).2.1 + 1) 8 0).2.1)
/-- where a sheet begins, and how many sentences it has -/
def shq (H : Int → Int) (s : Int) : Int := if s = 0 then 0 else (shd H 0 8 0).2.1 + 1
def shn (H : Int → Int) (s : Int) : Int := (shd H (shq H s) 8 0).2.2
section
variable {P : zP} {d t : zD P}
theorem k_sheet {b : Nat} {H : Int → Int} {n T q : Int} (hb : b = 97 ∨ b = 100) : ∀ (m : Nat) (k : Int) (t : zD P), 0 ≤ k → k + m = 8 → tR t H n T (shst H q k) → rO t.m b k (hln H q) (hky H q) → Ok (tp_readSheet_4 t b k) (fun v s => Fx (tS b) t s ∧ tR s H n T (shd H q m k).2.1 ∧ ((shd H q m k).1 ≠ 0 → v = 0 ∧ s.m 11 4 = (shd H q m k).1) ∧ ((shd H q m k).1 = 0 → v = 1 ∧ rO s.m b (shd H q m k).2.2 (hln H q) (hky H q)))
  | 0, k, t, k0, km, hr, ho => by
    rw [tp_readSheet_4_e (rb_z hb)]
    simp (disch := omega) only [↓reduceIte, zinT, wr_id, wrl_id, ltT, ltF, leT, leF, eqT, eqF, ne_eq, not_true_eq_false, not_false_eq_true, Option.bind_some, Ok_some, bi_0, bi_n0, bi_01, k_fail, true_or]
    exact ⟨Fx.rf.up (Or.inl rfl), hr.up4.1, fun _ => ⟨by trivial, hr.up4.2⟩, fun hh => absurd (show (4 : Int) = 0 from hh) (by decide)⟩
  | m + 1, k, t, k0, km, hr, ho => by
    have qq := hr.2.2.2.2
    have sg := hr.sg
    have s0 := sen_0 sg 6 qq.1 qq.2
    rw [tp_readSheet_4_e (rb_z hb)]
    unfold shd
    simp (disch := omega) only [↓reduceIte, zinT, wr_id, wrl_id, ltT, ltF, leT, leF, eqT, eqF, ne_eq, not_true_eq_false, not_false_eq_true, Option.bind_some, Ok_some, bi_0, bi_n0, bi_01]
    refine Ok_bind (k_sentence 6 (most := 6) rfl (by omega) hb (by omega) (fun i => rfl) hr ho) (fun v s f => ?_)
    by_cases c1 : (sen H 6 0 (shst H q k)).1 ≠ 0
    · have f2 := f.2.2.1 c1
      rw [if_pos c1, f2.1]
      (try dsimp only)
      rw [if_neg (fun hh => hh (show wr 0 = 0 from rfl))]
      exact Ok_ret ⟨f.1, f.2.1, fun _ => ⟨rfl, f2.2⟩, fun hh => absurd hh c1⟩
    have c1' : (sen H 6 0 (shst H q k)).1 = 0 := Classical.byContradiction c1
    rw [if_neg c1]
    obtain ⟨rfl, hb'⟩ := f.2.2.2 c1'
    have ho' : rO s.m b (k + 1) (hln H q) (hky H q) := hb'.co rfl (fun r r0 r1 => by
      (try dsimp only)
      split
      · rename_i e; rw [e]; rfl
      · rfl) (fun _ _ _ _ _ _ => rfl)
    have hl := H_le sg (q := (sen H 6 0 (shst H q k)).2.1) s0.1.1
    simp (disch := omega) only [↓reduceIte, zinT, wr_id, wrl_id, ltT, ltF, leT, leF, eqT, eqF, ne_eq, not_true_eq_false, not_false_eq_true, Option.bind_some, Ok_some, bi_0, bi_n0, bi_01, k_here f.2.1]
    by_cases c2 : H (sen H 6 0 (shst H q k)).2.1 = 44
    · rw [if_pos c2, if_pos c2, f.2.1.1.2.2]
      have lt := sg.lt (k := (sen H 6 0 (shst H q k)).2.1) (by omega)
      have es := shst_s (H := H) (q := q) k0
      have b11 : ¬ b = 11 ∧ ¬ b + 1 = 11 ∧ ¬ b + 2 = 11 := by omega
      refine Ok_mono (k_sheet hb m (k + 1) _ (by omega) (by omega) (by rw [es]; exact f.2.1.up3 (by omega) (by omega)) (ho'.fx (S := fun r => r = 11) (Fx.rf.up rfl) b11.1 b11.2.1 b11.2.2)) (fun v' s' g => ⟨(f.1.up (Or.inl rfl)).tr g.1, g.2⟩)
    · rw [if_neg c2, if_neg c2]
      exact Ok_ret ⟨f.1, f.2.1, fun hh => absurd rfl hh, fun _ => ⟨rfl, ho'⟩⟩
theorem k_sheet1 {b : Nat} {H : Int → Int} {n T q : Int} (hb : b = 97 ∨ b = 100) (hr : tR t H n T q) : Ok (tp_readSheet t b) (fun v s => Fx (tS b) t s ∧ tR s H n T (shd H q 8 0).2.1 ∧ ((shd H q 8 0).1 ≠ 0 → v = 0 ∧ s.m 11 4 = (shd H q 8 0).1) ∧ ((shd H q 8 0).1 = 0 → v = 1 ∧ rO s.m b (shd H q 8 0).2.2 (hln H q) (hky H q))) := by
  obtain ⟨s, e, f, h⟩ := r_clear (t := t) (ln := hln H q) (ky := hky H q) hb
  have n11 : ¬ bS b 11 := by unfold bS; omega
  have n12 : ¬ bS b 12 := by unfold bS; omega
  rw [tp_readSheet_e (rb_z hb), e, Option.bind_some]
  (try dsimp only)
  have w0 : shst H q 0 = q := shst_0
  exact Ok_mono (k_sheet hb 8 0 s (by omega) (by omega) (by rw [w0]; exact hr.fx f n11 n12) h) (fun v u g => ⟨(f.mo (fun r hr => Or.inr hr)).tr g.1, g.2⟩)
/-- reading begins -/
theorem k_begin0 {H : Int → Int} {n T : Int} (hT : t.m 11 1 = T) (hH : ∀ k, 0 ≤ k → k < n → t.m 12 (zix k) = H k) (sg : sgn H n) (hn : n ≤ T) (hT2 : T ≤ 240) : ∃ s, tp_begin t n = some (0, s) ∧ Fx (fun r => r = 11) t s ∧ tR s H n T 0 := by
  rw [tp_begin_e]
  refine ⟨_, rfl, (((Fx.rf (S := fun r => r = 11)).up rfl).up rfl).up rfl, ⟨?_, ?_, ?_⟩, ?_, sg, ⟨hn, hT2⟩, Int.le_refl _, sg.2.2.1⟩
  · rw [u_11_4, zfu_n, if_neg (by decide), u_11_3, zfu_n, if_neg (by decide), u_11_2, zfu_n, if_neg (by decide)]; exact hT
  · rw [u_11_4, zfu_n, if_neg (by decide), u_11_3, zfu_n, if_neg (by decide), u_11_2, zfu_n, if_pos rfl]
  · rw [u_11_4, zfu_n, if_neg (by decide), u_11_3, zfu_n, if_pos rfl]
  · rw [up_ne (by decide), up_ne (by decide), up_ne (by decide)]; exact hH
theorem k_readPairs {H : Int → Int} {n T : Int} (hT : t.m 11 1 = T) (hH : ∀ k, 0 ≤ k → k < n → t.m 12 (zix k) = H k) (sg : sgn H n) (hn : n ≤ T) (hT2 : T ≤ 240) : Ok (tp_readPairs t n) (fun v s => Fx t2S t s ∧ tR s H n T (prd H n 12 0).2.1 ∧ ((prd H n 12 0).1 ≠ 0 → v = 0 ∧ s.m 11 4 = (prd H n 12 0).1) ∧ ((prd H n 12 0).1 = 0 → v = 1 ∧ rO s.m 97 (prd H n 12 0).2.2 (cln H 0) (cky H 0) ∧ rO s.m 100 (prd H n 12 0).2.2 (cln H 1) (cky H 1))) := by
  obtain ⟨s, e, f, h⟩ := k_begin0 hT hH sg hn hT2
  obtain ⟨s1, e1, f1, h1⟩ := r_clear (t := s) (ln := cln H 0) (ky := cky H 0) (Or.inl rfl)
  obtain ⟨s2, e2, f2, h2⟩ := r_clear (t := s1) (ln := cln H 1) (ky := cky H 1) (Or.inr rfl)
  rw [tp_readPairs_e, e, Option.bind_some]
  (try dsimp only)
  rw [e1, Option.bind_some]
  (try dsimp only)
  rw [e2, Option.bind_some]
  (try dsimp only)
  have hr : tR s2 H n T (cst H 0) := (h.fx f1 (by unfold bS; omega) (by unfold bS; omega)).fx f2 (by unfold bS; omega) (by unfold bS; omega)
  have fx : Fx t2S t s2 := ((f.mo (fun r hr => Or.inl hr)).tr (f1.mo (fun r hr => Or.inr (Or.inl hr)))).tr (f2.mo (fun r hr => Or.inr (Or.inr hr)))
  exact Ok_mono (k_prd 12 0 s2 (0, n) (by omega) (by omega) hr (h1.fx f2 (by unfold bS; omega) (by unfold bS; omega) (by unfold bS; omega)) h2) (fun v u g => ⟨fx.tr g.1, g.2⟩)
theorem k_readSheets {H : Int → Int} {n T : Int} (hT : t.m 11 1 = T) (hH : ∀ k, 0 ≤ k → k < n → t.m 12 (zix k) = H k) (sg : sgn H n) (hn : n ≤ T) (hT2 : T ≤ 240) : Ok (tp_readSheets t n) (fun v s => Fx t2S t s ∧ tR s H n T (shs H n).2 ∧ ((shs H n).1 ≠ 0 → v = 0 ∧ s.m 11 4 = (shs H n).1) ∧ ((shs H n).1 = 0 → v = 1 ∧ rO s.m 97 (shn H 0) (hln H (shq H 0)) (hky H (shq H 0)) ∧ rO s.m 100 (shn H 1) (hln H (shq H 1)) (hky H (shq H 1)))) := by
  obtain ⟨s, e, f, h⟩ := k_begin0 hT hH sg hn hT2
  rw [tp_readSheets_e, e, Option.bind_some]
  (try dsimp only)
  have p0 := shd_ok (q := 0) sg 8 0 (Int.le_refl _) (by rw [shst_0]; omega) (by rw [shst_0]; exact sg.2.2.1)
  have eq1 : shq H 1 = (shd H 0 8 0).2.1 + 1 := rfl
  refine Ok_bind (k_sheet1 (Or.inl rfl) h) (fun v s1 f1 => ?_)
  have fx1 : Fx t2S t s1 := (f.mo (fun r hr => Or.inl hr)).tr (f1.1.mo (t2_0 (Or.inl rfl)))
  unfold shs
  by_cases c1 : (shd H 0 8 0).1 ≠ 0
  · have g := f1.2.2.1 c1
    rw [if_pos c1, g.1]
    (try dsimp only)
    rw [if_pos (show wr 0 = 0 from rfl)]
    exact Ok_ret ⟨fx1, f1.2.1, fun _ => ⟨rfl, g.2⟩, fun hh => absurd hh c1⟩
  have c1' : (shd H 0 8 0).1 = 0 := Classical.byContradiction c1
  obtain ⟨rfl, h97⟩ := f1.2.2.2 c1'
  rw [if_neg c1]
  simp (disch := omega) only [↓reduceIte, zinT, wr_id, wrl_id, ltT, ltF, leT, leF, eqT, eqF, ne_eq, not_true_eq_false, not_false_eq_true, Option.bind_some, Ok_some, bi_0, bi_n0, bi_01, k_pass f1.2.1]
  by_cases c2 : H (shd H 0 8 0).2.1 ≠ 124
  · rw [if_pos c2, if_neg c2, Option.bind_some]
    simp (disch := omega) only [↓reduceIte, zinT, wr_id, wrl_id, ltT, ltF, leT, leF, eqT, eqF, ne_eq, not_true_eq_false, not_false_eq_true, Option.bind_some, Ok_some, bi_0, bi_n0, bi_01]
    exact ⟨fx1.up (Or.inl rfl), f1.2.1.up4.1, fun _ => ⟨by trivial, f1.2.1.up4.2⟩, fun hh => by simp at hh⟩
  have c2' : H (shd H 0 8 0).2.1 = 124 := Classical.byContradiction c2
  have lt1 := sg.lt (k := (shd H 0 8 0).2.1) (by omega)
  rw [if_neg c2, if_pos c2', Option.bind_some, ← eq1]
  simp (disch := omega) only [↓reduceIte, zinT, wr_id, wrl_id, ltT, ltF, leT, leF, eqT, eqF, ne_eq, not_true_eq_false, not_false_eq_true, Option.bind_some, Ok_some, bi_0, bi_n0, bi_01]
  have hr1 : tR (s1.up 11 3 (shq H 1)) H n T (shq H 1) := f1.2.1.up3 (by rw [eq1]; omega) (by rw [eq1]; omega)
  have h97u := h97.fx (s := s1.up 11 3 (shq H 1)) (S := fun r => r = 11) (Fx.rf.up rfl) (by decide) (by decide) (by decide)
  have fx2 : Fx t2S t (s1.up 11 3 (shq H 1)) := fx1.up (Or.inl rfl)
  generalize s1.up 11 3 (shq H 1) = u at hr1 h97u fx2 ⊢
  have qq1 := hr1.2.2.2.2
  have p1 := shd_ok (q := shq H 1) sg 8 0 (Int.le_refl _) (by rw [shst_0]; omega) (by rw [shst_0]; omega)
  refine Ok_bind (k_sheet1 (Or.inr rfl) hr1) (fun v s2 f2 => ?_)
  have fx3 := fx2.tr (f2.1.mo (t2_0 (Or.inr rfl)))
  by_cases c3 : (shd H (shq H 1) 8 0).1 ≠ 0
  · have g := f2.2.2.1 c3
    rw [if_pos c3, g.1]
    (try dsimp only)
    rw [if_neg (fun hh => hh (show wr 0 = 0 from rfl))]
    exact Ok_ret ⟨fx3, f2.2.1, fun _ => ⟨rfl, g.2⟩, fun hh => absurd hh c3⟩
  have c3' : (shd H (shq H 1) 8 0).1 = 0 := Classical.byContradiction c3
  obtain ⟨rfl, h100⟩ := f2.2.2.2 c3'
  rw [if_neg c3]
  have pl := f2.2.1.1
  have n240 := sg.2.2
  simp (disch := omega) only [↓reduceIte, zinT, wr_id, wrl_id, ltT, ltF, leT, leF, eqT, eqF, ne_eq, not_true_eq_false, not_false_eq_true, Option.bind_some, Ok_some, bi_0, bi_n0, bi_01, pl.2.1, pl.2.2]
  by_cases c4 : (shd H (shq H 1) 8 0).2.1 = n
  · rw [if_pos c4, if_pos c4]
    refine Ok_ret ⟨fx3, ?_, fun hh => absurd rfl hh, fun _ => ⟨rfl, ?_, h100⟩⟩
    · have q := f2.2.1
      rw [c4] at q
      exact q
    · exact h97u.fx f2.1 (by unfold tS bS; omega) (by unfold tS bS; omega) (by unfold tS bS; omega)
  · rw [if_neg c4, if_neg c4]
    simp (disch := omega) only [↓reduceIte, zinT, wr_id, wrl_id, ltT, ltF, leT, leF, eqT, eqF, ne_eq, not_true_eq_false, not_false_eq_true, Option.bind_some, Ok_some, bi_0, bi_n0, bi_01, k_fail]
    exact ⟨fx3.up (Or.inl rfl), f2.2.1.up4.1, fun _ => ⟨by trivial, f2.2.1.up4.2⟩, fun hh => by simp at hh⟩
theorem k_readRow {H : Int → Int} {n T : Int} (hT : t.m 11 1 = T) (hH : ∀ k, 0 ≤ k → k < n → t.m 12 (zix k) = H k) (sg : sgn H n) (hn : n ≤ T) (hT2 : T ≤ 240) : Ok (tp_readRow t n) (fun v s => Fx t2S t s ∧ s.m 11 1 = T ∧ v = bi (decide ((sen H 8 0 0).1 = 0 ∧ (sen H 8 0 0).2.1 = n)) ∧ ((sen H 8 0 0).1 = 0 → rO s.m 97 1 (fun _ => (sen H 8 0 0).2.2) (fun _ i => kyW H (wst H 0 i)))) := by
  obtain ⟨s, e, f, h⟩ := k_begin0 hT hH sg hn hT2
  obtain ⟨s1, e1, f1, h1⟩ := r_clear (t := s) (ln := fun _ => (sen H 8 0 0).2.2) (ky := fun _ i => kyW H (wst H 0 i)) (Or.inl rfl)
  have s0 := sen_0 (q := 0) sg 8 (by omega) sg.2.2.1
  have n240 := sg.2.2
  rw [tp_readRow_e, e, Option.bind_some]
  (try dsimp only)
  rw [e1, Option.bind_some]
  (try dsimp only)
  have hr := h.fx f1 (by unfold bS; omega) (by unfold bS; omega)
  have fx : Fx t2S t s1 := (f.mo (fun r hr => Or.inl hr)).tr (f1.mo (fun r hr => Or.inr (Or.inl hr)))
  refine Ok_bind (k_sentence 8 (most := 8) rfl (by omega) (Or.inl rfl) (by omega) (fun i => rfl) hr h1) (fun v s2 f2 => ?_)
  have fx2 := fx.tr (f2.1.mo (t2_0 (Or.inl rfl)))
  by_cases c : (sen H 8 0 0).1 = 0
  · obtain ⟨rfl, g⟩ := f2.2.2.2 c
    have g' : rO s2.m 97 1 (fun _ => (sen H 8 0 0).2.2) (fun _ i => kyW H (wst H 0 i)) := g.co rfl (fun r r0 r1 => by (try dsimp only); split <;> rfl) (fun _ _ _ _ _ _ => rfl)
    (try dsimp only)
    rw [if_neg (by rw [wr_id (by omega)]; omega), f2.2.1.1.2.1, f2.2.1.1.2.2, wr_id (x := (sen H 8 0 0).2.1) (by omega), wr_id (x := n) (by omega)]
    by_cases c2 : (sen H 8 0 0).2.1 = n
    · rw [if_neg (fun hh => hh c2), bi_t ⟨c, c2⟩]
      exact Ok_ret ⟨fx2, f2.2.1.1.1, rfl, fun _ => g'⟩
    · rw [if_pos c2, bi_f (fun hh => c2 hh.2)]
      exact Ok_ret ⟨fx2, f2.2.1.1.1, rfl, fun _ => g'⟩
  · have g := f2.2.2.1 c
    rw [g.1]
    (try dsimp only)
    rw [if_pos (show wr 0 = 0 from rfl)]
    exact Ok_ret ⟨fx2, f2.2.1.1.1, by rw [bi_f (fun hh => c hh.1)], fun hh => absurd hh c⟩
theorem k_readLone {H : Int → Int} {n T : Int} (hT : t.m 11 1 = T) (hH : ∀ k, 0 ≤ k → k < n → t.m 12 (zix k) = H k) (sg : sgn H n) (hn : n ≤ T) (hT2 : T ≤ 240) : Ok (tp_readLoneWord t n) (fun v s => Fx (fun r => r = 11) t s ∧ s.m 11 1 = T ∧ v = if wln H 0 = n then kyW H 0 else -1) := by
  obtain ⟨s, e, f, h⟩ := k_begin0 hT hH sg hn hT2
  have n240 := sg.2.2
  rw [tp_readLoneWord_e, e, Option.bind_some]
  (try dsimp only)
  refine Ok_bind (k_word h) (fun v s1 f1 => ?_)
  have w := sg.wl (q := 0) (by omega) sg.2.2.1
  have fx := f.tr f1.1
  have l := wln_le (H := H) (q := 0)
  by_cases c : wln H 0 = -1
  · have g := f1.2.1 c
    rw [g.1]
    simp (disch := omega) only [↓reduceIte, zinT, wr_id, wrl_id, ltT, ltF, leT, leF, eqT, eqF, ne_eq, not_true_eq_false, not_false_eq_true, Option.bind_some, Ok_some, bi_0, bi_n0, bi_01, g.2.1.1.2.1, g.2.1.1.2.2]
    have w2 := w.2 c
    exact ⟨fx, g.2.1.1.1, trivial⟩
  · have g := f1.2.2 c
    have w1 := w.1 c
    rw [g.1]
    simp (disch := omega) only [↓reduceIte, zinT, wr_id, wrl_id, ltT, ltF, leT, leF, eqT, eqF, ne_eq, not_true_eq_false, not_false_eq_true, Option.bind_some, Ok_some, bi_0, bi_n0, bi_01, g.2.1.2.1, g.2.1.2.2, Int.zero_add]
    by_cases c2 : wln H 0 = n
    · rw [if_neg (fun hh => hh c2), if_pos c2]
      exact Ok_ret ⟨fx, g.2.1.1, rfl⟩
    · rw [if_pos c2, if_neg c2]
      exact Ok_ret ⟨fx, g.2.1.1, rfl⟩
end
