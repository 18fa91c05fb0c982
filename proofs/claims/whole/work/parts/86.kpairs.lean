/-! TEXTS: the class reads pairs and sheets. -/
/-- where clauses begin -/
def cst (H : Int → Int) (r : Int) : Int := fo r 0 (fun _ q => (sen H 6 0 ((sen H 6 0 q).2.1 + 1)).2.1 + 1)
def sst (H : Int → Int) (s r : Int) : Int := if s = 0 then cst H r else (sen H 6 0 (cst H r)).2.1 + 1
theorem cst_0 {H : Int → Int} : cst H 0 = 0 := fo_0 _ _
theorem cst_s {H : Int → Int} {r : Int} (h : 0 ≤ r) : cst H (r + 1) = (sen H 6 0 (sst H 1 r)).2.1 + 1 := fo_s _ _ h
/-- clauses: fault, place, how many -/
def prd (H : Int → Int) (n : Int) : Nat → Int → Int × Int × Int
  | 0, k => (4, cst H k, k)
  | m + 1, k => if (sen H 6 0 (sst H 0 k)).1 ≠ 0 then ((sen H 6 0 (sst H 0 k)).1, (sen H 6 0 (sst H 0 k)).2.1, k) else if H (sen H 6 0 (sst H 0 k)).2.1 ≠ 61 then (1, (sen H 6 0 (sst H 0 k)).2.1, k) else if (sen H 6 0 (sst H 1 k)).1 ≠ 0 then ((sen H 6 0 (sst H 1 k)).1, (sen H 6 0 (sst H 1 k)).2.1, k) else if (sen H 6 0 (sst H 1 k)).2.1 = n then (0, n, k + 1) else if H (sen H 6 0 (sst H 1 k)).2.1 ≠ 59 then (1, (sen H 6 0 (sst H 1 k)).2.1, k) else prd H n m (k + 1)
/-- words of a clause's sentence -/
def cln (H : Int → Int) (s r : Int) : Int := (sen H 6 0 (sst H s r)).2.2
def cky (H : Int → Int) (s r i : Int) : Int := kyW H (wst H (sst H s r) i)
theorem sen_0 {H : Int → Int} {n q : Int} (h : sgn H n) (m : Nat) (q0 : 0 ≤ q) (qn : q ≤ n) : (0 ≤ (sen H m 0 q).2.1 ∧ (sen H m 0 q).2.1 ≤ n) ∧ ((sen H m 0 q).1 = 0 → (0 < (sen H m 0 q).2.2 ∧ (sen H m 0 q).2.2 ≤ m) ∧ (∀ i, 0 ≤ i → i < (sen H m 0 q).2.2 → (0 ≤ wst H q i ∧ wst H q i ≤ n) ∧ 1 ≤ wln H (wst H q i) ∧ wln H (wst H q i) ≤ 7) ∧ (sen H m 0 q).2.1 = wst H q ((sen H m 0 q).2.2 - 1) + wln H (wst H q ((sen H m 0 q).2.2 - 1)) ∧ H (sen H m 0 q).2.1 ≠ 32 ∧ q < (sen H m 0 q).2.1 ∧ (∀ i, 0 ≤ i → i < (sen H m 0 q).2.2 - 1 → H (wst H q i + wln H (wst H q i)) = 32)) := by
  have w0 : wst H q 0 = q := wst_0
  have := sen_ok (q := q) h m 0 (Int.le_refl _) (by rw [w0]; exact q0) (by rw [w0]; exact qn)
  rw [w0] at this
  refine ⟨this.1, fun c => ?_⟩
  have g := this.2 c
  exact ⟨by omega, g.2⟩
section
variable {P : zP} {d t : zD P}
def t2S : Nat → Prop := fun r => r = 11 ∨ bS 97 r ∨ bS 100 r
theorem t2_0 {b : Nat} (hb : b = 97 ∨ b = 100) : ∀ r, tS b r → t2S r := fun r h => by
  rcases h with h | h
  · exact Or.inl h
  · rcases hb with rfl | rfl
    · exact Or.inr (Or.inl h)
    · exact Or.inr (Or.inr h)
theorem k_prd {H : Int → Int} {n T : Int} : ∀ (m : Nat) (k : Int) (t : zD P) (g : zV), 0 ≤ k → k + m = 12 → tR t H n T (cst H k) → rO t.m 97 k (cln H 0) (cky H 0) → rO t.m 100 k (cln H 1) (cky H 1) → Ok (tp_readPairs_9 t g k) (fun v s => Fx t2S t s ∧ tR s H n T (prd H n m k).2.1 ∧ ((prd H n m k).1 ≠ 0 → v = 0 ∧ s.m 11 4 = (prd H n m k).1) ∧ ((prd H n m k).1 = 0 → v = 1 ∧ rO s.m 97 (prd H n m k).2.2 (cln H 0) (cky H 0) ∧ rO s.m 100 (prd H n m k).2.2 (cln H 1) (cky H 1)))
  | 0, k, t, g, k0, km, hr, h0, h1 => by
    rw [tp_readPairs_9_e]
    simp (disch := omega) only [↓reduceIte, zinT, wr_id, wrl_id, ltT, ltF, leT, leF, eqT, eqF, ne_eq, not_true_eq_false, not_false_eq_true, Option.bind_some, Ok_some, bi_0, bi_n0, bi_01, k_fail, true_or]
    exact ⟨Fx.rf.up (Or.inl rfl), hr.up4.1, fun _ => ⟨by trivial, hr.up4.2⟩, fun hh => absurd (show (4 : Int) = 0 from hh) (by decide)⟩
  | m + 1, k, t, g, k0, km, hr, h0, h1 => by
    have e0 : cst H k = sst H 0 k := rfl
    have es : (sen H 6 0 (sst H 0 k)).2.1 + 1 = sst H 1 k := rfl
    have hr0 := hr
    rw [e0] at hr0
    have qq := hr0.2.2.2.2
    have sg := hr.sg
    have s0 := sen_0 sg 6 qq.1 qq.2
    have a97 : ¬ tS 97 100 ∧ ¬ tS 97 101 ∧ ¬ tS 97 102 ∧ ¬ tS 100 97 ∧ ¬ tS 100 98 ∧ ¬ tS 100 99 := by unfold tS bS; omega
    have a11 : ∀ b : Nat, (b = 97 ∨ b = 100) → b ≠ 11 ∧ b + 1 ≠ 11 ∧ b + 2 ≠ 11 := fun b hb => by omega
    rw [tp_readPairs_9_e]
    unfold prd
    simp (disch := omega) only [↓reduceIte, zinT, wr_id, wrl_id, ltT, ltF, leT, leF, eqT, eqF, ne_eq, not_true_eq_false, not_false_eq_true, Option.bind_some, Ok_some, bi_0, bi_n0, bi_01]
    refine Ok_bind (k_sentence 6 (most := 6) rfl (by omega) (Or.inl rfl) (by omega) (fun i => rfl) hr0 h0) (fun v s f => ?_)
    have fx := f.1.mo (t2_0 (Or.inl rfl))
    by_cases c1 : (sen H 6 0 (sst H 0 k)).1 ≠ 0
    · have f2 := f.2.2.1 c1
      rw [if_pos c1, f2.1]
      (try dsimp only)
      rw [if_pos (show wr 0 = 0 from rfl)]
      exact Ok_ret ⟨fx, f.2.1, fun _ => ⟨rfl, f2.2⟩, fun hh => absurd hh c1⟩
    have c1' : (sen H 6 0 (sst H 0 k)).1 = 0 := Classical.byContradiction c1
    rw [if_neg c1]
    obtain ⟨rfl, h97⟩ := f.2.2.2 c1'
    have h97' : rO s.m 97 (k + 1) (cln H 0) (cky H 0) := h97.co rfl (fun r r0 r1 => by
      (try dsimp only)
      split
      · rename_i e; rw [e]; rfl
      · rfl) (fun _ _ _ _ _ _ => rfl)
    have h100 := h1.fx f.1 a97.1 a97.2.1 a97.2.2.1
    simp (disch := omega) only [↓reduceIte, zinT, wr_id, wrl_id, ltT, ltF, leT, leF, eqT, eqF, ne_eq, not_true_eq_false, not_false_eq_true, Option.bind_some, Ok_some, bi_0, bi_n0, bi_01, k_pass f.2.1]
    by_cases c2 : H (sen H 6 0 (sst H 0 k)).2.1 ≠ 61
    · rw [if_pos c2, if_neg c2, Option.bind_some]
      simp (disch := omega) only [↓reduceIte, zinT, wr_id, wrl_id, ltT, ltF, leT, leF, eqT, eqF, ne_eq, not_true_eq_false, not_false_eq_true, Option.bind_some, Ok_some, bi_0, bi_n0, bi_01]
      exact ⟨fx.up (Or.inl rfl), f.2.1.up4.1, fun _ => ⟨by trivial, f.2.1.up4.2⟩, fun hh => by simp at hh⟩
    have c2' : H (sen H 6 0 (sst H 0 k)).2.1 = 61 := Classical.byContradiction c2
    have lt1 := sg.lt (k := (sen H 6 0 (sst H 0 k)).2.1) (by omega)
    rw [if_neg c2, if_pos c2', Option.bind_some, es]
    simp (disch := omega) only [↓reduceIte, zinT, wr_id, wrl_id, ltT, ltF, leT, leF, eqT, eqF, ne_eq, not_true_eq_false, not_false_eq_true, Option.bind_some, Ok_some, bi_0, bi_n0, bi_01]
    have hr1 : tR (s.up 11 3 (sst H 1 k)) H n T (sst H 1 k) := f.2.1.up3 (by rw [← es]; omega) (by rw [← es]; omega)
    have qq1 := hr1.2.2.2.2
    have s1 := sen_0 sg 6 qq1.1 qq1.2
    have fx1 : Fx t2S t (s.up 11 3 (sst H 1 k)) := fx.up (Or.inl rfl)
    have h97u : rO (s.up 11 3 (sst H 1 k)).m 97 (k + 1) (cln H 0) (cky H 0) := h97'.fx (S := fun r => r = 11) (Fx.rf.up rfl) (by decide) (by decide) (by decide)
    have h100u : rO (s.up 11 3 (sst H 1 k)).m 100 k (cln H 1) (cky H 1) := h100.fx (S := fun r => r = 11) (Fx.rf.up rfl) (by decide) (by decide) (by decide)
    generalize s.up 11 3 (sst H 1 k) = u at hr1 fx1 h97u h100u ⊢
    refine Ok_bind (k_sentence 6 (most := 6) rfl (by omega) (Or.inr rfl) (by omega) (fun i => rfl) hr1 h100u) (fun v w f' => ?_)
    have fx2 := fx1.tr (f'.1.mo (t2_0 (Or.inr rfl)))
    have es1 := cst_s (H := H) k0
    by_cases c3 : (sen H 6 0 (sst H 1 k)).1 ≠ 0
    · have f2 := f'.2.2.1 c3
      rw [if_pos c3, f2.1]
      (try dsimp only)
      rw [if_neg (fun hh => hh (show wr 0 = 0 from rfl))]
      exact Ok_ret ⟨fx2, f'.2.1, fun _ => ⟨rfl, f2.2⟩, fun hh => absurd hh c3⟩
    have c3' : (sen H 6 0 (sst H 1 k)).1 = 0 := Classical.byContradiction c3
    rw [if_neg c3]
    obtain ⟨rfl, g100⟩ := f'.2.2.2 c3'
    have g100' : rO w.m 100 (k + 1) (cln H 1) (cky H 1) := g100.co rfl (fun r r0 r1 => by
      (try dsimp only)
      split
      · rename_i e; rw [e]; rfl
      · rfl) (fun _ _ _ _ _ _ => rfl)
    have g97 := h97u.fx f'.1 a97.2.2.2.1 a97.2.2.2.2.1 a97.2.2.2.2.2
    have pl := f'.2.1.1
    have n240 := sg.2.2
    simp (disch := omega) only [↓reduceIte, zinT, wr_id, wrl_id, ltT, ltF, leT, leF, eqT, eqF, ne_eq, not_true_eq_false, not_false_eq_true, Option.bind_some, Ok_some, bi_0, bi_n0, bi_01, pl.2.1, pl.2.2]
    by_cases c4 : (sen H 6 0 (sst H 1 k)).2.1 = n
    · rw [if_pos c4, if_neg (fun hh => hh c4)]
      refine Ok_ret ⟨fx2, ?_, fun hh => absurd rfl hh, fun _ => ⟨rfl, g97, g100'⟩⟩
      have q := f'.2.1
      rw [c4] at q
      exact q
    · rw [if_neg c4, if_pos c4]
      simp (disch := omega) only [↓reduceIte, zinT, wr_id, wrl_id, ltT, ltF, leT, leF, eqT, eqF, ne_eq, not_true_eq_false, not_false_eq_true, Option.bind_some, Ok_some, bi_0, bi_n0, bi_01, k_pass f'.2.1]
      by_cases c5 : H (sen H 6 0 (sst H 1 k)).2.1 ≠ 59
      · rw [if_pos c5, if_neg c5, Option.bind_some]
        simp (disch := omega) only [↓reduceIte, zinT, wr_id, wrl_id, ltT, ltF, leT, leF, eqT, eqF, ne_eq, not_true_eq_false, not_false_eq_true, Option.bind_some, Ok_some, bi_0, bi_n0, bi_01]
        exact ⟨fx2.up (Or.inl rfl), f'.2.1.up4.1, fun _ => ⟨by trivial, f'.2.1.up4.2⟩, fun hh => by simp at hh⟩
      · have c5' : H (sen H 6 0 (sst H 1 k)).2.1 = 59 := Classical.byContradiction c5
        have lt2 := sg.lt (k := (sen H 6 0 (sst H 1 k)).2.1) (by omega)
        rw [if_neg c5, if_pos c5', Option.bind_some, ← es1]
        simp (disch := omega) only [↓reduceIte, zinT, wr_id, wrl_id, ltT, ltF, leT, leF, eqT, eqF, ne_eq, not_true_eq_false, not_false_eq_true, Option.bind_some, Ok_some, bi_0, bi_n0, bi_01]
        refine Ok_mono (k_prd m (k + 1) _ _ (by omega) (by omega) (f'.2.1.up3 (by rw [es1]; omega) (by rw [es1]; omega)) (g97.fx (S := fun r => r = 11) (Fx.rf.up rfl) (by decide) (by decide) (by decide)) (g100'.fx (S := fun r => r = 11) (Fx.rf.up rfl) (by decide) (by decide) (by decide))) (fun v' s' g => ⟨(fx2.up (Or.inl rfl)).tr g.1, g.2⟩)
end
