/-! TEXTS: the class reads words. -/
/-- cells outside stay -/
def Fx {P : zP} (S : Nat → Prop) (d e : zD P) : Prop := ∀ r, ¬ S r → e.m r = d.m r
theorem Fx.rf {P : zP} {S : Nat → Prop} {d : zD P} : Fx S d d := fun _ _ => rfl
theorem Fx.tr {P : zP} {S : Nat → Prop} {a b c : zD P} (h : Fx S a b) (h2 : Fx S b c) : Fx S a c := fun r hr => (h2 r hr).trans (h r hr)
theorem Fx.mo {P : zP} {S T : Nat → Prop} {a b : zD P} (h : Fx S a b) (hs : ∀ r, S r → T r) : Fx T a b := fun r hr => h r (fun x => hr (hs r x))
theorem Fx.up {P : zP} {S : Nat → Prop} {a b : zD P} (h : Fx S a b) {r k : Nat} {x : Int} (h1 : S r) : Fx S a (b.up r k x) := fun r' hr => (up_ne (fun e => hr (by rw [e]; exact h1))).trans (h r' hr)
section
variable {P : zP} {d t : zD P}
/-- the class's tape: so many bytes, so many of them read, at a place -/
def tR (t : zD P) (H : Int → Int) (n T q : Int) : Prop := (t.m 11 1 = T ∧ t.m 11 2 = n ∧ t.m 11 3 = q) ∧ (∀ k, 0 ≤ k → k < n → t.m 12 (zix k) = H k) ∧ sgn H n ∧ (n ≤ T ∧ T ≤ 240) ∧ 0 ≤ q ∧ q ≤ n
theorem tR.sg {H : Int → Int} {n T q : Int} (h : tR t H n T q) : sgn H n := h.2.2.1
theorem tR.up3 {H : Int → Int} {n T q q' : Int} (h : tR t H n T q) (h0 : 0 ≤ q') (h1 : q' ≤ n) : tR (t.up 11 3 q') H n T q' := by
  obtain ⟨⟨a1, a2, a3⟩, b, c, e, f⟩ := h
  refine ⟨⟨?_, ?_, ?_⟩, ?_, c, e, h0, h1⟩
  · rw [u_11_3, zfu_n, if_neg (by decide)]; exact a1
  · rw [u_11_3, zfu_n, if_neg (by decide)]; exact a2
  · rw [u_11_3, zfu_n, if_pos rfl]
  · rw [up_ne (by decide)]; exact b
theorem tR.up4 {H : Int → Int} {n T q x : Int} (h : tR t H n T q) : tR (t.up 11 4 x) H n T q ∧ (t.up 11 4 x).m 11 4 = x := by
  obtain ⟨⟨a1, a2, a3⟩, b, c, e, f⟩ := h
  refine ⟨⟨⟨?_, ?_, ?_⟩, ?_, c, e, f⟩, ?_⟩
  · rw [u_11_4, zfu_n, if_neg (by decide)]; exact a1
  · rw [u_11_4, zfu_n, if_neg (by decide)]; exact a2
  · rw [u_11_4, zfu_n, if_neg (by decide)]; exact a3
  · rw [up_ne (by decide)]; exact b
  · rw [u_11_4, zfu_n, if_pos rfl]
theorem tR.fx {S : Nat → Prop} {s : zD P} {H : Int → Int} {n T q : Int} (h : tR t H n T q) (f : Fx S t s) (h1 : ¬ S 11) (h2 : ¬ S 12) : tR s H n T q := by
  obtain ⟨⟨a1, a2, a3⟩, b, c, e, g⟩ := h
  refine ⟨⟨?_, ?_, ?_⟩, ?_, c, e, g⟩
  · rw [f 11 h1]; exact a1
  · rw [f 11 h1]; exact a2
  · rw [f 11 h1]; exact a3
  · rw [f 12 h2]; exact b
theorem H_le {H : Int → Int} {n q : Int} (h : sgn H n) (q0 : 0 ≤ q) : -1 ≤ H q ∧ H q ≤ 255 := by
  by_cases c : q < n
  · have := h.1 q q0 c; omega
  · have := h.2.1 q (by omega); omega
theorem k_here {H : Int → Int} {n T q : Int} (h : tR t H n T q) : tp_here t = some (H q, t) := by
  obtain ⟨⟨a1, a2, a3⟩, b, c, e, f⟩ := h
  have n240 := c.2.2.2
  rw [tp_here_e]
  by_cases c1 : q < n
  · simp (disch := omega) only [↓reduceIte, zinT, wr_id, wrl_id, ltT, ltF, leT, leF, eqT, eqF, ne_eq, not_true_eq_false, not_false_eq_true, Option.bind_some, Ok_some, bi_0, bi_n0, bi_01, a1, a2, a3, b]
  · simp (disch := omega) only [↓reduceIte, zinT, wr_id, wrl_id, ltT, ltF, leT, leF, eqT, eqF, ne_eq, not_true_eq_false, not_false_eq_true, Option.bind_some, Ok_some, bi_0, bi_n0, bi_01, a1, a2, a3, c.2.1 q (by omega)]
theorem k_isLetter {H : Int → Int} {n T q : Int} (h : tR t H n T q) : tp_isLetter t = some (bi (isL (H q)), t) := by
  have l := H_le h.sg h.2.2.2.2.1
  rw [tp_isLetter_e, k_here h]
  unfold isL
  rcases (by omega : H q < 97 ∨ (97 ≤ H q ∧ H q ≤ 122) ∨ 122 < H q) with c | c | c
  · rw [bi_f (by omega)]
    simp (disch := omega) only [↓reduceIte, zinT, wr_id, wrl_id, ltT, ltF, leT, leF, eqT, eqF, ne_eq, not_true_eq_false, not_false_eq_true, Option.bind_some, Ok_some, bi_0, bi_n0, bi_01]
  · rw [bi_t c]
    simp (disch := omega) only [↓reduceIte, zinT, wr_id, wrl_id, ltT, ltF, leT, leF, eqT, eqF, ne_eq, not_true_eq_false, not_false_eq_true, Option.bind_some, Ok_some, bi_0, bi_n0, bi_01]
  · rw [bi_f (by omega)]
    simp (disch := omega) only [↓reduceIte, zinT, wr_id, wrl_id, ltT, ltF, leT, leF, eqT, eqF, ne_eq, not_true_eq_false, not_false_eq_true, Option.bind_some, Ok_some, bi_0, bi_n0, bi_01]
theorem k_fail {x : Int} : tp_fail t x = some (0, t.up 11 4 x) := by rw [tp_fail_e]
theorem k_pass {H : Int → Int} {n T q x : Int} (h : tR t H n T q) (x0 : 0 ≤ x ∧ x ≤ 255) : tp_pass t x = if H q = x then some (1, t.up 11 3 (q + 1)) else some (0, t.up 11 4 1) := by
  have l := H_le h.sg h.2.2.2.2.1
  rw [tp_pass_e, k_here h]
  by_cases c : H q = x
  · rw [if_pos c]
    simp (disch := omega) only [↓reduceIte, zinT, wr_id, wrl_id, ltT, ltF, leT, leF, eqT, eqF, ne_eq, not_true_eq_false, not_false_eq_true, Option.bind_some, Ok_some, bi_0, bi_n0, bi_01, c, h.1.2.2]
  · rw [if_neg c]
    simp (disch := omega) only [↓reduceIte, zinT, wr_id, wrl_id, ltT, ltF, leT, leF, eqT, eqF, ne_eq, not_true_eq_false, not_false_eq_true, Option.bind_some, Ok_some, bi_0, bi_n0, bi_01, k_fail, true_or]
theorem k_word {H : Int → Int} {n T q : Int} (h : tR t H n T q) : Ok (tp_readWord t) (fun v t' => Fx (fun r => r = 11) t t' ∧ (wln H q = -1 → v = -1 ∧ tR t' H n T (q + 7) ∧ t'.m 11 4 = 2) ∧ (wln H q ≠ -1 → v = kyW H q ∧ tR t' H n T (q + wln H q))) := by
  have sg := h.sg
  have qq := h.2.2.2.2
  have wl := wln_le (H := H) (q := q)
  have w := sg.wl qq.1 qq.2
  have W0 : 0 ≤ (if wln H q = -1 then 7 else wln H q) ∧ (if wln H q = -1 then 7 else wln H q) ≤ 7 := by split <;> omega
  rw [tp_readWord_e]
  refine lpM (fun k s (y : Int × zV) => tp_readWord_4 s y.1 y.2 k) (fun k s y => Fx (fun r => r = 11) t s ∧ tR s H n T (q + k) ∧ y.1 = kof k (fun k => H (q + k))) 0 (if wln H q = -1 then 7 else wln H q) W0.1 t (0, (3, 0)) ⟨Fx.rf, by rw [Int.add_zero]; exact h, rfl⟩ (fun s y hi => ?_) (fun k s y k0 k1 hi hnext => ?_)
  · obtain ⟨v, g⟩ := y
    obtain ⟨hf, hr, hv⟩ := hi
    (try dsimp only at hv ⊢)
    rw [tp_readWord_4_e]
    by_cases c : wln H q = -1
    · rw [if_pos c] at hr
      have L := wln_L (H := H) (q := q) (k := 7) (by omega) (by omega) (Or.inr c)
      have il : isL (H (q + 7)) = true := decide_eq_true L
      rw [if_pos c]
      simp (disch := omega) only [↓reduceIte, zinT, wr_id, wrl_id, ltT, ltF, leT, leF, eqT, eqF, ne_eq, not_true_eq_false, not_false_eq_true, Option.bind_some, Ok_some, bi_0, bi_n0, bi_01, k_isLetter hr, il, reduceCtorEq, k_fail]

      exact ⟨hf.up rfl, fun _ => ⟨trivial, hr.up4.1, hr.up4.2⟩, fun hh => hh.elim⟩
    · rw [if_neg c] at hr hv
      have L := wln_E (H := H) (q := q) c
      have il : isL (H (q + wln H q)) = false := decide_eq_false L
      rw [if_neg c]
      by_cases e7 : 7 ≤ wln H q
      · simp (disch := omega) only [↓reduceIte, zinT, wr_id, wrl_id, ltT, ltF, leT, leF, eqT, eqF, ne_eq, not_true_eq_false, not_false_eq_true, Option.bind_some, Ok_some, bi_0, bi_n0, bi_01, k_isLetter hr, il, reduceCtorEq]
        exact ⟨hf, fun hh => hh.elim, fun _ => ⟨hv, hr⟩⟩
      · simp (disch := omega) only [↓reduceIte, zinT, wr_id, wrl_id, ltT, ltF, leT, leF, eqT, eqF, ne_eq, not_true_eq_false, not_false_eq_true, Option.bind_some, Ok_some, bi_0, bi_n0, bi_01, k_isLetter hr, il, reduceCtorEq]
        exact ⟨hf, fun hh => hh.elim, fun _ => ⟨hv, hr⟩⟩
  · obtain ⟨v, g⟩ := y
    obtain ⟨hf, hr, hv⟩ := hi
    (try dsimp only at hv ⊢)
    have k7 : k < 7 := by omega
    have L := wln_L (H := H) (q := q) (k := k) k0 (by omega) (by
      by_cases c : wln H q = -1
      · exact Or.inr c
      · rw [if_neg c] at k1; exact Or.inl k1)
    have il : isL (H (q + k)) = true := decide_eq_true L
    have ok : gOK k (fun k => H (q + k)) := ⟨by omega, fun j j0 j1 => wln_L j0 (by omega) (by
      by_cases c : wln H q = -1
      · exact Or.inr c
      · rw [if_neg c] at k1; exact Or.inl (by omega))⟩
    have lk := lor_key (x := H (q + k)) ok k7 L
    have nx : tR (s.up 11 3 (q + k + 1)) H n T (q + (k + 1)) := by
      have := hr.up3 (q' := q + k + 1) (by omega) (by have := sg.lt (k := q + k) (by omega); omega)
      rw [show q + (k + 1) = q + k + 1 by omega]
      exact this
    rw [tp_readWord_4_e]
    rw [wr_id (x := H (q + k) - 96) (by omega)] at lk
    simp (disch := omega) only [↓reduceIte, zinT, wr_id, wrl_id, ltT, ltF, leT, leF, eqT, eqF, ne_eq, not_true_eq_false, not_false_eq_true, Option.bind_some, Ok_some, bi_0, bi_n0, bi_01, k_isLetter hr, il, reduceCtorEq, k_here hr, wl_withLetter_e, hr.1.2.2]
    refine hnext _ (_, _) ?_
    refine ⟨hf.up rfl, nx, ?_⟩
    rw [hv, kof_s k0]
    exact lk
end
