/-! TEXTS: the model reads sentences; laying is told by what it keeps. -/
section
variable {P : zP} {d t : zD P}
def nsQ (H : Int → Int) (n : Int) (I : Int → zD P → Prop) (o : Int × Int × Int) (v : Int) (s : zD P) : Prop := mR s H n o.2.1 ∧ (o.1 ≠ 0 → v = 0 ∧ s.m 132 6 = -1000 * o.1 - o.2.1) ∧ (o.1 = 0 → v = 1 ∧ I o.2.2 s) ∧ ∃ k, I k s
/-- what laying a word has to do -/
def layS (H : Int → Int) (n side b q : Int) (I : Int → zD P → Prop) : Prop := ∀ k s, 0 ≤ k → k < 6 → I k s → mR s H n (wst H q k + wln H (wst H q k)) → 1 ≤ wln H (wst H q k) → hnd s (wln H (wst H q k)) (fun j => H (wst H q k + j)) → ((sen H 6 0 q).1 = 0 → k < (sen H 6 0 q).2.2) → (b = 0 → I (k + 1) s) ∧ (b = 1 → (s.m 132 10 = 0 ∧ I (k + 1) s) ∨ (s.m 132 10 = 1 ∧ Ok (m_laysHand s side k) (fun v s' => (v = 0 ∨ v = 1) ∧ mR (s'.up 132 10 v) H n (wst H q k + wln H (wst H q k)) ∧ I (k + 1) (s'.up 132 10 v))))
theorem n_sentW {H : Int → Int} {n side b q : Int} {I : Int → zD P → Prop} {Q : Int → zD P → Prop} (hb : b = 0 ∨ b = 1) (hI : ∀ k s s', I k s → mX s s' → I k s') (hL : layS H n side b q I) {k : Int} {s : zD P} (k0 : 0 ≤ k) (k6 : k < 6) (hi : I k s) (hr : mR s H n (wst H q k + wln H (wst H q k))) (w1 : 1 ≤ wln H (wst H q k)) (hh : hnd s (wln H (wst H q k)) (fun j => H (wst H q k + j))) (hlt : (sen H 6 0 q).1 = 0 → k < (sen H 6 0 q).2.2) (hsp : H (wst H q k + wln H (wst H q k)) = 32 → ∀ s', mR s' H n (wst H q (k + 1)) → I (k + 1) s' → Ok (m_readsSentence_2 s' side b (k + 1)) Q) (hno : H (wst H q k + wln H (wst H q k)) ≠ 32 → ∀ s', mR s' H n (wst H q k + wln H (wst H q k)) → I (k + 1) s' → Q 1 s') : Ok (if wr b = 0 then (m_here s).bind fun q2 => if wr q2.1 = wr 32 then m_readsSentence_2 (q2.2.up 132 4 (q2.2.m 132 4 + 1)) side b (k + 1) else some (1, q2.2) else if wr (s.m 132 10) = 0 then (m_here s).bind fun q3 => if wr q3.1 = wr 32 then m_readsSentence_2 (q3.2.up 132 4 (q3.2.m 132 4 + 1)) side b (k + 1) else some (1, q3.2) else (m_laysHand s side k).bind fun q4 => if q4.1 = 0 ∨ q4.1 = 1 then (m_here (q4.2.up 132 10 q4.1)).bind fun q5 => if wr q5.1 = wr 32 then m_readsSentence_2 (q5.2.up 132 4 (q5.2.m 132 4 + 1)) side b (k + 1) else some (1, q5.2) else none) Q := by
  have es := wst_s (H := H) (q := q) k0
  have goes : ∀ s' : zD P, mR s' H n (wst H q k + wln H (wst H q k)) → I (k + 1) s' → Ok ((m_here s').bind fun q2 => if wr q2.1 = wr 32 then m_readsSentence_2 (q2.2.up 132 4 (q2.2.m 132 4 + 1)) side b (k + 1) else some (1, q2.2)) Q := fun s' hr' hi' => by
    have hl := H_le hr'.2.2.1 hr'.2.2.2.1
    rw [n_here hr', Option.bind_some]
    (try dsimp only)
    rw [wr_id (by omega), wr_id (by omega)]
    by_cases c : H (wst H q k + wln H (wst H q k)) = 32
    · have lt := hr'.2.2.1.lt (k := wst H q k + wln H (wst H q k)) (by omega)
      have qq := hr'.2.2.2
      rw [if_pos c, hr'.1.1]
      refine hsp c _ ?_ (hI _ _ _ hi' mX.rf.up4)
      rw [es]
      exact hr'.up4 (by omega) (by omega)
    · rw [if_neg c]
      exact Ok_ret (hno c s' hr' hi')
  have l := hL k s k0 k6 hi hr w1 hh hlt
  rcases hb with rfl | rfl
  · rw [if_pos (show wr 0 = 0 from rfl)]
    exact goes s hr (l.1 rfl)
  · rw [if_neg (show ¬ wr 1 = 0 by rw [wr_id (by omega)]; omega)]
    rcases l.2 rfl with ⟨e, i2⟩ | ⟨e, ok⟩
    · rw [if_pos (by rw [e]; rfl)]
      exact goes s hr i2
    · rw [if_neg (by rw [e, wr_id (by omega)]; omega)]
      refine Ok_bind ok (fun v s' f => ?_)
      (try dsimp only)
      rw [if_pos f.1]
      exact goes _ f.2.1 f.2.2
theorem n_sent {H : Int → Int} {n side b q : Int} {I : Int → zD P → Prop} (hb : b = 0 ∨ b = 1) (hI : ∀ k s s', I k s → mX s s' → I k s') (hL : layS H n side b q I) : ∀ (m : Nat) (k : Int) (t : zD P), 0 ≤ k → k + m = 6 → mR t H n (wst H q k) → I k t → sen H 6 0 q = sen H m k (wst H q k) → Ok (m_readsSentence_2 t side b k) (nsQ H n I (sen H m k (wst H q k)))
  | 0, k, t, k0, km, hr, hi, heq => by
    have e6 : k = 6 := by omega
    have hl := H_le hr.2.2.1 hr.2.2.2.1
    rw [m_readsSentence_2_e]
    unfold sen
    cases il : isL (H (wst H q k))
    · have z := wln0.1 il
      simp (disch := omega) only [↓reduceIte, zinT, wr_id, wrl_id, ltT, ltF, leT, leF, eqT, eqF, ne_eq, not_true_eq_false, not_false_eq_true, Option.bind_some, Ok_some, bi_0, bi_n0, bi_01, n_here hr, n_isL hl, il]
      refine Ok_bind (n_word hr) (fun v s f => ?_)
      have f2 := f.2.2.1 z
      rw [f2.1]
      (try dsimp only)
      rw [if_neg (fun hh => hh (show wr 0 = 0 from rfl))]
      refine Ok_ret ?_
      have i2 := hI _ _ _ hi f.1
      exact ⟨f2.2.1, fun _ => ⟨rfl, f2.2.2⟩, fun hh => by simp at hh, k, i2⟩
    · simp (disch := omega) only [↓reduceIte, zinT, wr_id, wrl_id, ltT, ltF, leT, leF, eqT, eqF, ne_eq, not_true_eq_false, not_false_eq_true, Option.bind_some, Ok_some, bi_0, bi_n0, bi_01, n_here hr, n_isL hl, il, reduceCtorEq]
      rw [n_wrong, Option.bind_some]
      (try dsimp only)
      rw [if_pos (Or.inl rfl), hr.1.1]
      refine Ok_ret ?_
      exact ⟨hr.up6.1, fun _ => ⟨rfl, hr.up6.2⟩, fun hh => by simp at hh, k, hI _ _ _ hi mX.rf.up6⟩
  | m + 1, k, t, k0, km, hr, hi, heq => by
    have hlt : (sen H 6 0 q).1 = 0 → k < (sen H 6 0 q).2.2 := fun hz => by
      rw [heq] at hz ⊢
      exact ((sen_ok (q := q) hr.2.2.1 (m + 1) k k0 hr.2.2.2.1 hr.2.2.2.2).2 hz).1.1
    have hl := H_le hr.2.2.1 hr.2.2.2.1
    have es := wst_s (H := H) (q := q) k0
    have wl := wln_le (H := H) (q := wst H q k)
    rw [m_readsSentence_2_e, if_neg (by rw [wr_id (by omega), wr_id (by omega)]; omega), if_pos (by rw [wr_id (by omega), wr_id (by omega)]; omega)]
    unfold sen
    refine Ok_bind (n_word hr) (fun v s f => ?_)
    have i2 := hI _ _ _ hi f.1
    (try dsimp only)
    by_cases c1 : wln H (wst H q k) = 0
    · have f2 := f.2.2.1 c1
      rw [if_pos c1, f2.1, if_neg (fun hh => hh (show wr 0 = 0 from rfl))]
      exact Ok_ret ⟨f2.2.1, fun _ => ⟨rfl, f2.2.2⟩, fun hh => by simp at hh, k, i2⟩
    · rw [if_neg c1]
      by_cases c2 : wln H (wst H q k) = -1
      · have f2 := f.2.1 c2
        rw [if_pos c2, f2.1, if_neg (fun hh => hh (show wr 0 = 0 from rfl))]
        exact Ok_ret ⟨f2.2.1, fun _ => ⟨rfl, f2.2.2⟩, fun hh => by simp at hh, k, i2⟩
      · have f2 := f.2.2.2 (by omega)
        rw [if_neg c2, f2.1, if_pos (show wr 1 ≠ 0 by rw [wr_id (by omega)]; omega)]
        refine n_sentW hb hI hL k0 (by omega) i2 f2.2.1 (by omega) f2.2.2 hlt (fun hc s' hr' hi' => ?_) (fun hc s' hr' hi' => ?_)
        · rw [if_pos hc, ← es]
          have heq' : sen H 6 0 q = sen H m (k + 1) (wst H q (k + 1)) := by
            rw [heq, sen, if_neg c1, if_neg c2, if_pos hc, ← es]
          exact n_sent hb hI hL m (k + 1) s' (by omega) (by omega) hr' hi' heq'
        · rw [if_neg hc]
          exact ⟨hr', fun hh => absurd rfl hh, fun _ => ⟨rfl, hi'⟩, k + 1, hi'⟩
theorem n_sentence {H : Int → Int} {n side b q : Int} {I : Int → zD P → Prop} (hb : b = 0 ∨ b = 1) (hI : ∀ k s s', I k s → mX s s' → I k s') (hL : layS H n side b q I) (hr : mR t H n q) (hi : I 0 t) : Ok (m_readsSentence t side b) (nsQ H n I (sen H 6 0 q)) := by
  have w0 : wst H q 0 = q := wst_0
  rw [m_readsSentence_e]
  have := n_sent hb hI hL 6 0 t (by omega) (by omega) (by rw [w0]; exact hr) hi (by rw [w0])
  rw [w0] at this
  exact this
/-- without laying -/
theorem n_sentence0 {H : Int → Int} {n side q : Int} (hr : mR t H n q) : Ok (m_readsSentence t side 0) (nsQ H n (fun _ s => mX t s) (sen H 6 0 q)) := n_sentence (Or.inl rfl) (fun _ _ _ h f => h.tr f) (fun k s k0 k6 hi _ _ _ _ => ⟨fun _ => hi, fun hh => absurd hh (by decide)⟩) hr mX.rf
end
