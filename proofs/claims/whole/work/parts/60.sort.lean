/-! KEYS IN ORDER: the model. -/
def cA (K : Int → Int) (n x : Int) : Int := sm n (fun k => bi (decide (K k = x)))
theorem sm_upd {f : Int → Int} {n i v : Int} (h0 : 0 ≤ i) (h1 : i < n) : sm n (fun k => if k = i then v else f k) = sm n f - f i + v := by
  obtain ⟨q, hq⟩ : ∃ q : Nat, n = i + 1 + q := ⟨(n - i - 1).toNat, by omega⟩
  subst hq
  clear h1
  induction q with
  | zero =>
    rw [show i + 1 + ((0 : Nat) : Int) = i + 1 by omega, sm_s _ h0, sm_s _ h0, if_pos rfl, sm_congr (g := f) h0 (fun k k0 k1 => if_neg (by omega))]
    omega
  | succ q ih =>
    rw [show i + 1 + ((q + 1 : Nat) : Int) = (i + 1 + (q : Int)) + 1 by omega, sm_s _ (by omega), sm_s _ (by omega), ih, if_neg (by omega)]
    omega
def updF (f : Int → Int) (i v : Int) : Int → Int := fun k => if k = i then v else f k
theorem cA_upd {f : Int → Int} {n i v x : Int} (h0 : 0 ≤ i) (h1 : i < n) : cA (updF f i v) n x = cA f n x - bi (decide (f i = x)) + bi (decide (v = x)) := by
  have e : cA (updF f i v) n x = sm n (fun k => if k = i then bi (decide (v = x)) else bi (decide (f k = x))) := by
    unfold cA updF
    refine sm_congr (by omega) (fun k k0 k1 => ?_)
    (try dsimp only)
    by_cases c : k = i
    · rw [if_pos c, if_pos c]
    · rw [if_neg c, if_neg c]
  rw [e, sm_upd (f := fun k => bi (decide (f k = x))) h0 h1]
  rfl
def sM {P : zP} (t : zD P) (G : Int → Int) (N : Int) : Prop := t.m 132 30 = N ∧ ∀ i, 0 ≤ i → i < N → t.m 153 (zix i) = G i ∧ 0 ≤ G i ∧ G i < 4750104241
def sPre (G : Int → Int) (k at_ key : Int) : Prop := (∀ i j, 0 ≤ i → i < j → j ≤ k → i ≠ at_ → j ≠ at_ → G i ≤ G j) ∧ ∀ j, at_ < j → j ≤ k → key < G j
def srt (G : Int → Int) (n : Int) : Prop := ∀ i j, 0 ≤ i → i < j → j < n → G i ≤ G j
section
variable {P : zP} {d : zD P}
theorem n_sort28 {N step k key : Int} {c : Int → Int} {Q : Int → zD P → Prop} (hN : N ≤ 5400) (hs : 1 ≤ step) (hs2 : step ≤ 9841) (hk : 0 ≤ k) (hk2 : k < N) (hkey : 0 ≤ key ∧ key < 4750104241) (hq : ∀ (t : zD P) (G : Int → Int) (g1 g4 g5 : zV), Fr 153 154 d t → sM t G N → (∀ x, cA G N x = c x) → (step = 1 → srt G (k + 1)) → Ok (m_sortsKeys_17 t step (k + 1) g1 g4 g5) Q) : ∀ (fuel : Nat) (at_ : Int) (t : zD P) (G : Int → Int) (g4 : zV), at_ ≤ fuel → 0 ≤ at_ → at_ ≤ k → Fr 153 154 d t → sM t G N → (∀ x, cA (updF G at_ key) N x = c x) → (step = 1 → sPre G k at_ key) → Ok (m_sortsKeys_28 t step k key g4 at_) Q := by
  intro fuel
  induction fuel with
  | zero =>
    intro at_ t G g4 h1 h2 h3 hf hM hc hp
    have e : at_ = 0 := by omega
    subst e
    rw [m_sortsKeys_28_e]
    simp (disch := omega) only [↓reduceIte, zinT, wr_id, wrl_id, ltT, ltF, leT, leF, eqT, eqF, ne_eq, not_true_eq_false, not_false_eq_true, Option.bind_some, Ok_some, bi_0, bi_n0, bi_01]
    refine hq _ (updF G 0 key) _ _ _ (hf.up (by omega) (by omega)) ⟨by rw [up_ne (by omega)]; exact hM.1, fun i i0 i1 => ?_⟩ hc (fun e1 i j i0 ij j1 => ?_)
    · rw [u_153, zfu_z (by omega)]
      unfold updF
      by_cases c1 : i = 0
      · rw [if_pos c1, if_pos c1]; exact ⟨rfl, hkey⟩
      · rw [if_neg c1, if_neg c1]; exact hM.2 i i0 i1
    · have p := hp e1
      unfold updF
      by_cases c1 : i = 0
      · rw [if_pos c1, if_neg (by omega)]
        have := p.2 j (by omega) (by omega); omega
      · rw [if_neg c1, if_neg (by omega)]
        exact p.1 i j i0 ij (by omega) c1 (by omega)
  | succ fuel ih =>
    intro at_ t G g4 h1 h2 h3 hf hM hc hp
    have exit : (at_ < step ∨ (step ≤ at_ ∧ G (at_ - step) ≤ key)) → ∀ g1 g4 g5 : zV, Ok (m_sortsKeys_17 (t.up 153 (zix at_) key) step (k + 1) g1 g4 g5) Q := by
      intro hx g1 g4 g5
      refine hq _ (updF G at_ key) _ _ _ (hf.up (by omega) (by omega)) ⟨by rw [up_ne (by omega)]; exact hM.1, fun i i0 i1 => ?_⟩ hc (fun e1 i j i0 ij j1 => ?_)
      · rw [u_153, zfu_z (by omega)]
        unfold updF
        by_cases c1 : i = at_
        · rw [if_pos c1, if_pos c1]; exact ⟨rfl, hkey⟩
        · rw [if_neg c1, if_neg c1]; exact hM.2 i i0 i1
      · have p := hp e1
        unfold updF
        by_cases c1 : i = at_
        · rw [if_pos c1, if_neg (by omega)]
          have := p.2 j (by omega) (by omega); omega
        · rw [if_neg c1]
          by_cases c2 : j = at_
          · rw [if_pos c2]
            rcases hx with hx | hx
            · omega
            · by_cases c3 : i = at_ - step
              · rw [c3]; exact hx.2
              · have := p.1 i (at_ - step) i0 (by omega) (by omega) c1 (by omega)
                omega
          · rw [if_neg c2]
            exact p.1 i j i0 ij (by omega) c1 c2
    rw [m_sortsKeys_28_e]
    by_cases c1 : at_ < step
    · simp (disch := omega) only [↓reduceIte, zinT, wr_id, wrl_id, ltT, ltF, leT, leF, eqT, eqF, ne_eq, not_true_eq_false, not_false_eq_true, Option.bind_some, Ok_some, bi_0, bi_n0, bi_01, if_true]
      exact exit (Or.inl c1) _ _ _
    · have r := hM.2 (at_ - step) (by omega) (by omega)
      simp (disch := omega) only [↓reduceIte, zinT, wr_id, wrl_id, ltT, ltF, leT, leF, eqT, eqF, ne_eq, not_true_eq_false, not_false_eq_true, Option.bind_some, Ok_some, bi_0, bi_n0, bi_01, r.1]
      by_cases c2 : G (at_ - step) ≤ key
      · rw [if_pos c2]
        exact exit (Or.inr ⟨by omega, c2⟩) _ _ _
      · rw [if_neg c2]
        refine ih (at_ - step) _ (updF G at_ (G (at_ - step))) _ (by omega) (by omega) (by omega) (hf.up (by omega) (by omega)) ⟨by rw [up_ne (by omega)]; exact hM.1, fun i i0 i1 => ?_⟩ (fun x => ?_) (fun e1 => ?_)
        · rw [u_153, zfu_z (by omega)]
          unfold updF
          by_cases c3 : i = at_
          · rw [if_pos c3, if_pos c3]; exact ⟨rfl, r.2⟩
          · rw [if_neg c3, if_neg c3]; exact hM.2 i i0 i1
        · rw [← hc x, cA_upd (by omega) (by omega), cA_upd (by omega) (by omega), cA_upd (by omega) (by omega)]
          have e : updF G at_ (G (at_ - step)) (at_ - step) = G (at_ - step) := if_neg (by omega)
          rw [e]
          omega
        · have p := hp e1
          subst e1
          refine ⟨fun i j i0 ij j1 ni nj => ?_, fun j j0 j1 => ?_⟩
          · unfold updF
            by_cases c3 : j = at_
            · rw [if_pos c3, if_neg (by omega)]
              exact p.1 i (at_ - 1) i0 (by omega) (by omega) (by omega) (by omega)
            · rw [if_neg c3]
              by_cases c4 : i = at_
              · rw [if_pos c4]
                exact p.1 (at_ - 1) j (by omega) (by omega) j1 (by omega) c3
              · rw [if_neg c4]
                exact p.1 i j i0 ij j1 c4 c3
          · unfold updF
            by_cases c3 : j = at_
            · rw [if_pos c3]; omega
            · rw [if_neg c3]
              exact p.2 j (by omega) j1
def stq (q : Nat) : Int := Nat.rec (motive := fun _ => Int) 0 (fun _ s => 3 * s + 1) q
theorem stq_s (q : Nat) : stq (q + 1) = 3 * stq q + 1 := rfl
theorem stq_b : ∀ q : Nat, q < 10 → 0 ≤ stq q ∧ stq q ≤ 9841 ∧ (q = 0 ∨ 1 ≤ stq q) ∧ (stq q = 1 ↔ q = 1) := by decide +kernel
theorem n_sort17 {N : Int} {c : Int → Int} {Q : Int → zD P → Prop} {q : Nat} (hq9 : q < 9) (hN : N ≤ 5400) (hN0 : 0 ≤ N) {G : Int → Int} (hM : sM d G N) (hc : ∀ x, cA G N x = c x) (hk : ∀ (t : zD P) (G : Int → Int) (g2 g3 g4 g5 : zV), Fr 153 154 d t → sM t G N → (∀ x, cA G N x = c x) → (q = 0 → srt G N) → Ok (m_sortsKeys_13 t (stq q) g2 g3 g4 g5) Q) (g3 g4 g5 : zV) : Ok (m_sortsKeys_17 d (stq (q + 1)) (stq (q + 1)) g3 g4 g5) Q := by
  have b := stq_b (q + 1) (by omega)
  have b0 := stq_b q (by omega)
  have e := stq_s q
  have hz : zdiv 0 (stq (q + 1)) 3 = stq q := by rw [zdiv0 (by omega)]; omega
  have fin : ∀ (t : zD P) (k : Int) (g3 g4 g5 : zV), N ≤ k → 0 ≤ k → k ≤ 20000 → Fr 153 154 d t → (∃ G, sM t G N ∧ (∀ x, cA G N x = c x) ∧ (stq (q + 1) = 1 → srt G k)) → Ok (m_sortsKeys_17 t (stq (q + 1)) k g3 g4 g5) Q := by
    intro t k g3 g4 g5 h1 h2 h3 hf ⟨G, a1, a2, a3⟩
    have e1 := a1.1
    rw [m_sortsKeys_17_e]
    simp (disch := omega) only [↓reduceIte, zinT, wr_id, wrl_id, ltT, ltF, leT, leF, eqT, eqF, ne_eq, not_true_eq_false, not_false_eq_true, Option.bind_some, Ok_some, bi_0, bi_n0, bi_01, e1, hz]
    exact hk t G _ _ _ _ hf a1 a2 (fun q0 i j i0 ij j1 => a3 (b.2.2.2.mpr (by omega)) i j i0 ij (by omega))
  by_cases c1 : N < stq (q + 1)
  · refine fin d _ _ _ _ (by omega) (by omega) (by omega) Fr.rf ⟨G, hM, hc, fun s1 i j i0 ij j1 => by omega⟩
  · refine lpM (fun k t (y : zV × zV × zV) => m_sortsKeys_17 t (stq (q + 1)) k y.1 y.2.1 y.2.2) (fun k t _ => Fr 153 154 d t ∧ ∃ G, sM t G N ∧ (∀ x, cA G N x = c x) ∧ (stq (q + 1) = 1 → srt G k)) (stq (q + 1)) N (by omega) d (g3, g4, g5) ⟨Fr.rf, G, hM, hc, fun s1 i j i0 ij j1 => by omega⟩ (fun t y hi => ?_) (fun k t y hk0 hk1 hi hnext => ?_)
    · obtain ⟨g3, g4, g5⟩ := y
      exact fin t N _ _ _ (Int.le_refl _) hN0 (by omega) hi.1 hi.2
    · obtain ⟨g3, g4, g5⟩ := y
      obtain ⟨hf, G, a1, a2, a3⟩ := hi
      have e1 := a1.1
      have r := a1.2 k (by omega) hk1
      (try dsimp only)
      rw [m_sortsKeys_17_e]
      simp (disch := omega) only [↓reduceIte, zinT, wr_id, wrl_id, ltT, ltF, leT, leF, eqT, eqF, ne_eq, not_true_eq_false, not_false_eq_true, Option.bind_some, Ok_some, bi_0, bi_n0, bi_01, e1, r.1]
      refine n_sort28 (d := d) (N := N) (c := c) hN (by omega) (by omega) (by omega) hk1 r.2 (fun t' G' g1 g4 g5 h1 h2 h3 h4 => hnext t' (_, _, _) ⟨h1, G', h2, h3, h4⟩) k.toNat k t G _ (by omega) (by omega) (Int.le_refl _) hf a1 (fun x => ?_) (fun s1 => ⟨fun i j i0 ij j1 ni nj => a3 s1 i j i0 ij (by omega), fun j j0 j1 => by omega⟩)
      rw [cA_upd (by omega) hk1, a2 x]
      omega
theorem n_sort13 {N : Int} {c : Int → Int} (hN : N ≤ 5400) (hN0 : 0 ≤ N) : ∀ (q : Nat) (t : zD P) (G : Int → Int) (g2 g3 g4 g5 : zV), q < 10 → Fr 153 154 d t → sM t G N → (∀ x, cA G N x = c x) → (q = 0 → srt G N) → Ok (m_sortsKeys_13 t (stq q) g2 g3 g4 g5) (fun _ t => Fr 153 154 d t ∧ ∃ G, sM t G N ∧ (∀ x, cA G N x = c x) ∧ srt G N)
  | 0, t, G, g2, g3, g4, g5, hq, hf, h1, h2, h3 => by
    rw [m_sortsKeys_13_e, show stq 0 = 0 from rfl]
    simp (disch := omega) only [↓reduceIte, zinT, wr_id, wrl_id, ltT, ltF, leT, leF, eqT, eqF, ne_eq, not_true_eq_false, not_false_eq_true, Option.bind_some, Ok_some, bi_0, bi_n0, bi_01]
    exact ⟨hf, G, h1, h2, h3 rfl⟩
  | q + 1, t, G, g2, g3, g4, g5, hq, hf, h1, h2, h3 => by
    have b := stq_b (q + 1) hq
    have pos : 1 ≤ stq (q + 1) := by
      rcases b.2.2.1 with h | h
      · omega
      · exact h
    rw [m_sortsKeys_13_e]
    simp (disch := omega) only [↓reduceIte, zinT, wr_id, wrl_id, ltT, ltF, leT, leF, eqT, eqF, ne_eq, not_true_eq_false, not_false_eq_true, Option.bind_some, Ok_some, bi_0, bi_n0, bi_01]
    exact n_sort17 (d := t) (by omega) hN hN0 h1 h2 (fun t' G' g2 g3 g4 g5 a1 a2 a3 a4 => n_sort13 hN hN0 q t' G' g2 g3 g4 g5 (by omega) (hf.tr a1) a2 a3 a4) _ _ _
theorem n_sortsKeys {N : Int} {G : Int → Int} (hN : N ≤ 5400) (hN0 : 0 ≤ N) (hM : sM d G N) : Ok (m_sortsKeys d) (fun _ t => Fr 153 154 d t ∧ ∃ G', sM t G' N ∧ (∀ x, cA G' N x = cA G N x) ∧ srt G' N) := by
  have e1 := hM.1
  rw [m_sortsKeys_e]
  have key : ∀ (fuel q : Nat), q + fuel = 9 → 1 ≤ q → Ok (m_sortsKeys_2 d (stq q) (3, 0) (3, 0) (3, 0) (3, 0)) (fun _ t => Fr 153 154 d t ∧ ∃ G', sM t G' N ∧ (∀ x, cA G' N x = cA G N x) ∧ srt G' N) := by
    intro fuel
    induction fuel with
    | zero =>
      intro q hq hq1
      have e : q = 9 := by omega
      subst e
      have e9 : stq 9 = 9841 := by decide +kernel
      have s := n_sort13 (d := d) (c := fun x => cA G N x) hN hN0 9 d G (3, 0) (3, 0) (3, 0) (3, 0) (by omega) Fr.rf hM (fun x => rfl) (fun h => by omega)
      rw [e9] at s ⊢
      rw [m_sortsKeys_2_e]
      simp (disch := omega) only [↓reduceIte, zinT, wr_id, wrl_id, ltT, ltF, leT, leF, eqT, eqF, ne_eq, not_true_eq_false, not_false_eq_true, Option.bind_some, Ok_some, bi_0, bi_n0, bi_01, e1]
      exact s
    | succ fuel ih =>
      intro q hq hq1
      have b := stq_b q (by omega)
      rw [m_sortsKeys_2_e]
      simp (disch := omega) only [↓reduceIte, zinT, wr_id, wrl_id, ltT, ltF, leT, leF, eqT, eqF, ne_eq, not_true_eq_false, not_false_eq_true, Option.bind_some, Ok_some, bi_0, bi_n0, bi_01, e1]
      by_cases c : N ≤ stq q
      · rw [if_pos c]
        exact n_sort13 hN hN0 q d G _ _ _ _ (by omega) Fr.rf hM (fun x => rfl) (fun h => by omega)
      · rw [if_neg c, ← stq_s q]
        exact ih (q + 1) (by omega) (by omega)
  exact key 8 1 (by omega) (by omega)
end
