/-! PHRASES: the model's table behind its sort. -/
section
variable {P : zP} {d : zD P} {F : Nat → Int}
def qM (t : zD P) (K B : Int → Int) (n : Int) : Prop := t.m 132 30 = n ∧ (∀ k, 0 ≤ k → k < n → t.m 153 (zix k) = K k ∧ 0 ≤ K k ∧ K k < 4750104241) ∧ ∀ k, 0 ≤ k → k < n → t.m 154 (zix k) = B k
def qT (t : zD P) (bag : Int → Int) (T : Int) : Prop := ∃ K B n, n ≤ T ∧ qM t K B n ∧ Tab K B n bag
theorem cA_s {G : Int → Int} {k x : Int} (h : 0 ≤ k) : cA G (k + 1) x = cA G k x + bi (decide (G k = x)) := sm_s _ h
theorem cA_bag1 {G : Int → Int} {k : Int} (h : 0 ≤ k) : ∀ x, bag1 (cA G k) (G k) x = cA G (k + 1) x := by
  intro x
  rw [cA_s h]
  unfold bag1
  (try dsimp only)
  by_cases e : x = G k
  · rw [if_pos e, bi_t e.symm]
  · rw [if_neg e, bi_f (fun hh => e hh.symm)]
theorem n_compress {N : Int} {G : Int → Int} (hN0 : 0 ≤ N) (hN : N ≤ 5400) (hM : sM d G N) (hs : srt G N) (g1 g4 g5 g6 : zV) : Ok (m_findsPhrases_98 d g1 0 0 g4 g5 g6) (fun _ t => FrP d t ∧ qT t (cA G N) N) := by
  refine lpM (fun k t (y : zV × Int) => m_findsPhrases_98 t y.1 y.2 k g4 g5 g6) (fun k t y => Fr 153 155 d t ∧ 0 ≤ y.2 ∧ y.2 ≤ k ∧ (∀ i, k ≤ i → i < N → t.m 153 (zix i) = G i ∧ 0 ≤ G i ∧ G i < 4750104241) ∧ ∃ K B, (∀ i, 0 ≤ i → i < y.2 → t.m 153 (zix i) = K i ∧ 0 ≤ K i ∧ K i < 4750104241) ∧ (∀ i, 0 ≤ i → i < y.2 → t.m 154 (zix i) = B i) ∧ (∀ i, 0 ≤ i → i < y.2 → K i ≤ G (k - 1)) ∧ (0 < k → 0 < y.2) ∧ Tab K B y.2 (cA G k)) 0 N hN0 d (g1, 0) ⟨Fr.rf, Int.le_refl _, Int.le_refl _, fun i i0 i1 => hM.2 i i0 i1, fun _ => 0, fun _ => 0, fun i a b => by (try dsimp only at b); omega, fun i a b => by (try dsimp only at b); omega, fun i a b => by (try dsimp only at b); omega, fun h => by omega, Int.le_refl _, fun i j a b c => by (try dsimp only at c); omega, fun k a b => by (try dsimp only at b); omega, fun x hx => absurd rfl hx, fun x => Int.le_refl _⟩ (fun t y hi => ?_) (fun k t y hk hk2 hi hnext => ?_)
  · obtain ⟨g, n⟩ := y
    obtain ⟨f, n0, n1, r, K, B, a1, a2, a3, a4, a5⟩ := hi
    (try dsimp only at n0 n1 a1 a2 a5 ⊢)
    have e1 : t.m 132 30 = N := by rw [f 132 (by omega)]; exact hM.1
    rw [m_findsPhrases_98_e]
    simp (disch := omega) only [↓reduceIte, zinT, wr_id, wrl_id, ltT, ltF, leT, leF, eqT, eqF, ne_eq, not_true_eq_false, not_false_eq_true, Option.bind_some, Ok_some, bi_0, bi_n0, bi_01, e1]
    refine ⟨(f.fp (by omega) (by omega)).tr FrP.u30, K, B, n, n1, ⟨by rw [u_132_30]; rfl, fun i i0 i1 => by rw [up_ne (by omega)]; exact a1 i i0 i1, fun i i0 i1 => by rw [up_ne (by omega)]; exact a2 i i0 i1⟩, a5⟩
  · obtain ⟨g, n⟩ := y
    obtain ⟨f, n0, n1, r, K, B, a1, a2, a3, a4, a5⟩ := hi
    (try dsimp only at n0 n1 a1 a2 a3 a4 a5 ⊢)
    have e1 : t.m 132 30 = N := by rw [f 132 (by omega)]; exact hM.1
    have rk := r k (Int.le_refl _) hk2
    -- one more key behind
    have app : (∀ i, 0 ≤ i → i < n → K i < G k) → ∀ g1 : zV, Ok (m_findsPhrases_98 ((t.up 153 (zix n) (G k)).up 154 (zix n) 1) g1 (n + 1) (k + 1) g4 g5 g6) (fun _ t => FrP d t ∧ qT t (cA G N) N) := by
      intro hlt g1
      refine hnext _ (g1, n + 1) ⟨(f.up (by omega) (by omega)).up (by omega) (by omega), by (try dsimp only); omega, by (try dsimp only); omega, fun i i0 i1 => ?_, ins K n (G k), ins B n 1, fun i i0 i1 => ?_, fun i i0 i1 => ?_, fun i i0 i1 => ?_, fun _ => by (try dsimp only); omega, Tab_ext (Tab_ins a5 n0 (Int.le_refl _) hlt (fun i i0 i1 => by omega)) (cA_bag1 hk)⟩
      · rw [up_ne (by omega), u_153, zfu_z (by omega), if_neg (by omega)]
        exact r i (by omega) i1
      · (try dsimp only at i1)
        rw [up_ne (by omega), u_153, zfu_z (by omega)]
        unfold ins
        by_cases c : i = n
        · rw [if_pos c, if_neg (by omega), if_pos c]; exact ⟨rfl, rk.2⟩
        · rw [if_neg c, if_pos (by omega)]; exact a1 i i0 (by omega)
      · (try dsimp only at i1)
        rw [u_154, zfu_z (by omega), up_ne (by omega)]
        unfold ins
        by_cases c : i = n
        · rw [if_pos c, if_neg (by omega), if_pos c]
        · rw [if_neg c, if_pos (by omega)]; exact a2 i i0 (by omega)
      · (try dsimp only at i1)
        unfold ins
        rw [show k + 1 - 1 = k by omega]
        by_cases c : i = n
        · rw [if_neg (by omega), if_pos c]; exact Int.le_refl _
        · rw [if_pos (by omega)]
          have := hlt i i0 (by omega); omega
    rw [m_findsPhrases_98_e]
    by_cases c0 : n = 0
    · subst c0
      simp (disch := omega) only [↓reduceIte, zinT, wr_id, wrl_id, ltT, ltF, leT, leF, eqT, eqF, ne_eq, not_true_eq_false, not_false_eq_true, Option.bind_some, Ok_some, bi_0, bi_n0, bi_01, e1, rk.1]
      exact app (fun i a b => by omega) _
    · have rn := a1 (n - 1) (by omega) (by omega)
      have gk : G (k - 1) ≤ G k := hs (k - 1) k (by omega) (by omega) hk2
      simp (disch := omega) only [↓reduceIte, zinT, wr_id, wrl_id, ltT, ltF, leT, leF, eqT, eqF, ne_eq, not_true_eq_false, not_false_eq_true, Option.bind_some, Ok_some, bi_0, bi_n0, bi_01, e1, rk.1, rn.1]
      by_cases c : K (n - 1) = G k
      · have bn := a2 (n - 1) (by omega) (by omega)
        simp (disch := omega) only [↓reduceIte, zinT, wr_id, wrl_id, ltT, ltF, leT, leF, eqT, eqF, ne_eq, not_true_eq_false, not_false_eq_true, Option.bind_some, Ok_some, bi_0, bi_n0, bi_01, bn]
        refine hnext _ (_, n) ⟨f.up (by omega) (by omega), n0, by (try dsimp only); omega, fun i i0 i1 => by rw [up_ne (by omega)]; exact r i (by omega) i1, K, fun i => if i = n - 1 then B i + 1 else B i, fun i i0 i1 => by rw [up_ne (by omega)]; exact a1 i i0 i1, fun i i0 i1 => ?_, fun i i0 i1 => ?_, fun _ => by (try dsimp only); omega, Tab_ext (Tab_inc a5 (by omega) (by omega) c) (cA_bag1 hk)⟩
        · (try dsimp only)
          rw [u_154, zfu_z (by omega)]
          by_cases e : i = n - 1
          · rw [if_pos e, if_pos e, e]
          · rw [if_neg e, if_neg e]; exact a2 i i0 i1
        · have := a3 i i0 i1
          rw [show k + 1 - 1 = k by omega]
          omega
      · simp (disch := omega) only [↓reduceIte, zinT, wr_id, wrl_id, ltT, ltF, leT, leF, eqT, eqF, ne_eq, not_true_eq_false, not_false_eq_true, Option.bind_some, Ok_some, bi_0, bi_n0, bi_01]
        refine app (fun i i0 i1 => ?_) _
        have h1 := a3 (n - 1) (by omega) (by omega)
        by_cases e : i = n - 1
        · rw [e]; omega
        · have := a5.2.1 i (n - 1) i0 (by omega) (by omega)
          omega
theorem n_findsPhrases (hF : d.m 133 = F) (hw : WF F) {kind : Int} (hk0 : 0 ≤ kind) (hk5 : kind ≤ 5) : Ok (m_findsPhrases d kind) (fun _ t => FrP d t ∧ qT t (fun x => bgF F kind (prs F) x) 5400) := by
  have q := hw.prs_
  have e0 : F (zix 0) = prs F := rfl
  rw [m_findsPhrases_e]
  refine lpM (fun p t (y : zV × zV × zV × zV) => m_findsPhrases_5 t kind p y.1 y.2.1 y.2.2.1 y.2.2.2) (fun p t _ => FrP d t ∧ kS t (fun x => bgF F kind p x) (ttF F kind p)) 0 (prs F) q.1 _ ((3, 0), (3, 0), (3, 0), (3, 0)) ⟨FrP.u30, fun _ => 0, ⟨by rw [u_132_30]; rfl, fun i a b => by have : ttF F kind 0 = 0 := rfl; omega⟩, fun x => rfl⟩ (fun t y hi => ?_) (fun p t y hp0 hp1 hi hnext => ?_)
  · obtain ⟨g3, g4, g5, g6⟩ := y
    have hF' : t.m 133 = F := (hi.1.1 133 (by omega) (by omega)).trans hF
    have tl := ttF_le hw (kind := kind) (n := prs F) q.1 (Int.le_refl _)
    obtain ⟨G, hM, hc⟩ := hi.2
    (try dsimp only)
    rw [m_findsPhrases_5_e]
    simp (disch := omega) only [↓reduceIte, zinT, wr_id, wrl_id, ltT, ltF, leT, leF, eqT, eqF, ne_eq, not_true_eq_false, not_false_eq_true, Option.bind_some, Ok_some, bi_0, bi_n0, bi_01, hF', e0]
    refine Ok_bind (n_sortsKeys (by omega) tl.1 hM) (fun v1 d1 f1 => ?_)
    obtain ⟨f1, G', hM', hc', hs'⟩ := f1
    refine Ok_mono (n_compress tl.1 (by omega) hM' hs' _ _ _ _) (fun v2 d2 f2 => ⟨(hi.1.tr (f1.fp (by omega) (by omega))).tr f2.1, ?_⟩)
    obtain ⟨K, B, n, a, b, c⟩ := f2.2
    exact ⟨K, B, n, by omega, b, Tab_ext c (fun x => (hc' x).trans (hc x))⟩
  · obtain ⟨g3, g4, g5, g6⟩ := y
    have hF' : t.m 133 = F := (hi.1.1 133 (by omega) (by omega)).trans hF
    have tl := ttF_le hw (kind := kind) (n := p + 1) (by omega) (by omega)
    have tl0 := ttF_le hw (kind := kind) (n := p) hp0 (by omega)
    rw [ttF_s hp0] at tl
    (try dsimp only)
    rw [m_findsPhrases_5_e]
    simp (disch := omega) only [↓reduceIte, zinT, wr_id, wrl_id, ltT, ltF, leT, leF, eqT, eqF, ne_eq, not_true_eq_false, not_false_eq_true, Option.bind_some, Ok_some, bi_0, bi_n0, bi_01, hF', e0]
    refine Ok_bind (n_findsLinks hF' hw hk0 hk5 hp0 hp1) (fun v1 d1 f1 => ?_)
    (try dsimp only)
    have hF1 : d1.m 133 = F := (f1.1 133 (by omega)).trans hF'
    refine n_pairKeys hw hF1 hp0 hp1 f1.2 tl0.1 (by omega) (kS_fr hi.2 (by rw [f1.1 132 (by omega)]) (f1.1 153 (by omega))) (fun t2 g3 g4 g5 g6 h1 h2 => ?_) _ _ _
    refine hnext t2 (_, _, _, _) ⟨(hi.1.tr (f1.1.fp (by omega) (by omega))).tr h1, kS_ext h2 (ttF_s hp0).symm (fun x => by (try dsimp only); rw [bgF_s hp0])⟩
end
