/-! PHRASES: the class's table, whole. -/
theorem bgO_s {F s : _} {l m p one n x : Int} (h : 0 ≤ n) : bgO F s l m p one (n + 1) x = bgO F s l m p one n x + bi (bxo s l m one n && decide (pk F p one n = x)) := sm_s _ h
theorem bgN_s {F s : _} {l m p n x : Int} (h : 0 ≤ n) : bgN F s l m p (n + 1) x = bgN F s l m p n x + bgO F s l m p n 18 x := sm_s _ h
theorem bgF_s {F : _} {kind n x : Int} (h : 0 ≤ n) : bgF F kind (n + 1) x = bgF F kind n x + bgN F (lk F kind n) (lng F n 0) (lng F n 1) n 18 x := sm_s _ h
theorem ttF_s {F : _} {kind n : Int} (h : 0 ≤ n) : ttF F kind (n + 1) = ttF F kind n + bxN (lk F kind n) (lng F n 0) (lng F n 1) 18 := sm_s _ h
theorem bxN_s {s : _} {l m n : Int} (h : 0 ≤ n) : bxN s l m (n + 1) = bxN s l m n + bxI s l m n 18 := sm_s _ h
theorem bxI_s {s : _} {l m one n : Int} (h : 0 ≤ n) : bxI s l m one (n + 1) = bxI s l m one n + bi (bxo s l m one n) := sm_s _ h
theorem bxI_mo {s : _} {l m one k n : Int} (h : 0 ≤ k) (h2 : k ≤ n) : bxI s l m one k ≤ bxI s l m one n := sm_mono h h2 (fun _ _ _ => (bi_le _).1)
theorem bxN_mo {s : _} {l m k n : Int} (h : 0 ≤ k) (h2 : k ≤ n) : bxN s l m k ≤ bxN s l m n := sm_mono h h2 (fun _ _ _ => (bxI_le (by omega)).1)
theorem Tab_ext {K B bag bag' : Int → Int} {n : Int} (h : Tab K B n bag) (e : ∀ x, bag x = bag' x) : Tab K B n bag' := by
  have : bag = bag' := funext e
  rw [← this]
  exact h
section
variable {P : zP} {d : zD P} {F : Nat → Int}
theorem pkb_le (hw : WF F) {p one other : Int} (h1 : 0 ≤ p) (h2 : p < prs F) (h3 : 0 ≤ one) (h4 : 0 ≤ other) (h5 : sp1 one ≤ lng F p 0) (h6 : sp1 other ≤ lng F p 1) : 0 ≤ pk F p one other ∧ pk F p one other < 4750104241 ∧ ph6 (pk F p one other) = r64 F p 0 (sp0 one) (sp1 one) * 262144 + r64 F p 1 (sp0 other) (sp1 other) := by
  have s0 : 0 ≤ sp0 one := by unfold sp0; omega
  have s1 : 0 ≤ sp0 other := by unfold sp0; omega
  have a : ∀ k, 0 ≤ k → k < 3 → (0 ≤ rkX F p 0 (sp0 one) (sp1 one) k ∧ rkX F p 0 (sp0 one) (sp1 one) k < 41) ∧ (0 ≤ rkX F p 1 (sp0 other) (sp1 other) k ∧ rkX F p 1 (sp0 other) (sp1 other) k < 41) := fun k k0 _ => ⟨rkX_le hw h1 h2 (by omega) (by omega) s0 h5 k0, rkX_le hw h1 h2 (by omega) (by omega) s1 h6 k0⟩
  have a0 := a 0 (by omega) (by omega)
  have a1 := a 1 (by omega) (by omega)
  have a2 := a 2 (by omega) (by omega)
  refine ⟨?_, ?_, ph6_pk a⟩
  · unfold pk rk; omega
  · unfold pk rk; omega
theorem r64_le (hw : WF F) {p s span : Int} (h1 : 0 ≤ p) (h2 : p < prs F) (h3 : 0 ≤ s) (h4 : s < 2) (h5 : 0 ≤ span) (h6 : sp1 span ≤ lng F p s) : 0 ≤ r64 F p s (sp0 span) (sp1 span) ∧ r64 F p s (sp0 span) (sp1 span) < 262144 := by
  have s0 : 0 ≤ sp0 span := by unfold sp0; omega
  have a0 := rkX_le hw h1 h2 h3 h4 s0 h6 (k := 0) (by omega)
  have a1 := rkX_le hw h1 h2 h3 h4 s0 h6 (k := 1) (by omega)
  have a2 := rkX_le hw h1 h2 h3 h4 s0 h6 (k := 2) (by omega)
  unfold r64
  omega
/-- the table after so many boxes -/
def pT (t : zD P) (bag : Int → Int) (T : Int) : Prop := ∃ K B n, n ≤ T ∧ pM t K B n ∧ Tab K B n bag
theorem pT_fr {t e : zD P} {bag : Int → Int} {T : Int} (h : pT t bag T) (h1 : e.m 122 = t.m 122) (h2 : e.m 123 = t.m 123) (h3 : e.m 124 = t.m 124) : pT e bag T := by
  obtain ⟨K, B, n, a, ⟨b1, b2, b3⟩, c⟩ := h
  exact ⟨K, B, n, a, ⟨by rw [h1]; exact b1, by rw [h2]; exact b2, by rw [h3]; exact b3⟩, c⟩
theorem k_fillFromPair (h : CA d F) {kind p T : Int} {bag : Int → Int} (h1 : 0 ≤ p) (h2 : p < prs F) (hC : lC d (eth F p) (lk F kind p) (lng F p 0) (lng F p 1)) (hT0 : 0 ≤ T) (hT : T + bxN (lk F kind p) (lng F p 0) (lng F p 1) 18 ≤ 5400) (hp : pT d bag T) : Ok (ph_fillFromPair d p) (fun _ t => Fr 122 125 d t ∧ pT t (fun x => bag x + bgN F (lk F kind p) (lng F p 0) (lng F p 1) p 18 x) (T + bxN (lk F kind p) (lng F p 0) (lng F p 1) 18)) := by
  rw [ph_fillFromPair_e]
  refine lpM (fun one t (g : zV) => ph_fillFromPair_2 t p one g) (fun one t _ => Fr 122 125 d t ∧ pT t (fun x => bag x + bgN F (lk F kind p) (lng F p 0) (lng F p 1) p one x) (T + bxN (lk F kind p) (lng F p 0) (lng F p 1) one)) 0 18 (by omega) d (3, 0) ⟨Fr.rf, ?_⟩ (fun t g hi => ?_) (fun one t g ho0 ho1 hi hnext => ?_)
  · obtain ⟨K, B, n, a, b, c⟩ := hp
    exact ⟨K, B, n, by rw [show bxN (lk F kind p) (lng F p 0) (lng F p 1) 0 = 0 from rfl]; omega, b, Tab_ext c (fun x => (Int.add_zero _).symm)⟩
  · (try dsimp only)
    rw [ph_fillFromPair_2_e]
    simp (disch := omega) only [↓reduceIte, zinT, wr_id, wrl_id, ltT, ltF, leT, leF, eqT, eqF, ne_eq, not_true_eq_false, not_false_eq_true, Option.bind_some, Ok_some, bi_0, bi_n0, bi_01]
    exact hi
  · (try dsimp only)
    rw [ph_fillFromPair_2_e]
    simp (disch := omega) only [↓reduceIte, zinT, wr_id, wrl_id, ltT, ltF, leT, leF, eqT, eqF, ne_eq, not_true_eq_false, not_false_eq_true, Option.bind_some, Ok_some, bi_0, bi_n0, bi_01]
    have mo := bxN_mo (s := lk F kind p) (l := lng F p 0) (m := lng F p 1) (k := one + 1) (n := 18) (by omega) (by omega)
    rw [bxN_s ho0] at mo
    have nb := bxN_le (s := lk F kind p) (l := lng F p 0) (m := lng F p 1) (n := one) ho0
    refine lpD (fun o t => ph_fillFromPair_7 t p one o) (fun o t => Fr 122 125 d t ∧ pT t (fun x => bag x + bgN F (lk F kind p) (lng F p 0) (lng F p 1) p one x + bgO F (lk F kind p) (lng F p 0) (lng F p 1) p one o x) (T + bxN (lk F kind p) (lng F p 0) (lng F p 1) one + bxI (lk F kind p) (lng F p 0) (lng F p 1) one o)) 0 18 (by omega) t ⟨hi.1, ?_⟩ (fun t hj => ?_) (fun o t hj0 hj1 hj hnext2 => ?_)
    · obtain ⟨K, B, n, a, b, c⟩ := hi.2
      exact ⟨K, B, n, by rw [show bxI (lk F kind p) (lng F p 0) (lng F p 1) one 0 = 0 from rfl]; omega, b, Tab_ext c (fun x => (Int.add_zero _).symm)⟩
    · (try dsimp only)
      rw [ph_fillFromPair_7_e]
      simp (disch := omega) only [↓reduceIte, zinT, wr_id, wrl_id, ltT, ltF, leT, leF, eqT, eqF, ne_eq, not_true_eq_false, not_false_eq_true, Option.bind_some, Ok_some, bi_0, bi_n0, bi_01]
      refine hnext _ _ ⟨hj.1, ?_⟩
      obtain ⟨K, B, n, a, b, c⟩ := hj.2
      exact ⟨K, B, n, by rw [bxN_s ho0]; omega, b, Tab_ext c (fun x => by (try dsimp only); rw [bgN_s ho0]; omega)⟩
    · have hC' := lC_fr hC (fun r a b => hj.1 r (by omega))
      have hA : CA t F := h.Fr hj.1 (by omega)
      have oneL := bxI_mo (s := lk F kind p) (l := lng F p 0) (m := lng F p 1) (one := one) (k := o + 1) (n := 18) (by omega) (by omega)
      rw [bxI_s hj0] at oneL
      have ib := bxI_le (s := lk F kind p) (l := lng F p 0) (m := lng F p 1) (one := one) (n := o) hj0
      (try dsimp only)
      rw [ph_fillFromPair_7_e]
      simp (disch := omega) only [↓reduceIte, zinT, wr_id, wrl_id, ltT, ltF, leT, leF, eqT, eqF, ne_eq, not_true_eq_false, not_false_eq_true, Option.bind_some, Ok_some, bi_0, bi_n0, bi_01, k_isBox hC']
      cases hb : bxo (lk F kind p) (lng F p 0) (lng F p 1) one o
      · rw [if_pos rfl]
        refine hnext2 _ ⟨hj.1, ?_⟩
        obtain ⟨K, B, n, a, b, c⟩ := hj.2
        exact ⟨K, B, n, by rw [bxI_s hj0]; have := bi_le (bxo (lk F kind p) (lng F p 0) (lng F p 1) one o); omega, b, Tab_ext c (fun x => by (try dsimp only); rw [bgO_s hj0, hb]; simp [bi])⟩
      · have bin := bxo_in hb
        have e0 := k_rowIn hA (p := p) (s := 0) (span := one) h1 h2 (by omega) (by omega) ho0 ho1 bin.1
        have e1 := k_rowIn hA (p := p) (s := 1) (span := o) h1 h2 (by omega) (by omega) hj0 hj1 bin.2
        have r0 := r64_le h.wf (p := p) (s := 0) (span := one) h1 h2 (by omega) (by omega) ho0 bin.1
        have r1 := r64_le h.wf (p := p) (s := 1) (span := o) h1 h2 (by omega) (by omega) hj0 bin.2
        have pl := pkb_le h.wf (p := p) (one := one) (other := o) h1 h2 ho0 hj0 bin.1 bin.2
        have lo := lor_add (t := r64 F p 0 (sp0 one) (sp1 one)) (w := r64 F p 1 (sp0 o) (sp1 o)) (q := 262144) (k := 18) r0.1 (by omega) rfl r1.1 r1.2 (by omega)
        rw [show (((18 : Nat) : Int)) = 18 from rfl, ← pl.2.2] at lo
        have b1 : bi true = 1 := rfl
        rw [if_neg (by decide)]
        simp (disch := omega) only [↓reduceIte, zinT, wr_id, wrl_id, ltT, ltF, leT, leF, eqT, eqF, ne_eq, not_true_eq_false, not_false_eq_true, Option.bind_some, Ok_some, bi_0, bi_n0, bi_01, e0, e1, lo]
        obtain ⟨K, B, n, a, b, c⟩ := hj.2
        rw [hb, b1] at oneL
        refine Ok_bind (k_insert b (by omega) c pl.1 pl.2.1) (fun v d' f => ?_)
        obtain ⟨f1, K', B', n', n1, b', c'⟩ := f
        refine hnext2 _ ⟨hj.1.tr f1, K', B', n', by rw [bxI_s hj0, hb, b1]; omega, b', Tab_ext c' (fun x => ?_)⟩
        unfold bag1
        (try dsimp only)
        rw [bgO_s hj0, hb, Bool.true_and]
        by_cases e : x = pk F p one o
        · rw [if_pos e, e, bi_t rfl]; omega
        · rw [if_neg e, bi_f (fun hh => e hh.symm)]; omega
theorem k_phFill (h : CI d F) {kind : Int} (hk0 : 0 ≤ kind) (hk5 : kind ≤ 5) : Ok (ph_fill d kind) (fun _ t => Fr 115 125 d t ∧ pT t (fun x => bgF F kind (prs F) x) 5400) := by
  have q := h.wf.prs_
  rw [ph_fill_e]
  refine Ok_mono (lpD (Q := fun _ t => Fr 115 125 d t ∧ pT t (fun x => bgF F kind (prs F) x) (ttF F kind (prs F))) (fun p t => ph_fill_5 t kind p) (fun p t => Fr 115 125 d t ∧ pT t (fun x => bgF F kind p x) (ttF F kind p)) 0 (prs F) q.1 _ ⟨Fr.rf.up (by omega) (by omega), fun _ => 0, fun _ => 0, 0, Int.le_refl _, ⟨by rw [u_122_2]; rfl, fun k a b => by omega, fun k a b => by omega⟩, Int.le_refl _, fun i j a b c => by omega, fun k a b => by omega, fun x hx => absurd rfl hx, fun x => Int.le_refl _⟩ (fun t hi => ?_) (fun p t hp0 hp1 hi hnext => ?_)) (fun v t hh => ?_)
  · have hc : CI t F := h.Fr hi.1 (by omega)
    (try dsimp only)
    rw [ph_fill_5_e]
    simp (disch := omega) only [↓reduceIte, zinT, wr_id, wrl_id, ltT, ltF, leT, leF, eqT, eqF, ne_eq, not_true_eq_false, not_false_eq_true, Option.bind_some, Ok_some, bi_0, bi_n0, bi_01, hc.ca.prs_]
    exact hi
  · have hc : CI t F := h.Fr hi.1 (by omega)
    have tl := ttF_le h.wf (kind := kind) (n := p + 1) (by omega) (by omega)
    have tl0 := ttF_le h.wf (kind := kind) (n := p) hp0 (by omega)
    rw [ttF_s hp0] at tl
    (try dsimp only)
    rw [ph_fill_5_e]
    simp (disch := omega) only [↓reduceIte, zinT, wr_id, wrl_id, ltT, ltF, leT, leF, eqT, eqF, ne_eq, not_true_eq_false, not_false_eq_true, Option.bind_some, Ok_some, bi_0, bi_n0, bi_01, hc.ca.prs_]
    refine Ok_bind (k_make hc hk0 hk5 hp0 hp1) (fun v1 d1 f1 => ?_)
    (try dsimp only)
    have hc1 : CI d1 F := hc.Fr f1.1 (by omega)
    refine Ok_bind (k_fillFromPair (kind := kind) hc1.ca hp0 hp1 f1.2 tl0.1 (by omega) (pT_fr hi.2 (f1.1 122 (by omega)) (f1.1 123 (by omega)) (f1.1 124 (by omega)))) (fun v2 d2 f2 => ?_)
    refine hnext _ ⟨(hi.1.tr (f1.1.mo (by omega) (by omega))).tr (f2.1.mo (by omega) (by omega)), ?_⟩
    obtain ⟨K, B, n, a, b, c⟩ := f2.2
    exact ⟨K, B, n, by rw [ttF_s hp0]; exact a, b, Tab_ext c (fun x => by (try dsimp only); rw [bgF_s hp0])⟩
  · have tl := ttF_le h.wf (kind := kind) (n := prs F) q.1 (Int.le_refl _)
    obtain ⟨K, B, n, a, b, c⟩ := hh.2
    exact ⟨hh.1, K, B, n, by omega, b, c⟩
end
