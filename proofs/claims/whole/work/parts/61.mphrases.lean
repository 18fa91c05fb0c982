/-! PHRASES: the model's table, whole. -/
section
variable {P : zP} {d : zD P} {F : Nat → Int}
def FrP (d t : zD P) : Prop := (∀ r, (r < 149 ∨ 155 ≤ r) → r ≠ 132 → t.m r = d.m r) ∧ ∀ k, k ≠ 30 → t.m 132 k = d.m 132 k
theorem FrP.rf : FrP d d := ⟨fun _ _ _ => rfl, fun _ _ => rfl⟩
theorem FrP.tr {a b c : zD P} (h : FrP a b) (h2 : FrP b c) : FrP a c := ⟨fun r r1 r2 => (h2.1 r r1 r2).trans (h.1 r r1 r2), fun k hk => (h2.2 k hk).trans (h.2 k hk)⟩
theorem Fr.fp {a b : zD P} {lo hi : Nat} (h : Fr lo hi a b) (h1 : 149 ≤ lo) (h2 : hi ≤ 155) : FrP a b := ⟨fun r r1 _ => h r (by omega), fun k _ => by rw [h 132 (by omega)]⟩
theorem FrP.u30 {x : Int} : FrP d (d.up 132 30 x) := ⟨fun r _ r2 => up_ne r2, fun k hk => by rw [u_132_30, zfu_n, if_neg hk]⟩
theorem n_rowKey (hF : d.m 133 = F) (hw : WF F) {p s a b : Int} (h1 : 0 ≤ p) (h2 : p < prs F) (h3 : 0 ≤ s) (h4 : s < 2) (h5 : 0 ≤ a) (h6 : a ≤ b) (h7 : b < lng F p s) : m_rowKey d p s a b = some (rk F p s a (b + 1), d) := by
  have l := hw.lng_ h1 h2 h3 h4
  have q := hw.wds_ h3 h4
  have qp := hw.prs_
  have b0 := rkX_le hw h1 h2 h3 h4 h5 (b := b + 1) (by omega) (k := 0) (by omega)
  have b1 := rkX_le hw h1 h2 h3 h4 h5 (b := b + 1) (by omega) (k := 1) (by omega)
  have b2 := rkX_le hw h1 h2 h3 h4 h5 (b := b + 1) (by omega) (k := 2) (by omega)
  have one : ∀ (k t : Int), 0 ≤ k → k < 3 → m_rowKey_4 d p s a b t k = m_rowKey_4 d p s a b (41 * t + rkX F p s a (b + 1) k) (k + 1) := by
    intro k t k0 k1
    rw [m_rowKey_4_e]
    unfold rkX
    by_cases c : a + k < b + 1
    · rw [if_pos c]
      simp (disch := omega) only [↓reduceIte, zinT, wr_id, wrl_id, ltT, ltF, leT, leF, eqT, eqF, ne_eq, not_true_eq_false, not_false_eq_true, Option.bind_some, Ok_some, bi_0, bi_n0, bi_01, n_wordOf hF]
    · rw [if_neg c]
      simp (disch := omega) only [↓reduceIte, zinT, wr_id, wrl_id, ltT, ltF, leT, leF, eqT, eqF, ne_eq, not_true_eq_false, not_false_eq_true, Option.bind_some, Ok_some, bi_0, bi_n0, bi_01]
  rw [m_rowKey_e, one 0 0 (by omega) (by omega), show 41 * 0 + rkX F p s a (b + 1) 0 = rkX F p s a (b + 1) 0 by omega, show (0 : Int) + 1 = 1 by omega, one 1 _ (by omega) (by omega), show (1 : Int) + 1 = 2 by omega, one 2 _ (by omega) (by omega), show (2 : Int) + 1 = 3 by omega, m_rowKey_4_e]
  simp (disch := omega) only [↓reduceIte, zinT, wr_id, wrl_id, ltT, ltF, leT, leF, eqT, eqF, ne_eq, not_true_eq_false, not_false_eq_true, Option.bind_some, Ok_some, bi_0, bi_n0, bi_01, if_true]
  rfl
/-- keys told by now -/
def kS (t : zD P) (bag : Int → Int) (T : Int) : Prop := ∃ G, sM t G T ∧ ∀ x, cA G T x = bag x
theorem kS_fr {t e : zD P} {bag : Int → Int} {T : Int} (h : kS t bag T) (h1 : e.m 132 30 = t.m 132 30) (h2 : e.m 153 = t.m 153) : kS e bag T := by
  obtain ⟨G, ⟨a, b⟩, c⟩ := h
  exact ⟨G, ⟨by rw [h1]; exact a, fun i i0 i1 => by rw [h2]; exact b i i0 i1⟩, c⟩
theorem kS_ext {t : zD P} {bag bag' : Int → Int} {T T' : Int} (h : kS t bag T) (eT : T = T') (e : ∀ x, bag x = bag' x) : kS t bag' T' := by
  subst eT
  obtain ⟨G, a, c⟩ := h
  exact ⟨G, a, fun x => (c x).trans (e x)⟩
theorem n_laysKey {bag : Int → Int} {T x : Int} (h : kS d bag T) (hT : 0 ≤ T) (hT2 : T < 5400) (hx : 0 ≤ x) (hx2 : x < 4750104241) : Ok (m_laysKey d x) (fun _ t => FrP d t ∧ Fr2 132 133 153 154 d t ∧ kS t (bag1 bag x) (T + 1)) := by
  obtain ⟨G, ⟨a, b⟩, c⟩ := h
  rw [m_laysKey_e]
  simp (disch := omega) only [↓reduceIte, zinT, wr_id, wrl_id, ltT, ltF, leT, leF, eqT, eqF, ne_eq, not_true_eq_false, not_false_eq_true, Option.bind_some, Ok_some, bi_0, bi_n0, bi_01, a, up_ne]
  have ne := up_ne (d := d) (r := 153) (k := zix T) (r' := 132) (x := x) (by omega)
  refine ⟨⟨fun r r1 r2 => by rw [up_ne (by omega), up_ne (by omega)], fun k hk => by rw [u_132_30, zfu_n, if_neg hk, ne]⟩, fun r r1 r2 => by rw [up_ne (by omega), up_ne (by omega)], updF G T x, ⟨by rw [u_132_30]; rfl, fun i i0 i1 => ?_⟩, fun y => ?_⟩
  · rw [up_ne (by omega), u_153, zfu_z (by omega)]
    unfold updF
    by_cases e : i = T
    · rw [if_pos e, if_pos e]; exact ⟨rfl, hx, hx2⟩
    · rw [if_neg e, if_neg e]; exact b i i0 (by omega)
  · have e1 : cA (updF G T x) T y = cA G T y := by
      unfold cA
      refine sm_congr hT (fun k k0 k1 => ?_)
      have : updF G T x k = G k := if_neg (by omega)
      (try dsimp only)
      rw [this]
    have e2 : cA (updF G T x) (T + 1) y = cA (updF G T x) T y + bi (decide (updF G T x T = y)) := sm_s _ hT
    have e3 : updF G T x T = x := if_pos rfl
    rw [e2, e1, e3, c y]
    unfold bag1
    by_cases e : y = x
    · rw [if_pos e, bi_t e.symm]
    · rw [if_neg e, bi_f (fun hh => e hh.symm)]
theorem n_pairKeys (hw : WF F) {kind p T : Int} {bag : Int → Int} {Q : Int → zD P → Prop} (hF : d.m 133 = F) (h1 : 0 ≤ p) (h2 : p < prs F) (hL : mL d (eth F p) (lk F kind p) (lng F p 0) (lng F p 1)) (hT0 : 0 ≤ T) (hT : T + bxN (lk F kind p) (lng F p 0) (lng F p 1) 18 ≤ 5400) (hp : kS d bag T) (hq : ∀ (t : zD P) (g3 g4 g5 g6 : zV), FrP d t → kS t (fun x => bag x + bgN F (lk F kind p) (lng F p 0) (lng F p 1) p 18 x) (T + bxN (lk F kind p) (lng F p 0) (lng F p 1) 18) → Ok (m_findsPhrases_5 t kind (p + 1) g3 g4 g5 g6) Q) (g4 g5 g6 : zV) : Ok (m_findsPhrases_17 d kind p 0 g4 g5 g6) Q := by
  have qp := hw.prs_
  have l1 := hw.lng_ h1 h2 (s := 0) (by omega) (by omega)
  have m1 := hw.lng_ h1 h2 (s := 1) (by omega) (by omega)
  generalize hs : lk F kind p = s at hL hT hq
  generalize hl' : lng F p 0 = l at hL hT hq l1
  generalize hm' : lng F p 1 = m at hL hT hq m1
  have GF : ∀ t : zD P, FrP d t → t.m 149 = d.m 149 → t.m 150 = d.m 150 → t.m 133 = F ∧ mL t (eth F p) s l m := fun t f a b => ⟨(f.1 133 (by omega) (by omega)).trans hF, mL_fr hL a b⟩
  refine lpM (fun a t (y : zV × zV × zV) => m_findsPhrases_17 t kind p a y.1 y.2.1 y.2.2) (fun a t _ => (FrP d t ∧ t.m 149 = d.m 149 ∧ t.m 150 = d.m 150) ∧ kS t (fun x => bag x + bgN F s l m p (3 * a) x) (T + bxN s l m (3 * a))) 0 l (by omega) d (g4, g5, g6) ⟨⟨FrP.rf, rfl, rfl⟩, kS_ext hp (by rw [show bxN s l m (3 * 0) = 0 from rfl]; omega) (fun x => (Int.add_zero _).symm)⟩ (fun t y hi => ?_) (fun a t y ha ha2 hi hnext => ?_)
  · obtain ⟨g4, g5, g6⟩ := y
    obtain ⟨hF', hL'⟩ := GF t hi.1.1 hi.1.2.1 hi.1.2.2
    (try dsimp only)
    rw [m_findsPhrases_17_e]
    simp (disch := omega) only [↓reduceIte, zinT, wr_id, wrl_id, ltT, ltF, leT, leF, eqT, eqF, ne_eq, not_true_eq_false, not_false_eq_true, Option.bind_some, Ok_some, bi_0, bi_n0, bi_01, n_longOf hF', hl']
    refine hq t _ _ _ _ hi.1.1 (kS_ext hi.2 ?_ (fun x => ?_))
    · congr 1
      refine (sm_skip (by omega) (by omega) (fun k k0 k1 => ?_)).symm
      refine sm_skip (k := 0) (n := 18) (by omega) (by omega) (fun j _ _ => ?_)
      rw [bxo_i (by unfold sp1; omega)]
      rfl
    · (try dsimp only)
      congr 1
      refine (sm_skip (by omega) (by omega) (fun k k0 k1 => ?_)).symm
      refine sm_skip (k := 0) (n := 18) (by omega) (by omega) (fun j _ _ => ?_)
      rw [bxo_i (by unfold sp1; omega)]
      rfl
  · obtain ⟨g4, g5, g6⟩ := y
    obtain ⟨hF', hL'⟩ := GF t hi.1.1 hi.1.2.1 hi.1.2.2
    (try dsimp only)
    rw [m_findsPhrases_17_e]
    simp (disch := omega) only [↓reduceIte, zinT, wr_id, wrl_id, ltT, ltF, leT, leF, eqT, eqF, ne_eq, not_true_eq_false, not_false_eq_true, Option.bind_some, Ok_some, bi_0, bi_n0, bi_01, n_longOf hF', hl']
    obtain ⟨u, hu⟩ : ∃ u : Int, u = if a + 3 < l then a + 3 else l := ⟨_, rfl⟩
    have hu2 : a < u ∧ u ≤ l ∧ u ≤ a + 3 ∧ (u = a + 3 ∨ u = l) := by rw [hu]; split <;> omega
    have em : ∀ t : zD P, m_min t (a + 3) l = some (u, t) := fun t => by rw [hu]; exact n_min (by unfold I32; omega)
    refine lpM (fun b t (y : zV × zV) => m_findsPhrases_25 t kind p a b y.1 y.2) (fun b t _ => (FrP d t ∧ t.m 149 = d.m 149 ∧ t.m 150 = d.m 150) ∧ kS t (fun x => bag x + bgN F s l m p (3 * a + (b - a)) x) (T + bxN s l m (3 * a + (b - a)))) a u (by omega) t (g5, g6) (by rw [show 3 * a + (a - a) = 3 * a by omega]; exact hi) (fun t y hj => ?_) (fun b t y hb hb2 hj hnext2 => ?_)
    · obtain ⟨g5, g6⟩ := y
      obtain ⟨hF', hL'⟩ := GF t hj.1.1 hj.1.2.1 hj.1.2.2
      (try dsimp only)
      rw [m_findsPhrases_25_e]
      simp (disch := omega) only [↓reduceIte, zinT, wr_id, wrl_id, ltT, ltF, leT, leF, eqT, eqF, ne_eq, not_true_eq_false, not_false_eq_true, Option.bind_some, Ok_some, bi_0, bi_n0, bi_01, n_longOf hF', hl', em]
      refine hnext _ (_, _, _) ⟨hj.1, kS_ext hj.2 ?_ (fun x => ?_)⟩
      · congr 1
        refine (sm_skip (by omega) (by omega) (fun k k0 k1 => ?_)).symm
        refine sm_skip (k := 0) (n := 18) (by omega) (by omega) (fun j _ _ => ?_)
        rw [bxo_i (by unfold sp1; omega)]
        rfl
      · (try dsimp only)
        congr 1
        refine (sm_skip (by omega) (by omega) (fun k k0 k1 => ?_)).symm
        refine sm_skip (k := 0) (n := 18) (by omega) (by omega) (fun j _ _ => ?_)
        rw [bxo_i (by unfold sp1; omega)]
        rfl
    · obtain ⟨g5, g6⟩ := y
      obtain ⟨hF', hL'⟩ := GF t hj.1.1 hj.1.2.1 hj.1.2.2
      (try dsimp only)
      rw [m_findsPhrases_25_e]
      simp (disch := omega) only [↓reduceIte, zinT, wr_id, wrl_id, ltT, ltF, leT, leF, eqT, eqF, ne_eq, not_true_eq_false, not_false_eq_true, Option.bind_some, Ok_some, bi_0, bi_n0, bi_01, n_longOf hF', hl', em]
      obtain ⟨one, hone⟩ : ∃ one : Int, one = 3 * a + (b - a) := ⟨_, rfl⟩
      have s1 : sp0 one = a ∧ sp1 one = b + 1 := by rw [hone]; have := sp_at (a := a) (k := b - a) (by omega) (by omega); omega
      rw [← hone] at hj
      have mo := bxN_mo (s := s) (l := l) (m := m) (k := one + 1) (n := 18) (by omega) (by omega)
      rw [bxN_s (by omega)] at mo
      have nb := bxN_le (s := s) (l := l) (m := m) (n := one) (by omega)
      refine lpM (fun c t (y : zV) => m_findsPhrases_37 t kind p a b c y) (fun c t _ => (FrP d t ∧ t.m 149 = d.m 149 ∧ t.m 150 = d.m 150) ∧ kS t (fun x => bag x + bgN F s l m p one x + bgO F s l m p one (3 * c) x) (T + bxN s l m one + bxI s l m one (3 * c))) 0 m (by omega) t g6 ⟨hj.1, kS_ext hj.2 (by rw [show bxI s l m one (3 * 0) = 0 from rfl]; omega) (fun x => (Int.add_zero _).symm)⟩ (fun t y hk => ?_) (fun c t y hc hc2 hk hnext3 => ?_)
      · obtain ⟨hF', hL'⟩ := GF t hk.1.1 hk.1.2.1 hk.1.2.2
        (try dsimp only)
        rw [m_findsPhrases_37_e]
        simp (disch := omega) only [↓reduceIte, zinT, wr_id, wrl_id, ltT, ltF, leT, leF, eqT, eqF, ne_eq, not_true_eq_false, not_false_eq_true, Option.bind_some, Ok_some, bi_0, bi_n0, bi_01, n_longOf hF', hm']
        refine hnext2 _ (_, _) ⟨hk.1, kS_ext hk.2 ?_ (fun x => ?_)⟩
        · rw [show 3 * a + (b + 1 - a) = one + 1 by omega, bxN_s (by omega)]
          have : bxI s l m one 18 = bxI s l m one (3 * m) := sm_skip (by omega) (by omega) (fun j j0 j1 => by rw [bxo_j (by unfold sp1; omega)]; rfl)
          omega
        · (try dsimp only)
          rw [show 3 * a + (b + 1 - a) = one + 1 by omega, bgN_s (by omega)]
          have : bgO F s l m p one 18 x = bgO F s l m p one (3 * m) x := sm_skip (by omega) (by omega) (fun j j0 j1 => by rw [bxo_j (by unfold sp1; omega)]; rfl)
          omega
      · obtain ⟨hF', hL'⟩ := GF t hk.1.1 hk.1.2.1 hk.1.2.2
        (try dsimp only)
        rw [m_findsPhrases_37_e]
        simp (disch := omega) only [↓reduceIte, zinT, wr_id, wrl_id, ltT, ltF, leT, leF, eqT, eqF, ne_eq, not_true_eq_false, not_false_eq_true, Option.bind_some, Ok_some, bi_0, bi_n0, bi_01, n_longOf hF', hm']
        obtain ⟨w, hw'⟩ : ∃ w : Int, w = if c + 3 < m then c + 3 else m := ⟨_, rfl⟩
        have hw2 : c < w ∧ w ≤ m ∧ w ≤ c + 3 ∧ (w = c + 3 ∨ w = m) := by rw [hw']; split <;> omega
        have em2 : ∀ t : zD P, m_min t (c + 3) m = some (w, t) := fun t => by rw [hw']; exact n_min (by unfold I32; omega)
        refine lpD (fun e t => m_findsPhrases_45 t kind p a b c e) (fun e t => (FrP d t ∧ t.m 149 = d.m 149 ∧ t.m 150 = d.m 150) ∧ kS t (fun x => bag x + bgN F s l m p one x + bgO F s l m p one (3 * c + (e - c)) x) (T + bxN s l m one + bxI s l m one (3 * c + (e - c)))) c w (by omega) t (by rw [show 3 * c + (c - c) = 3 * c by omega]; exact hk) (fun t hv => ?_) (fun e t he he2 hv hnext4 => ?_)
        · obtain ⟨hF', hL'⟩ := GF t hv.1.1 hv.1.2.1 hv.1.2.2
          (try dsimp only)
          rw [m_findsPhrases_45_e]
          simp (disch := omega) only [↓reduceIte, zinT, wr_id, wrl_id, ltT, ltF, leT, leF, eqT, eqF, ne_eq, not_true_eq_false, not_false_eq_true, Option.bind_some, Ok_some, bi_0, bi_n0, bi_01, n_longOf hF', hm', em2]
          refine hnext3 _ _ ⟨hv.1, kS_ext hv.2 ?_ (fun x => ?_)⟩
          · have : bxI s l m one (3 * (c + 1)) = bxI s l m one (3 * c + (w - c)) := sm_skip (by omega) (by omega) (fun j j0 j1 => by rw [bxo_j (by unfold sp1; omega)]; rfl)
            omega
          · (try dsimp only)
            have : bgO F s l m p one (3 * (c + 1)) x = bgO F s l m p one (3 * c + (w - c)) x := sm_skip (by omega) (by omega) (fun j j0 j1 => by rw [bxo_j (by unfold sp1; omega)]; rfl)
            omega
        · obtain ⟨hF', hL'⟩ := GF t hv.1.1 hv.1.2.1 hv.1.2.2
          obtain ⟨o, ho⟩ : ∃ o : Int, o = 3 * c + (e - c) := ⟨_, rfl⟩
          have s2 : sp0 o = c ∧ sp1 o = e + 1 := by rw [ho]; have := sp_at (a := c) (k := e - c) (by omega) (by omega); omega
          have ib := n_isBox hL' hF' h1 (by omega) hl' (a := a) (b := b) (c := c) (e := e) ha hb (by omega) hc he (by omega)
          have eb : bxo s l m one o = bx s l a (b + 1) (mk c (e + 1)) := by
            unfold bxo
            rw [s1.1, s1.2, s2.1, s2.2, decide_eq_true (by omega), decide_eq_true (by omega)]
            rfl
          rw [← eb] at ib
          rw [← ho] at hv
          have nx : 3 * c + (e + 1 - c) = o + 1 := by omega
          have oneL := bxI_mo (s := s) (l := l) (m := m) (one := one) (k := o + 1) (n := 18) (by omega) (by omega)
          rw [bxI_s (by omega)] at oneL
          have ibl := bxI_le (s := s) (l := l) (m := m) (one := one) (n := o) (by omega)
          (try dsimp only)
          rw [m_findsPhrases_45_e]
          simp (disch := omega) only [↓reduceIte, zinT, wr_id, wrl_id, ltT, ltF, leT, leF, eqT, eqF, ne_eq, not_true_eq_false, not_false_eq_true, Option.bind_some, Ok_some, bi_0, bi_n0, bi_01, n_longOf hF', hm', em2, ib]
          cases hb3 : bxo s l m one o
          · rw [if_pos rfl]
            refine hnext4 _ ⟨hv.1, kS_ext hv.2 ?_ (fun x => ?_)⟩
            · rw [nx, bxI_s (by omega), hb3]; simp [bi]
            · (try dsimp only)
              rw [nx, bgO_s (by omega), hb3]; simp [bi]
          · have k0 := n_rowKey hF' hw (p := p) (s := 0) (a := a) (b := b) h1 h2 (by omega) (by omega) ha hb (by omega)
            have k1 := n_rowKey hF' hw (p := p) (s := 1) (a := c) (b := e) h1 h2 (by omega) (by omega) hc he (by omega)
            have pl := pkb_le hw (p := p) (one := one) (other := o) h1 h2 (by omega) (by omega) (by omega) (by omega)
            have ek : pk F p one o = 68921 * rk F p 0 a (b + 1) + rk F p 1 c (e + 1) := by unfold pk; rw [s1.1, s1.2, s2.1, s2.2]
            have x0 : ∀ k, 0 ≤ k → 0 ≤ rkX F p 0 a (b + 1) k ∧ rkX F p 0 a (b + 1) k < 41 := fun k hk => rkX_le hw h1 h2 (by omega) (by omega) ha (by omega) hk
            have x1 : ∀ k, 0 ≤ k → 0 ≤ rkX F p 1 c (e + 1) k ∧ rkX F p 1 c (e + 1) k < 41 := fun k hk => rkX_le hw h1 h2 (by omega) (by omega) hc (by omega) hk
            have r0 : 0 ≤ rk F p 0 a (b + 1) ∧ rk F p 0 a (b + 1) < 68921 := by
              have := x0 0 (by omega); have := x0 1 (by omega); have := x0 2 (by omega)
              unfold rk; omega
            have r1 : 0 ≤ rk F p 1 c (e + 1) ∧ rk F p 1 c (e + 1) < 68921 := by
              have := x1 0 (by omega); have := x1 1 (by omega); have := x1 2 (by omega)
              unfold rk; omega
            have b1 : bi true = 1 := rfl
            rw [hb3, b1] at oneL
            rw [if_neg (by decide)]
            simp (disch := omega) only [↓reduceIte, zinT, wr_id, wrl_id, ltT, ltF, leT, leF, eqT, eqF, ne_eq, not_true_eq_false, not_false_eq_true, Option.bind_some, Ok_some, bi_0, bi_n0, bi_01, k0, k1]
            rw [← ek]
            refine Ok_bind (n_laysKey hv.2 (by omega) (by omega) pl.1 pl.2.1) (fun v t' f => ?_)
            refine hnext4 _ ⟨⟨hv.1.1.tr f.1, (f.2.1 149 (by omega) (by omega)).trans hv.1.2.1, (f.2.1 150 (by omega) (by omega)).trans hv.1.2.2⟩, kS_ext f.2.2 ?_ (fun x => ?_)⟩
            · rw [nx, bxI_s (by omega), hb3, b1]; omega
            · unfold bag1
              (try dsimp only)
              rw [nx, bgO_s (by omega), hb3, Bool.true_and]
              by_cases e1 : x = pk F p one o
              · rw [if_pos e1, e1, bi_t rfl]; omega
              · rw [if_neg e1, bi_f (fun hh => e1 hh.symm)]; omega
end
