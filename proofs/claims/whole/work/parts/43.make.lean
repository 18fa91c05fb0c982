/-! LINKS: the class, whole. -/
theorem grJ_id {E : Int → Int} {l i n : Int} {t : (Int → Int) × Bool} (hn : 0 ≤ n) : (grJ E l i t n).2 = false → grJ E l i t n = t := by
  refine fo_ind (I := fun _ (u : (Int → Int) × Bool) => u.2 = false → u = t) hn (fun _ => rfl) (fun k u a b hi => ?_)
  (try dsimp only)
  split
  · intro h; cases h
  · exact hi
theorem grI_id {E : Int → Int} {l m n : Int} {t : (Int → Int) × Bool} (hn : 0 ≤ n) (hm : 0 ≤ m) : (grI E l m t n).2 = false → grI E l m t n = t := by
  refine fo_ind (I := fun _ (u : (Int → Int) × Bool) => u.2 = false → u = t) hn (fun _ => rfl) (fun k u a b hi => ?_)
  (try dsimp only)
  intro h
  have e := grJ_id (E := E) (l := l) (i := k) (t := u) hm h
  rw [e] at h ⊢
  exact hi h
theorem gr1_id {E s : Int → Int} {l m : Int} (hl : 0 ≤ l) (hm : 0 ≤ m) (h : (gr1 E l m s).2 = false) : (gr1 E l m s).1 = s := by
  have := grI_id (E := E) (t := (s, false)) hl hm h
  unfold gr1
  rw [this]
/-- once nothing comes, nothing comes any more -/
theorem grN_fix {E s : Int → Int} {l m : Int} (hl : 0 ≤ l) (hm : 0 ≤ m) {n k : Int} (hn : 0 ≤ n) (hk : 0 ≤ k) (h : (gr1 E l m (grN E l m s n)).2 = false) : grN E l m s (n + k) = grN E l m s n := by
  obtain ⟨q, rfl⟩ := Int.eq_ofNat_of_zero_le hk
  induction q with
  | zero => rw [show n + ((0 : Nat) : Int) = n by omega]
  | succ q ih =>
    have e : n + ((q + 1 : Nat) : Int) = (n + (q : Int)) + 1 := by omega
    have e2 : grN E l m s (n + (q : Int) + 1) = (gr1 E l m (grN E l m s (n + (q : Int)))).1 := fo_s _ _ (by omega)
    rw [e, e2, ih (by omega)]
    exact gr1_id hl hm h
section
variable {P : zP} {d : zD P} {s E : Int → Int} {l m : Int}
theorem k_fillUp (h : lC d E s l m) : Ok (li_fillUp d) (fun _ d' => Fr 119 120 d d' ∧ lC d' E (fiI E l m s l) l m) := by
  have l1 := h.2.2.1
  have m1 := h.2.2.2.1
  rw [li_fillUp_e]
  refine lpM (fun i t (g : zV) => li_fillUp_2 t i g) (fun i t _ => Fr 119 120 d t ∧ lC t E (fiI E l m s i) l m) 0 l (by omega) d (3, 0) ⟨Fr.rf, h⟩ (fun t g hi => ?_) (fun i t g hi0 hi1 hi hnext => ?_)
  · have e1 := hi.2.1
    (try dsimp only)
    rw [li_fillUp_2_e]
    simp (disch := omega) only [↓reduceIte, zinT, wr_id, wrl_id, ltT, ltF, leT, leF, eqT, eqF, ne_eq, not_true_eq_false, not_false_eq_true, Option.bind_some, Ok_some, bi_0, bi_n0, bi_01, e1]
    exact hi
  · have e1 := hi.2.1
    (try dsimp only)
    rw [li_fillUp_2_e]
    simp (disch := omega) only [↓reduceIte, zinT, wr_id, wrl_id, ltT, ltF, leT, leF, eqT, eqF, ne_eq, not_true_eq_false, not_false_eq_true, Option.bind_some, Ok_some, bi_0, bi_n0, bi_01, e1]
    refine lpD (fun j t => li_fillUp_8 t i j) (fun j t => Fr 119 120 d t ∧ lC t E (fiJ E l i (fiI E l m s i) j) l m) 0 m (by omega) t hi (fun t hj => ?_) (fun j t hj0 hj1 hj hnext2 => ?_)
    · have e2 := hj.2.2.1
      (try dsimp only)
      rw [li_fillUp_8_e]
      simp (disch := omega) only [↓reduceIte, zinT, wr_id, wrl_id, ltT, ltF, leT, leF, eqT, eqF, ne_eq, not_true_eq_false, not_false_eq_true, Option.bind_some, Ok_some, bi_0, bi_n0, bi_01, e2]
      refine hnext _ _ ?_
      unfold fiI
      rw [fo_s _ _ hi0]
      exact hj
    · obtain ⟨f1, c1⟩ := hj
      have e2 := c1.2.1
      have hs := c1.2.2.2.2.2.2.2 i hi0 (by omega)
      have r6 := (c1.2.2.2.2.2.1 i hi0 (by omega)).1
      unfold lt6 at r6
      have go : ∀ t2 : zD P, t2 = (if fil1 E (fiJ E l i (fiI E l m s i) j) l i j then t.up 119 (zix i) (zbin 4 ((fiJ E l i (fiI E l m s i) j) i) (zbin 6 1 j)) else t) → Ok (li_fillUp_8 t2 i (j + 1)) (fun _ d' => Fr 119 120 d d' ∧ lC d' E (fiI E l m s l) l m) := by
        intro t2 ht2
        refine hnext2 t2 ?_
        have ej : fiJ E l i (fiI E l m s i) (j + 1) = if fil1 E (fiJ E l i (fiI E l m s i) j) l i j then put1 (fiJ E l i (fiI E l m s i) j) i j else fiJ E l i (fiI E l m s i) j := fo_s _ _ hj0
        rw [ej, ht2]
        cases fil1 E (fiJ E l i (fiI E l m s i) j) l i j
        · exact ⟨f1, c1⟩
        · exact ⟨f1.up (by omega) (by omega), lC_put c1 hi0 hi1 hj0 hj1⟩
      have hc : fil1 E (fiJ E l i (fiI E l m s i) j) l i j = ((tb (E i) j && !tb ((fiJ E l i (fiI E l m s i) j) i) j) && (decide ((fiJ E l i (fiI E l m s i) j) i = 0) && !tb (colw (fiJ E l i (fiI E l m s i) j) l) j)) := rfl
      (try dsimp only)
      rw [li_fillUp_8_e]
      simp (disch := omega) only [↓reduceIte, zinT, wr_id, wrl_id, ltT, ltF, leT, leF, eqT, eqF, ne_eq, not_true_eq_false, not_false_eq_true, Option.bind_some, Ok_some, bi_0, bi_n0, bi_01, e2, k_mayCome c1, k_isBare c1, hs]
      rw [hc] at go
      cases hq1 : (tb (E i) j && !tb ((fiJ E l i (fiI E l m s i) j) i) j)
      · rw [hq1] at go
        rw [if_pos rfl]
        exact go _ rfl
      · rw [hq1] at go
        rw [if_neg (by decide)]
        by_cases hq3 : (fiJ E l i (fiI E l m s i) j) i = 0
        · rw [decide_eq_true hq3] at go
          rw [if_neg (fun x => x hq3)]
          cases hq4 : !tb (colw (fiJ E l i (fiI E l m s i) j) l) j
          · rw [hq4] at go
            rw [if_pos rfl]
            exact go _ rfl
          · rw [hq4] at go
            rw [if_neg (by decide)]
            exact go _ rfl
        · rw [decide_eq_false hq3] at go
          rw [if_pos hq3]
          exact go _ rfl
theorem k_grow (h : lC d E s l m) : Ok (li_grow d) (fun _ d' => Fr 119 120 d d' ∧ lC d' E (grN E l m s 37) l m) := by
  have l1 := h.2.2.1
  have m1 := h.2.2.2.1
  rw [li_grow_e]
  refine lpM (fun k t (a : Int) => li_grow_4 t a k) (fun k t a => Fr 119 120 d t ∧ lC t E (grN E l m s k) l m ∧ (a = 1 ∨ (a = 0 ∧ grN E l m s 37 = grN E l m s k))) 0 37 (by omega) d 1 ⟨Fr.rf, h, Or.inl rfl⟩ (fun t a hi => ?_) (fun k t a hk hk2 hi hnext => ?_)
  · (try dsimp only)
    rw [li_grow_4_e]
    rcases hi.2.2 with rfl | ⟨rfl, -⟩
    · simp (disch := omega) only [↓reduceIte, zinT, wr_id, wrl_id, ltT, ltF, leT, leF, eqT, eqF, ne_eq, not_true_eq_false, not_false_eq_true, Option.bind_some, Ok_some, bi_0, bi_n0, bi_01]
      exact ⟨hi.1, hi.2.1⟩
    · simp (disch := omega) only [↓reduceIte, zinT, wr_id, wrl_id, ltT, ltF, leT, leF, eqT, eqF, ne_eq, not_true_eq_false, not_false_eq_true, Option.bind_some, Ok_some, bi_0, bi_n0, bi_01]
      exact ⟨hi.1, hi.2.1⟩
  · (try dsimp only)
    rw [li_grow_4_e]
    rcases hi.2.2 with rfl | ⟨rfl, e⟩
    · simp (disch := omega) only [↓reduceIte, zinT, wr_id, wrl_id, ltT, ltF, leT, leF, eqT, eqF, ne_eq, not_true_eq_false, not_false_eq_true, Option.bind_some, Ok_some, bi_0, bi_n0, bi_01]
      refine Ok_bind (k_growOnce hi.2.1) (fun v d' f => ?_)
      obtain ⟨f1, c1, rfl⟩ := f
      (try dsimp only)
      refine hnext _ _ ?_
      have e2 : grN E l m s (k + 1) = (gr1 E l m (grN E l m s k)).1 := fo_s _ _ hk
      refine ⟨hi.1.tr f1, by rw [e2]; exact c1, ?_⟩
      cases hb : (gr1 E l m (grN E l m s k)).2
      · refine Or.inr ⟨rfl, ?_⟩
        have a := grN_fix (s := s) (n := k) (k := 37 - k) (by omega : 0 ≤ l) (by omega : 0 ≤ m) hk (by omega) hb
        have b := grN_fix (s := s) (n := k) (k := 1) (by omega : 0 ≤ l) (by omega : 0 ≤ m) hk (by omega) hb
        rw [show k + (37 - k) = 37 by omega] at a
        rw [a, b]
      · exact Or.inl rfl
    · simp (disch := omega) only [↓reduceIte, zinT, wr_id, wrl_id, ltT, ltF, leT, leF, eqT, eqF, ne_eq, not_true_eq_false, not_false_eq_true, Option.bind_some, Ok_some, bi_0, bi_n0, bi_01]
      exact ⟨hi.1, by rw [e]; exact hi.2.1⟩
variable {F : Nat → Int}
theorem k_make (h : CI d F) {kind p : Int} (hk0 : 0 ≤ kind) (hk5 : kind ≤ 5) (h3 : 0 ≤ p) (h4 : p < prs F) : Ok (li_make d kind p) (fun _ d' => Fr 115 120 d d' ∧ lC d' (eth F p) (lk F kind p) (lng F p 0) (lng F p 1)) := by
  have l0 := h.wf.lng_ h3 h4 (s := 0) (by omega) (by omega)
  have l1 := h.wf.lng_ h3 h4 (s := 1) (by omega) (by omega)
  have q := h.wf.prs_
  have c1 : CI (d.up 115 4 (lng F p 0)) F := h.up (by omega)
  have e10 : (1 : Int) - 0 = 1 := by omega
  have e11 : (1 : Int) - 1 = 0 := by omega
  rw [li_make_e]
  simp (disch := omega) only [↓reduceIte, zinT, wr_id, wrl_id, ltT, ltF, leT, leF, eqT, eqF, ne_eq, not_true_eq_false, not_false_eq_true, Option.bind_some, Ok_some, bi_0, bi_n0, bi_01, h.ca.lng_, c1.ca.lng_]
  refine Ok_bind (k_fill (r := 116) (n := 6) rfl rfl (by omega)) (fun v1 d1 f1 => ?_)
  (try dsimp only)
  have f1' : Fr 115 120 d d1 := ((Fr.rf.up (by omega) (by omega)).up (by omega) (by omega)).tr (f1.1.mo (by omega) (by omega))
  have g4 : d1.m 115 4 = lng F p 0 := by rw [f1.1 115 (by omega), u_115_5, u_115_4]; rfl
  have g5 : d1.m 115 5 = lng F p 1 := by rw [f1.1 115 (by omega), u_115_5]; rfl
  refine lpM (fun j t (g : zV) => li_make_24 t kind p j g) (fun j t _ => Fr 116 117 d1 t ∧ ∀ i, 0 ≤ i → i < 6 → t.m 116 (zix i) = fth F p j i) 0 (lng F p 1) (by omega) d1 (3, 0) ⟨Fr.rf, fun i a b => f1.2 i a b⟩ (fun t g hi => ?_) (fun j t g hj0 hj1 hi hnext => ?_)
  · have hc : CI t F := h.Fr (f1'.tr (hi.1.mo (by omega) (by omega))) (by omega)
    have t4 : t.m 115 4 = lng F p 0 := by rw [hi.1 115 (by omega)]; exact g4
    have t5 : t.m 115 5 = lng F p 1 := by rw [hi.1 115 (by omega)]; exact g5
    (try dsimp only)
    rw [li_make_24_e]
    simp (disch := omega) only [↓reduceIte, zinT, wr_id, wrl_id, ltT, ltF, leT, leF, eqT, eqF, ne_eq, not_true_eq_false, not_false_eq_true, Option.bind_some, Ok_some, bi_0, bi_n0, bi_01, t5]
    refine lpM (fun i e (g : zV) => li_make_52 e kind p i g) (fun i e _ => Fr 117 120 t e ∧ (∀ x, 0 ≤ x → x < i → e.m 117 (zix x) = bkk F p x) ∧ (∀ x, 0 ≤ x → x < i → e.m 118 (zix x) = eth F p x) ∧ (∀ x, 0 ≤ x → x < i → e.m 119 (zix x) = lk0 F kind p x)) 0 6 (by omega) t g ⟨Fr.rf, fun x _ _ => by omega, fun x _ _ => by omega, fun x _ _ => by omega⟩ (fun e g hj => ?_) (fun i e g hi0 hi1 hj hnext => ?_)
    · have hC : lC e (eth F p) (lk0 F kind p) (lng F p 0) (lng F p 1) := ⟨by rw [hj.1 115 (by omega)]; exact t4, by rw [hj.1 115 (by omega)]; exact t5, l0, l1, eth_ok h.wf h3 h4, lk0_ok h.wf h3 h4, fun x a b => hj.2.2.1 x a b, fun x a b => hj.2.2.2 x a b⟩
      have fr : Fr 115 120 d e := (f1'.tr (hi.1.mo (by omega) (by omega))).tr (hj.1.mo (by omega) (by omega))
      (try dsimp only)
      rw [li_make_52_e]
      simp (disch := omega) only [↓reduceIte, zinT, wr_id, wrl_id, ltT, ltF, leT, leF, eqT, eqF, ne_eq, not_true_eq_false, not_false_eq_true, Option.bind_some, Ok_some, bi_0, bi_n0, bi_01]
      by_cases k4 : kind < 4
      · have e1 : lk F kind p = lk0 F kind p := by unfold lk lk4; rw [if_neg (by omega), if_neg (by omega)]
        simp (disch := omega) only [↓reduceIte, zinT, wr_id, wrl_id, ltT, ltF, leT, leF, eqT, eqF, ne_eq, not_true_eq_false, not_false_eq_true, Option.bind_some, Ok_some, bi_0, bi_n0, bi_01]
        rw [e1]
        exact ⟨fr, hC⟩
      · simp (disch := omega) only [↓reduceIte, zinT, wr_id, wrl_id, ltT, ltF, leT, leF, eqT, eqF, ne_eq, not_true_eq_false, not_false_eq_true, Option.bind_some, Ok_some, bi_0, bi_n0, bi_01]
        refine Ok_bind (k_grow hC) (fun v2 d2 f2 => ?_)
        (try dsimp only)
        by_cases k5 : kind = 5
        · have e1 : lk F kind p = fiI (eth F p) (lng F p 0) (lng F p 1) (grN (eth F p) (lng F p 0) (lng F p 1) (lk0 F kind p) 37) (lng F p 0) := by unfold lk lk4; rw [if_pos k5, if_pos (by omega)]
          simp (disch := omega) only [↓reduceIte, zinT, wr_id, wrl_id, ltT, ltF, leT, leF, eqT, eqF, ne_eq, not_true_eq_false, not_false_eq_true, Option.bind_some, Ok_some, bi_0, bi_n0, bi_01]
          refine Ok_bind (k_fillUp f2.2) (fun v3 d3 f3 => ?_)
          refine Ok_ret ⟨(fr.tr (f2.1.mo (by omega) (by omega))).tr (f3.1.mo (by omega) (by omega)), ?_⟩
          rw [e1]
          exact f3.2
        · have e1 : lk F kind p = grN (eth F p) (lng F p 0) (lng F p 1) (lk0 F kind p) 37 := by unfold lk lk4; rw [if_neg k5, if_pos (by omega)]
          simp (disch := omega) only [↓reduceIte, zinT, wr_id, wrl_id, ltT, ltF, leT, leF, eqT, eqF, ne_eq, not_true_eq_false, not_false_eq_true, Option.bind_some, Ok_some, bi_0, bi_n0, bi_01]
          rw [e1]
          exact ⟨fr.tr (f2.1.mo (by omega) (by omega)), f2.2⟩
    · have fr : Fr 115 120 d e := (f1'.tr (hi.1.mo (by omega) (by omega))).tr (hj.1.mo (by omega) (by omega))
      have hce : CI e F := h.Fr fr (by omega)
      have e4 : e.m 115 4 = lng F p 0 := by rw [hj.1 115 (by omega)]; exact t4
      have e6 : e.m 116 (zix i) = fth F p (lng F p 1) i := by rw [hj.1 116 (by omega)]; exact hi.2 i hi0 hi1
      have fin : ∀ b, b = bkk F p i → ∀ g : zV, Ok ((li_firstLinks ((e.up 117 (zix i) b).up 118 (zix i) (zbin 4 (fth F p (lng F p 1) i) b)) kind i).bind fun q => li_make_52 (q.2.up 119 (zix i) q.1) kind p (i + 1) g) (fun _ d' => Fr 115 120 d d' ∧ lC d' (eth F p) (lk F kind p) (lng F p 0) (lng F p 1)) := by
        intro b hb g
        subst hb
        have r : li_firstLinks ((e.up 117 (zix i) (bkk F p i)).up 118 (zix i) (zbin 4 (fth F p (lng F p 1) i) (bkk F p i))) kind i = some (lk0 F kind p i, (e.up 117 (zix i) (bkk F p i)).up 118 (zix i) (zbin 4 (fth F p (lng F p 1) i) (bkk F p i))) := by
          have i118 : zbin 4 (fth F p (lng F p 1) i) (bkk F p i) = eth F p i := rfl
          rw [li_firstLinks_e, i118]
          unfold lk0
          rcases (by omega : kind = 0 ∨ kind = 1 ∨ kind = 2 ∨ kind = 3 ∨ kind = 4 ∨ kind = 5) with rfl | rfl | rfl | rfl | rfl | rfl <;> simp (disch := omega) only [↓reduceIte, zinT, wr_id, wrl_id, ltT, ltF, leT, leF, eqT, eqF, ne_eq, not_true_eq_false, not_false_eq_true, Option.bind_some, Ok_some, bi_0, bi_n0, bi_01, up_ne, u_117, u_118, zfu_z, e6, if_true]
        rw [r]
        simp (disch := omega) only [↓reduceIte, zinT, wr_id, wrl_id, ltT, ltF, leT, leF, eqT, eqF, ne_eq, not_true_eq_false, not_false_eq_true, Option.bind_some, Ok_some, bi_0, bi_n0, bi_01]
        refine hnext _ _ ?_
        refine ⟨((hj.1.up (by omega) (by omega)).up (by omega) (by omega)).up (by omega) (by omega), ?_, ?_, ?_⟩
        · rw [up_ne (by omega), up_ne (by omega), u_117]
          exact zfu_next (g := fun x => bkk F p x) hj.2.1 hi0 (by omega)
        · rw [up_ne (by omega), u_118, up_ne (by omega)]
          exact zfu_next (g := fun x => eth F p x) hj.2.2.1 hi0 (by omega)
        · rw [u_119, up_ne (by omega), up_ne (by omega)]
          exact zfu_next (g := fun x => lk0 F kind p x) hj.2.2.2 hi0 (by omega)
      (try dsimp only)
      rw [li_make_52_e]
      by_cases c : i < lng F p 0
      · have cp := k_chosen hce (w := 1) (p := p) (j := i) (by omega) (by omega) h3 h4 hi0 (by rw [e11]; exact c)
        have cl := lkd_le h.wf (w := 1) (p := p) (j := i) (by omega) (by omega) h3 h4
        simp (disch := omega) only [↓reduceIte, zinT, wr_id, wrl_id, ltT, ltF, leT, leF, eqT, eqF, ne_eq, not_true_eq_false, not_false_eq_true, Option.bind_some, Ok_some, bi_0, bi_n0, bi_01, e4, cp, up_ne, u_117, zfu_z, e6, if_true]
        by_cases c2 : lkd F 1 p i = -1
        · simp (disch := omega) only [↓reduceIte, zinT, wr_id, wrl_id, ltT, ltF, leT, leF, eqT, eqF, ne_eq, not_true_eq_false, not_false_eq_true, Option.bind_some, Ok_some, bi_0, bi_n0, bi_01]
          refine fin 0 ?_ _
          unfold bkk
          rw [if_pos c, if_pos c2]
        · simp (disch := omega) only [↓reduceIte, zinT, wr_id, wrl_id, ltT, ltF, leT, leF, eqT, eqF, ne_eq, not_true_eq_false, not_false_eq_true, Option.bind_some, Ok_some, bi_0, bi_n0, bi_01]
          refine fin _ ?_ _
          unfold bkk
          rw [if_pos c, if_neg c2]
      · simp (disch := omega) only [↓reduceIte, zinT, wr_id, wrl_id, ltT, ltF, leT, leF, eqT, eqF, ne_eq, not_true_eq_false, not_false_eq_true, Option.bind_some, Ok_some, bi_0, bi_n0, bi_01, e4, up_ne, u_117, zfu_z, e6, if_true]
        refine fin 0 ?_ _
        unfold bkk
        rw [if_neg c]
  · have hc : CI t F := h.Fr (f1'.tr (hi.1.mo (by omega) (by omega))) (by omega)
    have t5 : t.m 115 5 = lng F p 1 := by rw [hi.1 115 (by omega)]; exact g5
    have cp := k_chosen hc (w := 0) (p := p) (j := j) (by omega) (by omega) h3 h4 hj0 (by rw [e10]; exact hj1)
    have cl := lkd_le h.wf (w := 0) (p := p) (j := j) (by omega) (by omega) h3 h4
    have ef : fth F p (j + 1) = if lkd F 0 p j = -1 then fth F p j else fun i => if i = lkd F 0 p j then zbin 4 (fth F p j i) (zbin 6 1 j) else fth F p j i := fo_s _ _ hj0
    (try dsimp only)
    rw [li_make_24_e]
    simp (disch := omega) only [↓reduceIte, zinT, wr_id, wrl_id, ltT, ltF, leT, leF, eqT, eqF, ne_eq, not_true_eq_false, not_false_eq_true, Option.bind_some, Ok_some, bi_0, bi_n0, bi_01, t5, cp]
    by_cases c2 : lkd F 0 p j = -1
    · simp (disch := omega) only [↓reduceIte, zinT, wr_id, wrl_id, ltT, ltF, leT, leF, eqT, eqF, ne_eq, not_true_eq_false, not_false_eq_true, Option.bind_some, Ok_some, bi_0, bi_n0, bi_01]
      refine hnext _ _ ?_
      rw [ef, if_pos c2]
      exact hi
    · have e6 := hi.2 (lkd F 0 p j) (by omega) (by omega)
      simp (disch := omega) only [↓reduceIte, zinT, wr_id, wrl_id, ltT, ltF, leT, leF, eqT, eqF, ne_eq, not_true_eq_false, not_false_eq_true, Option.bind_some, Ok_some, bi_0, bi_n0, bi_01, e6]
      refine hnext _ _ ?_
      rw [ef, if_neg c2]
      refine ⟨hi.1.up (by omega) (by omega), fun i a b => ?_⟩
      rw [u_116, zfu_z (by omega)]
      by_cases c3 : i = lkd F 0 p j
      · rw [if_pos c3, if_pos c3, c3]
      · rw [if_neg c3, if_neg c3, hi.2 i a b]
end
