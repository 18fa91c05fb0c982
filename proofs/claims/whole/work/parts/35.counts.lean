/-! COUNTS OF A ROUND: what both tell; the class. -/
def cnI (F : Nat → Int) (w p j : Int) (n : Int) (t : (Int → Int) × (Int → Int)) : (Int → Int) × (Int → Int) := fo n t (fun i t => (fun a => if a = 40 * wrd F p w i + wrd F p (1 - w) j then t.1 a + pt (lng F p w) (fun i => wth F w p i j) i else t.1 a, fun a => if a = nrn F w p i j then t.2 a + pt (lng F p w) (fun i => wth F w p i j) i else t.2 a))
def cnJ (F : Nat → Int) (w p : Int) (n : Int) (t : (Int → Int) × (Int → Int)) : (Int → Int) × (Int → Int) := fo n t (fun j t => cnI F w p j (lng F p w) t)
def cnP (F : Nat → Int) (w : Int) (n : Int) : (Int → Int) × (Int → Int) := fo n (fun _ => 0, fun _ => 0) (fun p t => cnJ F w p (lng F p (1 - w)) t)
def cnt (F : Nat → Int) (w : Int) : (Int → Int) × (Int → Int) := cnP F w (prs F)
def tB (t : (Int → Int) × (Int → Int)) (B : Int) : Prop := ∀ a, 0 ≤ t.1 a ∧ t.1 a ≤ B ∧ 0 ≤ t.2 a ∧ t.2 a ≤ B
theorem wth_ok {F : Nat → Int} (hw : WF F) {w p j : Int} (h1 : 0 ≤ w) (h2 : w < 2) (h3 : 0 ≤ p) (h4 : p < prs F) (h7 : 0 ≤ j) (h8 : j < lng F p (1 - w)) : wOK (lng F p w) (fun i => wth F w p i j) := fun i a b => wth_le hw h1 h2 h3 h4 a b h7 h8
theorem cnI_le {F : Nat → Int} (hw : WF F) {w p j n B : Int} {t : (Int → Int) × (Int → Int)} (h1 : 0 ≤ w) (h2 : w < 2) (h3 : 0 ≤ p) (h4 : p < prs F) (h7 : 0 ≤ j) (h8 : j < lng F p (1 - w)) (hn : 0 ≤ n) (hn2 : n ≤ lng F p w) (hB : tB t B) : tB (cnI F w p j n t) (B + 200000 * n) := by
  have l := hw.lng_ h3 h4 h1 h2
  refine fo_ind (I := fun n (t : (Int → Int) × (Int → Int)) => tB t (B + 200000 * n)) hn (by simpa using hB) (fun i t a b hi x => ?_)
  have := hi x
  have g := pt_le (by omega) (wth_ok hw h1 h2 h3 h4 h7 h8) i a (by omega)
  (try dsimp only)
  refine ⟨?_, ?_, ?_, ?_⟩ <;> split <;> omega
theorem cnJ_le {F : Nat → Int} (hw : WF F) {w p n B : Int} {t : (Int → Int) × (Int → Int)} (h1 : 0 ≤ w) (h2 : w < 2) (h3 : 0 ≤ p) (h4 : p < prs F) (hn : 0 ≤ n) (hn2 : n ≤ lng F p (1 - w)) (hB : tB t B) : tB (cnJ F w p n t) (B + 1200000 * n) := by
  have l := hw.lng_ h3 h4 h1 h2
  refine fo_ind (I := fun n (t : (Int → Int) × (Int → Int)) => tB t (B + 1200000 * n)) hn (by simpa using hB) (fun j t a b hi => ?_)
  have := cnI_le hw h1 h2 h3 h4 a (by omega) (by omega : 0 ≤ lng F p w) (Int.le_refl _) hi
  intro x
  have := this x
  (try dsimp only)
  omega
theorem cnP_le {F : Nat → Int} (hw : WF F) {w n : Int} (h1 : 0 ≤ w) (h2 : w < 2) (hn : 0 ≤ n) (hn2 : n ≤ prs F) : tB (cnP F w n) (7200000 * n) := by
  refine fo_ind (I := fun n (t : (Int → Int) × (Int → Int)) => tB t (7200000 * n)) hn (fun x => by simp) (fun p t a b hi => ?_)
  have l := hw.lng_ a (by omega : p < prs F) (s := 1 - w) (by omega) (by omega)
  have := cnJ_le hw h1 h2 a (by omega) (by omega : 0 ≤ lng F p (1 - w)) (Int.le_refl _) hi
  intro x
  have := this x
  (try dsimp only)
  omega
theorem cnt_le {F : Nat → Int} (hw : WF F) {w : Int} (h1 : 0 ≤ w) (h2 : w < 2) : tB (cnt F w) 172800000 := by
  have a := hw.prs_
  intro x
  have := cnP_le hw h1 h2 a.1 (Int.le_refl _) x
  unfold cnt
  omega
/-- what lies in the arrays of counts -/
def tM (f g : Nat → Int) (t : (Int → Int) × (Int → Int)) : Prop := (∀ a, 0 ≤ a → a < 1600 → f (zix a) = t.1 a) ∧ (∀ a, 0 ≤ a → a < 8 → g (zix a) = t.2 a)
theorem tM_up {f g : Nat → Int} {t : (Int → Int) × (Int → Int)} (h : tM f g t) {x y v : Int} (hx : 0 ≤ x ∧ x < 1600) (hy : 0 ≤ y ∧ y < 8) : tM (zfu f (zix x) (f (zix x) + v)) (zfu g (zix y) (g (zix y) + v)) (fun a => if a = x then t.1 a + v else t.1 a, fun a => if a = y then t.2 a + v else t.2 a) := by
  refine ⟨fun a h0 h1 => ?_, fun a h0 h1 => ?_⟩
  · rw [zfu_z (by omega)]
    (try dsimp only)
    by_cases e : a = x
    · rw [if_pos e, if_pos e, h.1 x hx.1 hx.2, e]
    · rw [if_neg e, if_neg e, h.1 a h0 h1]
  · rw [zfu_z (by omega)]
    (try dsimp only)
    by_cases e : a = y
    · rw [if_pos e, if_pos e, h.2 y hy.1 hy.2, e]
    · rw [if_neg e, if_neg e, h.2 a h0 h1]
section
variable {P : zP} {d : zD P} {F : Nat → Int}
theorem k_partPlace (h : CI d F) {w p j : Int} (h1 : 0 ≤ w) (h2 : w < 2) (h3 : 0 ≤ p) (h4 : p < prs F) (h7 : 0 ≤ j) (h8 : j < lng F p (1 - w)) : Ok (ro_partPlace d w p j) (fun _ d' => Fr 109 113 d d' ∧ d'.m 109 3 = lng F p w ∧ ∀ k, 0 ≤ k → k < lng F p w → d'.m 112 (zix k) = pt (lng F p w) (fun i => wth F w p i j) k) := by
  have l := h.wf.lng_ h3 h4 h1 h2
  have q := h.wf.prs_
  have hw := wth_ok h.wf h1 h2 h3 h4 h7 h8
  rw [ro_partPlace_e, pa_clear_e]
  simp (disch := omega) only [↓reduceIte, zinT, wr_id, wrl_id, ltT, ltF, leT, leF, eqT, eqF, ne_eq, not_true_eq_false, not_false_eq_true, Option.bind_some, Ok_some, bi_0, bi_n0, bi_01]
  refine lpD (fun k t => ro_partPlace_5 t w p j k) (fun k t => Fr 109 111 d t ∧ t.m 109 3 = k ∧ ∀ i, 0 ≤ i → i < k → t.m 110 (zix i) = wth F w p i j) 0 (lng F p w) (by omega) _ ⟨Fr.rf.up (by omega) (by omega), by rw [u_109_3]; rfl, fun i _ _ => by omega⟩ (fun t hi => ?_) (fun k t hk hk2 hi hnext => ?_)
  · have hc : CI t F := h.Fr hi.1 (by omega)
    (try dsimp only)
    rw [ro_partPlace_5_e]
    simp (disch := omega) only [↓reduceIte, zinT, wr_id, wrl_id, ltT, ltF, leT, leF, eqT, eqF, ne_eq, not_true_eq_false, not_false_eq_true, Option.bind_some, Ok_some, bi_0, bi_n0, bi_01, hc.ca.lng_]
    refine Ok_bind (k_deal hi.2.1 (by omega) (by omega) hi.2.2 hw) (fun v d' h' => ?_)
    refine Ok_ret ⟨(hi.1.mo (by omega) (by omega)).tr (h'.1.mo (by omega) (by omega)), ?_, h'.2⟩
    rw [h'.1 109 (by omega)]
    exact hi.2.1
  · have hc : CI t F := h.Fr hi.1 (by omega)
    (try dsimp only)
    rw [ro_partPlace_5_e]
    simp (disch := omega) only [↓reduceIte, zinT, wr_id, wrl_id, ltT, ltF, leT, leF, eqT, eqF, ne_eq, not_true_eq_false, not_false_eq_true, Option.bind_some, Ok_some, bi_0, bi_n0, bi_01, hc.ca.lng_, k_worth hc, k_weigh hi.2.1]
    refine hnext _ ?_
    refine ⟨(hi.1.up (by omega) (by omega)).up (by omega) (by omega), by rw [u_109_3]; rfl, ?_⟩
    rw [up_ne (by omega), u_110]
    exact zfu_next (g := fun i => wth F w p i j) hi.2.2 hk (by omega)
theorem k_addParts (h : CA d F) {w p j : Int} {t : (Int → Int) × (Int → Int)} (h1 : 0 ≤ w) (h2 : w < 2) (h3 : 0 ≤ p) (h4 : p < prs F) (h7 : 0 ≤ j) (h8 : j < lng F p (1 - w)) (hn : d.m 109 3 = lng F p w) (hg : ∀ k, 0 ≤ k → k < lng F p w → d.m 112 (zix k) = pt (lng F p w) (fun i => wth F w p i j) k) (ht : tM (d.m 113) (d.m 114) t) : Ok (ro_addParts d w p j) (fun _ d' => Fr 113 115 d d' ∧ tM (d'.m 113) (d'.m 114) (cnI F w p j (lng F p w) t)) := by
  have l := h.wf.lng_ h3 h4 h1 h2
  have q := h.wf.prs_
  have q1 := h.wf.wds_ h1 h2
  have q2 := h.wf.wds_ (s := 1 - w) (by omega) (by omega)
  have q4 := h.wf.wrd_ h3 h4 (s := 1 - w) (by omega) (by omega) h7 h8
  rw [ro_addParts_e]
  simp (disch := omega) only [↓reduceIte, zinT, wr_id, wrl_id, ltT, ltF, leT, leF, eqT, eqF, ne_eq, not_true_eq_false, not_false_eq_true, Option.bind_some, Ok_some, bi_0, bi_n0, bi_01, k_wordAt h]
  refine lpM (fun k e g => ro_addParts_11 e w p j (wrd F p (1 - w) j) k g) (fun k e _ => Fr 113 115 d e ∧ tM (e.m 113) (e.m 114) (cnI F w p j k t)) 0 (lng F p w) (by omega) d (3, 0) ⟨Fr.rf, ht⟩ (fun e g hi => ?_) (fun k e g hk hk2 hi hnext => ?_)
  · have hc : CA e F := h.Fr hi.1 (by omega)
    (try dsimp only at hi ⊢)
    rw [ro_addParts_11_e]
    simp (disch := omega) only [↓reduceIte, zinT, wr_id, wrl_id, ltT, ltF, leT, leF, eqT, eqF, ne_eq, not_true_eq_false, not_false_eq_true, Option.bind_some, Ok_some, bi_0, bi_n0, bi_01, hc.lng_]
    exact hi
  · (try dsimp only at hi ⊢)
    have hc : CA e F := h.Fr hi.1 (by omega)
    have hn' : e.m 109 3 = lng F p w := by rw [hi.1 109 (by omega)]; exact hn
    have hg' : e.m 112 (zix k) = pt (lng F p w) (fun i => wth F w p i j) k := by rw [hi.1 112 (by omega)]; exact hg k hk hk2
    have q3 := h.wf.wrd_ h3 h4 h1 h2 hk hk2
    have q5 := nrn_le h.wf h1 h2 h3 h4 hk hk2 h7 h8
    have hc2 : ∀ x v, CA (e.up 113 x v) F := fun x v => hc.up (by omega)
    rw [ro_addParts_11_e]
    simp (disch := omega) only [↓reduceIte, zinT, wr_id, wrl_id, ltT, ltF, leT, leF, eqT, eqF, ne_eq, not_true_eq_false, not_false_eq_true, Option.bind_some, Ok_some, bi_0, bi_n0, bi_01, hc.lng_, k_got hn', hg', k_wordAt hc, k_nearness (hc2 _ _)]
    refine hnext _ _ ?_
    refine ⟨(hi.1.up (by omega) (by omega)).up (by omega) (by omega), ?_⟩
    (try dsimp only)
    rw [up_ne (by omega), u_113, u_114, up_ne (by omega)]
    have e40 : wrd F p w k * 40 + wrd F p (1 - w) j = 40 * wrd F p w k + wrd F p (1 - w) j := by omega
    have := tM_up hi.2 (x := 40 * wrd F p w k + wrd F p (1 - w) j) (y := nrn F w p k j) (v := pt (lng F p w) (fun i => wth F w p i j) k) (by omega) (by omega)
    rw [e40]
    unfold cnI
    rw [fo_s _ _ hk]
    exact this
theorem k_countAll (h : CI d F) {w : Int} (h1 : 0 ≤ w) (h2 : w < 2) : Ok (ro_countAll d w) (fun _ d' => Fr 109 115 d d' ∧ tM (d'.m 113) (d'.m 114) (cnt F w)) := by
  have q := h.wf.prs_
  rw [ro_countAll_e]
  refine Ok_bind (k_fill (r := 113) (n := 1600) rfl rfl (by omega)) (fun v1 d1 f1 => ?_)
  refine Ok_bind (k_fill (r := 114) (n := 8) rfl rfl (by omega)) (fun v2 d2 f2 => ?_)
  (try dsimp only)
  have f3 : Fr 109 115 d d2 := (f1.1.mo (by omega) (by omega)).tr (f2.1.mo (by omega) (by omega))
  have t3 : tM (d2.m 113) (d2.m 114) (cnP F w 0) := by
    refine ⟨fun a h0 h1 => ?_, fun a h0 h1 => f2.2 a h0 h1⟩
    rw [f2.1 113 (by omega)]
    exact f1.2 a h0 h1
  refine lpM (fun k e g => ro_countAll_10 e w k g) (fun k e _ => Fr 109 115 d e ∧ tM (e.m 113) (e.m 114) (cnP F w k)) 0 (prs F) (by omega) d2 (3, 0) ⟨f3, t3⟩ (fun e g hi => ?_) (fun k e g hk hk2 hi hnext => ?_)
  · have hc : CI e F := h.Fr hi.1 (by omega)
    (try dsimp only at hi ⊢)
    rw [ro_countAll_10_e]
    simp (disch := omega) only [↓reduceIte, zinT, wr_id, wrl_id, ltT, ltF, leT, leF, eqT, eqF, ne_eq, not_true_eq_false, not_false_eq_true, Option.bind_some, Ok_some, bi_0, bi_n0, bi_01, hc.ca.prs_]
    exact hi
  · have hc : CI e F := h.Fr hi.1 (by omega)
    (try dsimp only at hi ⊢)
    have l := h.wf.lng_ hk hk2 (s := 1 - w) (by omega) (by omega)
    rw [ro_countAll_10_e]
    simp (disch := omega) only [↓reduceIte, zinT, wr_id, wrl_id, ltT, ltF, leT, leF, eqT, eqF, ne_eq, not_true_eq_false, not_false_eq_true, Option.bind_some, Ok_some, bi_0, bi_n0, bi_01, hc.ca.prs_]
    refine lpD (fun j e => ro_countAll_17 e w k j) (fun j e => Fr 109 115 d e ∧ tM (e.m 113) (e.m 114) (cnJ F w k j (cnP F w k))) 0 (lng F k (1 - w)) (by omega) e hi (fun e hi => ?_) (fun j e hj hj2 hi hnext2 => ?_)
    · have hc : CI e F := h.Fr hi.1 (by omega)
      (try dsimp only)
      rw [ro_countAll_17_e]
      simp (disch := omega) only [↓reduceIte, zinT, wr_id, wrl_id, ltT, ltF, leT, leF, eqT, eqF, ne_eq, not_true_eq_false, not_false_eq_true, Option.bind_some, Ok_some, bi_0, bi_n0, bi_01, hc.ca.lng_]
      refine hnext _ _ ?_
      refine ⟨hi.1, ?_⟩
      unfold cnP
      rw [fo_s _ _ hk]
      exact hi.2
    · have hc : CI e F := h.Fr hi.1 (by omega)
      (try dsimp only)
      rw [ro_countAll_17_e]
      simp (disch := omega) only [↓reduceIte, zinT, wr_id, wrl_id, ltT, ltF, leT, leF, eqT, eqF, ne_eq, not_true_eq_false, not_false_eq_true, Option.bind_some, Ok_some, bi_0, bi_n0, bi_01, hc.ca.lng_]
      refine Ok_bind (k_partPlace hc h1 h2 hk hk2 hj hj2) (fun v3 d3 f4 => ?_)
      have hc3 : CI d3 F := hc.Fr f4.1 (by omega)
      have t4 : tM (d3.m 113) (d3.m 114) (cnJ F w k j (cnP F w k)) := by rw [f4.1 113 (by omega), f4.1 114 (by omega)]; exact hi.2
      refine Ok_bind (k_addParts hc3.ca h1 h2 hk hk2 hj hj2 f4.2.1 f4.2.2 t4) (fun v5 d5 f5 => ?_)
      refine hnext2 _ ?_
      refine ⟨(hi.1.tr (f4.1.mo (by omega) (by omega))).tr (f5.1.mo (by omega) (by omega)), ?_⟩
      unfold cnJ
      rw [fo_s _ _ hj]
      exact f5.2
end
