/-! FIT AND SIDE, both sides. -/
def psI (F : Nat → Int) (w p i m : Int) : Int := sm m (fun j => plh F w p i j)
theorem psI_s {F : Nat → Int} {w p i m : Int} (h : 0 ≤ m) : psI F w p i (m + 1) = psI F w p i m + plh F w p i m := sm_s _ h
def ptN (F : Nat → Int) (w p n : Int) : Int := sm n (fun i => psI F w p i (lng F p (1 - w)))
theorem ptN_s {F : Nat → Int} {w p n : Int} (h : 0 ≤ n) : ptN F w p (n + 1) = ptN F w p n + psI F w p n (lng F p (1 - w)) := sm_s _ h
def fiF (F : Nat → Int) (w n : Int) : Int := sm n (fun p => ptN F w p (lng F p w))
theorem fiF_s {F : Nat → Int} {w n : Int} (h : 0 ≤ n) : fiF F w (n + 1) = fiF F w n + ptN F w n (lng F n w) := sm_s _ h
def siF (F : Nat → Int) (w n : Int) : Int := sm n (fun p => lng F p w)
theorem siF_s {F : Nat → Int} {w n : Int} (h : 0 ≤ n) : siF F w (n + 1) = siF F w n + lng F n w := sm_s _ h
section
variable {P : zP} {d t : zD P} {F G : Nat → Int} {B : Int → Int} {T : Int}
theorem k_pairShares (h : CI d F) {w p : Int} (w0 : 0 ≤ w) (w1 : w < 2) (p0 : 0 ≤ p) (p1 : p < prs F) : st_pairShares d w p = some (ptN F w p (lng F p w), d) := by
  have hw := h.wf
  have p24 := hw.prs_
  have l0 := hw.lng_ p0 p1 w0 w1
  have l1 := hw.lng_ p0 p1 (s := 1 - w) (by omega) (by omega)
  have y2 : zin w 2 := of_eq_true (zinT (by omega))
  have y2' : zin (1 - w) 2 := of_eq_true (zinT (by omega))
  have y24 : zin p 24 := of_eq_true (zinT (by omega))
  have c0 := h.ca.lng_ w0 w1 p0 p1
  have c1 := h.ca.lng_ (s := 1 - w) (by omega) (by omega) p0 p1
  refine Ok_eq ?_
  rw [st_pairShares_e]
  refine lpM (fun i s (y : Int × zV × zV) => st_pairShares_4 s w p y.1 y.2.1 i y.2.2) (fun i s y => s = d ∧ y.1 = ptN F w p i) 0 (lng F p w) (by omega) d (0, (3, 0), (3, 0)) ⟨rfl, rfl⟩ (fun s y hi => ?_) (fun i s y i0 i1 hi hnext => ?_)
  · obtain ⟨rfl, i2⟩ := hi
    (try dsimp only)
    rw [st_pairShares_4_e, if_pos y2, if_pos y24, c0, if_pos (by omega)]
    exact Ok_ret ⟨i2, rfl⟩
  · obtain ⟨rfl, i2⟩ := hi
    (try dsimp only)
    rw [st_pairShares_4_e, if_pos y2, if_pos y24, c0, if_neg (by rw [wr_id (by omega), wr_id (by omega)]; omega)]
    refine lpM (fun j s' (z : Int × zV) => st_pairShares_15 s' w p z.1 z.2 i j) (fun j s' z => s' = s ∧ z.1 = ptN F w p i + psI F w p i j) 0 (lng F p (1 - w)) (by omega) s (y.1, y.2.1) ⟨rfl, by rw [← i2]; exact (Int.add_zero _).symm⟩ (fun s' z hj => ?_) (fun j s' z j0 j1 hj hn => ?_)
    · obtain ⟨rfl, j2⟩ := hj
      (try dsimp only)
      rw [st_pairShares_15_e, if_pos y2', if_pos y24, c1, if_pos (by omega)]
      exact hnext _ (z.1, _, (0, lng F p (1 - w))) ⟨rfl, by rw [ptN_s i0]; exact j2⟩
    · obtain ⟨rfl, j2⟩ := hj
      have b := hw.shf_ (w := w) (k := 0) w0 w1 (by omega) (by omega)
      have r : -1 ≤ plh F w p i j ∧ plh F w p i j ≤ 2000000000 := by
        have u := hw.wrd_ p0 p1 w0 w1 i0 i1
        have v := hw.wrd_ p0 p1 (s := 1 - w) (by omega) (by omega) j0 j1
        have wu := hw.wds_ w0 w1
        have wv := hw.wds_ (s := 1 - w) (by omega) (by omega)
        have q := hw.shf_ (w := w) (k := wrd F p w i * 40 + wrd F p (1 - w) j) w0 w1 (by omega) (by omega)
        rw [shf_shr] at q
        unfold plh
        omega
      (try dsimp only)
      rw [st_pairShares_15_e, if_pos y2', if_pos y24, c1, if_neg (by rw [wr_id (by omega), wr_id (by omega)]; omega), k_placeShare h w0 w1 p0 p1 i0 i1 j0 j1, Option.bind_some]
      (try dsimp only)
      rw [wr_id (by omega)]
      refine hn _ (z.1 + plh F w p i j, (3, 0)) ⟨rfl, ?_⟩
      rw [psI_s j0, ← Int.add_assoc, ← j2]
theorem n_fitOf (hF : d.m 133 = F) (hw : WF F) {w p : Int} (w0 : 0 ≤ w) (w1 : w < 2) (p0 : 0 ≤ p) (p1 : p < prs F) : m_fitOf d w p = some (ptN F w p (lng F p w), d) := by
  have p24 := hw.prs_
  have l0 := hw.lng_ p0 p1 w0 w1
  have l1 := hw.lng_ p0 p1 (s := 1 - w) (by omega) (by omega)
  refine Ok_eq ?_
  rw [m_fitOf_e]
  refine lpM (fun i s (y : Int × zV × zV) => m_fitOf_4 s w p y.1 y.2.1 i y.2.2) (fun i s y => s = d ∧ y.1 = ptN F w p i) 0 (lng F p w) (by omega) d (0, (3, 0), (3, 0)) ⟨rfl, rfl⟩ (fun s y hi => ?_) (fun i s y i0 i1 hi hnext => ?_)
  · obtain ⟨rfl, i2⟩ := hi
    (try dsimp only)
    rw [m_fitOf_4_e, n_longOf hF p0 (by omega) w0 w1, Option.bind_some]
    (try dsimp only)
    rw [if_pos (by omega)]
    exact Ok_ret ⟨i2, rfl⟩
  · obtain ⟨rfl, i2⟩ := hi
    (try dsimp only)
    rw [m_fitOf_4_e, n_longOf hF p0 (by omega) w0 w1, Option.bind_some]
    (try dsimp only)
    rw [if_neg (by rw [wr_id (by omega), wr_id (by omega)]; omega)]
    refine lpM (fun j s' (z : Int × zV) => m_fitOf_12 s' w p z.1 z.2 i j) (fun j s' z => s' = s ∧ z.1 = ptN F w p i + psI F w p i j) 0 (lng F p (1 - w)) (by omega) s (y.1, y.2.1) ⟨rfl, by rw [← i2]; exact (Int.add_zero _).symm⟩ (fun s' z hj => ?_) (fun j s' z j0 j1 hj hn => ?_)
    · obtain ⟨rfl, j2⟩ := hj
      (try dsimp only)
      rw [m_fitOf_12_e, n_longOf hF p0 (by omega) (by omega) (by omega), Option.bind_some]
      (try dsimp only)
      rw [if_pos (by omega)]
      exact hnext _ (z.1, _, (0, lng F p (1 - w))) ⟨rfl, by rw [ptN_s i0]; exact j2⟩
    · obtain ⟨rfl, j2⟩ := hj
      have u := hw.wrd_ p0 p1 w0 w1 i0 i1
      have v := hw.wrd_ p0 p1 (s := 1 - w) (by omega) (by omega) j0 j1
      have wu := hw.wds_ w0 w1
      have wv := hw.wds_ (s := 1 - w) (by omega) (by omega)
      have r : -1 ≤ plh F w p i j ∧ plh F w p i j ≤ 2000000000 := by
        have q := hw.shf_ (w := w) (k := wrd F p w i * 40 + wrd F p (1 - w) j) w0 w1 (by omega) (by omega)
        rw [shf_shr] at q
        unfold plh
        omega
      (try dsimp only)
      rw [m_fitOf_12_e, n_longOf hF p0 (by omega) (by omega) (by omega), Option.bind_some]
      (try dsimp only)
      rw [if_neg (by rw [wr_id (by omega), wr_id (by omega)]; omega), n_wordOf hF p0 (by omega) w0 w1 i0 (by omega), Option.bind_some]
      (try dsimp only)
      rw [n_wordOf hF p0 (by omega) (by omega) (by omega) j0 (by omega), Option.bind_some]
      (try dsimp only)
      rw [n_shareOf hF w0 w1 (by omega) (by omega) (by omega) (by omega), Option.bind_some]
      (try dsimp only)
      have eq : shr F w (wrd F p w i) (wrd F p (1 - w) j) = plh F w p i j := rfl
      rw [eq, wr_id (by omega)]
      refine hn _ (z.1 + plh F w p i j, (3, 0)) ⟨rfl, ?_⟩
      rw [psI_s j0, ← Int.add_assoc, ← j2]
theorem b_fit (h : INV d F B T) {a p : Int} (ha : I32 a) (hp : I32 p) : BO d (fun d => wl_fit d a p) (fun d => m_fit d a p) := by
  have hp' := hp
  unfold I32 at hp'
  have p24 := h.wf.prs_
  by_cases c1 : 0 ≤ a ∧ a ≤ 1
  · by_cases c2 : p = -1
    · refine BO_a (fiF F a (prs F)) h ?_ (fun s hs => ?_)
      · (try dsimp only)
        rw [wl_fit_e, kw_isSide ha, bi_t c1, Option.bind_some]
        (try dsimp only)
        rw [if_neg oz1, if_pos (by rw [c2]), if_pos (by rw [c2])]
        refine Ok_mono (lpM (Q := fun v s => v = fiF F a (prs F) ∧ s = d) (fun q s (y : Int × zV × zV) => wl_fit_25 s a y.2.1 y.1 y.2.2 q) (fun q s y => s = d ∧ y.1 = fiF F a q) 0 (prs F) (by omega) d (0, (0, p), (3, 0)) ⟨rfl, rfl⟩ (fun s y hi => ?_) (fun q s y q0 q1 hi hnext => ?_)) (fun v s hv => ⟨hv.1, by rw [hv.2]; exact qF.rf⟩)
        · obtain ⟨rfl, i2⟩ := hi
          (try dsimp only)
          rw [wl_fit_25_e, h.ci.ca.prs_, if_pos (by omega)]
          exact Ok_ret ⟨i2, rfl⟩
        · obtain ⟨rfl, i2⟩ := hi
          (try dsimp only)
          rw [wl_fit_25_e, h.ci.ca.prs_, if_neg (by rw [wr_id (by omega), wr_id (by omega)]; omega), k_pairShares h.ci c1.1 (by omega) q0 q1, Option.bind_some]
          exact hnext _ (_, _, _) ⟨rfl, by rw [fiF_s q0, ← i2]⟩
      · (try dsimp only)
        rw [m_fit_e, n_isSide ha, bi_t c1, Option.bind_some]
        (try dsimp only)
        rw [if_neg oz1, if_pos (by rw [c2]), if_pos (by rw [c2])]
        have y0 : zin 0 18180 := of_eq_true (zinT (by omega))
        have e0 : F (zix 0) = prs F := rfl
        refine Ok_mono (lpM (Q := fun v s' => v = fiF F a (prs F) ∧ s' = s) (fun q s (y : Int × zV × zV) => m_fit_24 s a y.2.1 y.1 y.2.2 q) (fun q s' y => s' = s ∧ y.1 = fiF F a q) 0 (prs F) (by omega) s (0, (0, p), (3, 0)) ⟨rfl, rfl⟩ (fun s' y hi => ?_) (fun q s' y q0 q1 hi hnext => ?_)) (fun v s' hv => ⟨hv.1, by rw [hv.2]; exact rF.rf⟩)
        · obtain ⟨rfl, i2⟩ := hi
          (try dsimp only)
          rw [m_fit_24_e, if_pos y0, hs.f, e0, if_pos (by omega)]
          exact Ok_ret ⟨i2, rfl⟩
        · obtain ⟨rfl, i2⟩ := hi
          (try dsimp only)
          rw [m_fit_24_e, if_pos y0, hs.f, e0, if_neg (by rw [wr_id (by omega), wr_id (by omega)]; omega), n_fitOf hs.f hs.wf c1.1 (by omega) q0 q1, Option.bind_some]
          exact hnext _ (_, _, _) ⟨rfl, by rw [fiF_s q0, ← i2]⟩
    · by_cases c3 : 0 ≤ p ∧ p < prs F
      · refine BO_a (ptN F a p (lng F p a)) h ?_ (fun s hs => ?_)
        · (try dsimp only)
          rw [wl_fit_e, kw_isSide ha, bi_t c1, Option.bind_some]
          (try dsimp only)
          rw [if_neg oz1, if_neg (by rw [wr_id (by omega), wr_id (by omega)]; exact c2), kc_pair h.ci.ca hp, bi_t c3, Option.bind_some]
          (try dsimp only)
          rw [if_pos oz1, if_neg (by rw [wr_id (by omega), wr_id (by omega)]; exact c2), k_pairShares h.ci c1.1 (by omega) c3.1 c3.2, Option.bind_some]
          exact Ok_ret ⟨rfl, qF.rf⟩
        · (try dsimp only)
          rw [m_fit_e, n_isSide ha, bi_t c1, Option.bind_some]
          (try dsimp only)
          rw [if_neg oz1, if_neg (by rw [wr_id (by omega), wr_id (by omega)]; exact c2), n_isPair hs.f hs.wf hp, bi_t c3, Option.bind_some]
          (try dsimp only)
          rw [if_pos oz1, if_neg (by rw [wr_id (by omega), wr_id (by omega)]; exact c2), n_fitOf hs.f hs.wf c1.1 (by omega) c3.1 c3.2, Option.bind_some]
          exact Ok_ret ⟨rfl, rF.rf⟩
      · refine BO_a (-2) h ?_ (fun s hs => ?_)
        · (try dsimp only)
          rw [wl_fit_e, kw_isSide ha, bi_t c1, Option.bind_some]
          (try dsimp only)
          rw [if_neg oz1, if_neg (by rw [wr_id (by omega), wr_id (by omega)]; exact c2), kc_pair h.ci.ca hp, bi_f c3, Option.bind_some]
          (try dsimp only)
          rw [if_neg (fun x => x zz0)]
          exact Ok_ret ⟨rfl, qF.rf⟩
        · (try dsimp only)
          rw [m_fit_e, n_isSide ha, bi_t c1, Option.bind_some]
          (try dsimp only)
          rw [if_neg oz1, if_neg (by rw [wr_id (by omega), wr_id (by omega)]; exact c2), n_isPair hs.f hs.wf hp, bi_f c3, Option.bind_some]
          (try dsimp only)
          rw [if_neg (fun x => x zz0)]
          exact Ok_ret ⟨rfl, rF.rf⟩
  · refine BO_a (-2) h ?_ (fun s hs => ?_)
    · (try dsimp only)
      rw [wl_fit_e, kw_isSide ha, bi_f c1, Option.bind_some]
      (try dsimp only)
      rw [if_pos zz0]
      exact Ok_ret ⟨rfl, qF.rf⟩
    · (try dsimp only)
      rw [m_fit_e, n_isSide ha, bi_f c1, Option.bind_some]
      (try dsimp only)
      rw [if_pos zz0]
      exact Ok_ret ⟨rfl, rF.rf⟩
theorem b_side (h : INV d F B T) {a b : Int} (ha : I32 a) (hb : I32 b) : BO d (fun d => wl_side d a b) (fun d => m_side d a b) := by
  have hb' := hb
  unfold I32 at hb'
  have hw := h.wf
  have p24 := hw.prs_
  by_cases c1 : 0 ≤ a ∧ a ≤ 1
  · have y2 : zin a 2 := of_eq_true (zinT (by omega))
    by_cases c2 : 0 ≤ b ∧ b ≤ 1
    · by_cases c3 : b = 0
      · refine BO_a (wds F a) h ?_ (fun s hs => ?_)
        · (try dsimp only)
          rw [wl_side_e, kw_isSide ha, bi_t c1, Option.bind_some]
          (try dsimp only)
          rw [if_neg oz1, if_neg (by rw [wr_id (by omega)]; omega), if_pos (by rw [wr_id (by omega), wr_id (by omega)]; omega), if_neg (by rw [c3]; exact fun x => x zz0), if_pos y2, h.ci.ca.wds_ c1.1 (by omega)]
          exact Ok_ret ⟨rfl, qF.rf⟩
        · (try dsimp only)
          rw [m_side_e, n_isSide ha, bi_t c1, Option.bind_some]
          (try dsimp only)
          rw [if_neg oz1, n_in (by unfold I32; omega), bi_t c2, Option.bind_some]
          (try dsimp only)
          rw [if_pos oz1, if_neg (by rw [c3]; exact fun x => x zz0), n_words hs.f c1.1 (by omega), Option.bind_some]
          exact Ok_ret ⟨rfl, rF.rf⟩
      · refine BO_a (siF F a (prs F)) h ?_ (fun s hs => ?_)
        · (try dsimp only)
          rw [wl_side_e, kw_isSide ha, bi_t c1, Option.bind_some]
          (try dsimp only)
          rw [if_neg oz1, if_neg (by rw [wr_id (by omega)]; omega), if_pos (by rw [wr_id (by omega), wr_id (by omega)]; omega), if_pos (by rw [wr_id (by omega)]; exact c3), co_allPlaces_e]
          have e : co_allPlaces_4 d a 0 0 = co_allPlaces_4 d a (siF F a (prs F)) (prs F) := lpS (fun k x => co_allPlaces_4 d a x k) (fun p => lng F p a) (prs F) p24.1 (fun k x k0 k1 _ => by
            (try dsimp only)
            rw [co_allPlaces_4_e, h.ci.ca.prs_, if_neg (by rw [wr_id (by omega), wr_id (by omega)]; omega), if_pos y2, if_pos (of_eq_true (zinT (by omega))), h.ci.ca.lng_ c1.1 (by omega) k0 k1])
          rw [e, co_allPlaces_4_e, h.ci.ca.prs_, if_pos (by omega), Option.bind_some]
          exact Ok_ret ⟨rfl, qF.rf⟩
        · (try dsimp only)
          rw [m_side_e, n_isSide ha, bi_t c1, Option.bind_some]
          (try dsimp only)
          rw [if_neg oz1, n_in (by unfold I32; omega), bi_t c2, Option.bind_some]
          (try dsimp only)
          rw [if_pos oz1, if_pos (by rw [wr_id (by omega)]; exact c3)]
          have y0 : zin 0 18180 := of_eq_true (zinT (by omega))
          have e0 : F (zix 0) = prs F := rfl
          refine Ok_mono (lpM (Q := fun v s' => v = siF F a (prs F) ∧ s' = s) (fun q s (y : Int × zV) => m_side_20 s a y.2 y.1 q) (fun q s' y => s' = s ∧ y.1 = siF F a q) 0 (prs F) (by omega) s (0, (0, b)) ⟨rfl, rfl⟩ (fun s' y hi => ?_) (fun q s' y q0 q1 hi hnext => ?_)) (fun v s' hv => ⟨hv.1, by rw [hv.2]; exact rF.rf⟩)
          · obtain ⟨rfl, i2⟩ := hi
            (try dsimp only)
            rw [m_side_20_e, if_pos y0, hs.f, e0, if_pos (by omega)]
            exact Ok_ret ⟨i2, rfl⟩
          · obtain ⟨rfl, i2⟩ := hi
            (try dsimp only)
            rw [m_side_20_e, if_pos y0, hs.f, e0, if_neg (by rw [wr_id (by omega), wr_id (by omega)]; omega), n_longOf hs.f q0 (by omega) c1.1 (by omega), Option.bind_some]
            exact hnext _ (_, _) ⟨rfl, by rw [siF_s q0, ← i2]⟩
    · refine BO_a (-1) h ?_ (fun s hs => ?_)
      · (try dsimp only)
        rw [wl_side_e, kw_isSide ha, bi_t c1, Option.bind_some]
        (try dsimp only)
        rw [if_neg oz1]
        by_cases e : b < 0
        · rw [if_pos (by rw [wr_id (by omega)]; exact e)]
          exact Ok_ret ⟨rfl, qF.rf⟩
        · rw [if_neg (by rw [wr_id (by omega)]; exact e), if_neg (by rw [wr_id (by omega), wr_id (by omega)]; omega)]
          exact Ok_ret ⟨rfl, qF.rf⟩
      · (try dsimp only)
        rw [m_side_e, n_isSide ha, bi_t c1, Option.bind_some]
        (try dsimp only)
        rw [if_neg oz1, n_in (by unfold I32; omega), bi_f c2, Option.bind_some]
        (try dsimp only)
        rw [if_neg (fun x => x zz0)]
        exact Ok_ret ⟨rfl, rF.rf⟩
  · refine BO_a (-1) h ?_ (fun s hs => ?_)
    · (try dsimp only)
      rw [wl_side_e, kw_isSide ha, bi_f c1, Option.bind_some]
      (try dsimp only)
      rw [if_pos zz0]
      exact Ok_ret ⟨rfl, qF.rf⟩
    · (try dsimp only)
      rw [m_side_e, n_isSide ha, bi_f c1, Option.bind_some]
      (try dsimp only)
      rw [if_pos zz0]
      exact Ok_ret ⟨rfl, rF.rf⟩
end
