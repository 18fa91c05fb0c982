/-! WHAT A WORD BRINGS, both sides. -/
theorem kof_lt {n m : Int} {g h : Int → Int} (a : gOK n g) (b : gOK m h) {k : Int} (k0 : 0 ≤ k) (k1 : k < 7) (e : ∀ j, 0 ≤ j → j < k → cg n g j = cg m h j) (l : cg n g k < cg m h k) : kof n g < kof m h := by
  have a0 := cg_le a (k := 0) (by omega)
  have a1 := cg_le a (k := 1) (by omega)
  have a2 := cg_le a (k := 2) (by omega)
  have a3 := cg_le a (k := 3) (by omega)
  have a4 := cg_le a (k := 4) (by omega)
  have a5 := cg_le a (k := 5) (by omega)
  have a6 := cg_le a (k := 6) (by omega)
  have b0 := cg_le b (k := 0) (by omega)
  have b1 := cg_le b (k := 1) (by omega)
  have b2 := cg_le b (k := 2) (by omega)
  have b3 := cg_le b (k := 3) (by omega)
  have b4 := cg_le b (k := 4) (by omega)
  have b5 := cg_le b (k := 5) (by omega)
  have b6 := cg_le b (k := 6) (by omega)
  rw [kof_h a, kof_h b]
  rcases (by omega : k = 0 ∨ k = 1 ∨ k = 2 ∨ k = 3 ∨ k = 4 ∨ k = 5 ∨ k = 6) with rfl | rfl | rfl | rfl | rfl | rfl | rfl
  · omega
  · have := e 0 (by omega) (by omega); omega
  · have := e 0 (by omega) (by omega); have := e 1 (by omega) (by omega); omega
  · have := e 0 (by omega) (by omega); have := e 1 (by omega) (by omega); have := e 2 (by omega) (by omega); omega
  · have := e 0 (by omega) (by omega); have := e 1 (by omega) (by omega); have := e 2 (by omega) (by omega); have := e 3 (by omega) (by omega); omega
  · have := e 0 (by omega) (by omega); have := e 1 (by omega) (by omega); have := e 2 (by omega) (by omega); have := e 3 (by omega) (by omega); have := e 4 (by omega) (by omega); omega
  · have := e 0 (by omega) (by omega); have := e 1 (by omega) (by omega); have := e 2 (by omega) (by omega); have := e 3 (by omega) (by omega); have := e 4 (by omega) (by omega); have := e 5 (by omega) (by omega); omega
theorem cg_pos {n : Int} {g : Int → Int} (a : gOK n g) {k : Int} (k0 : 0 ≤ k) (k1 : k < n) : cg n g k = g k - 96 ∧ 1 ≤ cg n g k := by
  have := a.2 k k0 k1
  have e : cg n g k = g k - 96 := by
    unfold cg
    rw [if_pos k1]
  omega
theorem cg_z {n : Int} {g : Int → Int} {k : Int} (k1 : n ≤ k) : cg n g k = 0 := by
  unfold cg
  rw [if_neg (by omega)]
/-- how often a word stands -/
def plN (F : Nat → Int) (s u : Int) : Int := sm (prs F) (fun p => sm (lng F p s) (fun i => if wrd F p s i = u then 1 else 0))
/-- its partners; those of no share -/
def ptC (F : Nat → Int) (w u : Int) : Int := sm (wds F (1 - w)) (fun v => bi (ptn F w u v))
def emC (F : Nat → Int) (w u : Int) : Int := sm (wds F (1 - w)) (fun v => if shr F w u v = 0 then 1 else 0)
/-- words before it -/
def dcN (F : Nat → Int) (s u : Int) : Int := sm (wds F s) (fun v => bi (decide (key F s v < key F s u)))
theorem ptF_f {F : Nat → Int} {w u v : Int} (e : shr F w u v = -1) : ptn F w u v = false := by
  unfold ptn
  rw [decide_eq_true e]
  rfl
theorem ptF_t {F : Nat → Int} {w u v : Int} (e : ¬ shr F w u v = -1) : ptn F w u v = true := by
  unfold ptn
  rw [decide_eq_false e]
  rfl
theorem rnk_0 {F : Nat → Int} (hw : WF F) (ho : ORX F) {w u : Int} (w0 : 0 ≤ w) (w1 : w < 2) (u0 : 0 ≤ u) (u1 : u < wds F w) : 0 ≤ rnkF F w u 0 ∧ rnkF F w u 0 < wds F (1 - w) := by
  have wv := hw.wds_ (s := 1 - w) (by omega) (by omega)
  obtain ⟨p, i, hp, hi, hu⟩ := (ho.1 w w0 w1).1 u u0 u1
  have l1 := hw.lng_ hp.1 hp.2 (s := 1 - w) (by omega) (by omega)
  have v := hw.wrd_ hp.1 hp.2 (s := 1 - w) (by omega) (by omega) (i := 0) (by omega) (by omega)
  have ge : 0 ≤ shr F w u (wrd F p (1 - w) 0) := by
    rw [← hu]
    exact hw.ptn_ w0 w1 hp.1 hp.2 hi.1 hi.2 (by omega) (by omega)
  have best : ∀ n : Nat, (n : Int) ≤ wds F (1 - w) → (∀ v : Int, 0 ≤ v → v < n → ptn F w u v = false) ∨ ∃ v : Int, 0 ≤ v ∧ v < n ∧ ptn F w u v = true ∧ ∀ o : Int, 0 ≤ o → o < n → ptn F w u o = true → (shr F w u o < shr F w u v ∨ (shr F w u o = shr F w u v ∧ v ≤ o)) := by
    intro n
    induction n with
    | zero => intro _; exact Or.inl (fun v a b => by omega)
    | succ n ih =>
      intro hn
      cases hpn : ptn F w u n with
      | false =>
        rcases ih (by omega) with h | ⟨v, a0, a1, a2, a3⟩
        · refine Or.inl (fun v a b => ?_)
          by_cases e : v = n
          · rw [e]; exact hpn
          · exact h v a (by omega)
        · refine Or.inr ⟨v, a0, by omega, a2, fun o b0 b1 b2 => ?_⟩
          by_cases e : o = n
          · rw [e, hpn] at b2; exact absurd b2 (by decide)
          · exact a3 o b0 (by omega) b2
      | true =>
        rcases ih (by omega) with h | ⟨v, a0, a1, a2, a3⟩
        · refine Or.inr ⟨n, by omega, by omega, hpn, fun o b0 b1 b2 => ?_⟩
          by_cases e : o = n
          · rw [e]; exact Or.inr ⟨rfl, Int.le_refl _⟩
          · have := h o b0 (by omega)
            rw [this] at b2
            exact absurd b2 (by decide)
        · by_cases c : shr F w u v < shr F w u n
          · refine Or.inr ⟨n, by omega, by omega, hpn, fun o b0 b1 b2 => ?_⟩
            by_cases e : o = n
            · rw [e]; exact Or.inr ⟨rfl, Int.le_refl _⟩
            · have := a3 o b0 (by omega) b2
              exact Or.inl (by omega)
          · refine Or.inr ⟨v, a0, by omega, a2, fun o b0 b1 b2 => ?_⟩
            by_cases e : o = n
            · rw [e]; omega
            · exact a3 o b0 (by omega) b2
  rcases best (wds F (1 - w)).toNat (by omega) with h | ⟨v, a0, a1, a2, a3⟩
  · have := h (wrd F p (1 - w) 0) v.1 (by omega)
    rw [ptF_t (by omega)] at this
    exact absurd this (by decide)
  · have z : ahd F w u v = 0 := by
      unfold ahd
      rw [sm_skip (k := 0) (by omega) wv.1 (fun o o0 o1 => ?_), sm_z]
      (try dsimp only)
      cases hpo : ptn F w u o with
      | false => rfl
      | true =>
        have := a3 o o0 (by omega) hpo
        rw [decide_eq_false (by omega)]
        by_cases e : shr F w u o = shr F w u v
        · rw [decide_eq_true e, decide_eq_false (by omega)]
          rfl
        · rw [decide_eq_false e]
          rfl
    rcases rnk_le (F := F) (w := w) (u := u) (k := 0) wv.1 with e | e
    · have b := first_before (p := fun v => ptn F w u v && decide (ahd F w u v = 0)) a0 (show v < wds F (1 - w) by omega) (Or.inr e)
      (try dsimp only at b)
      rw [a2, z] at b
      exact absurd b (by decide)
    · exact ⟨e.1, e.2.1⟩
section
variable {P : zP} {d t : zD P} {F G : Nat → Int} {B : Int → Int} {T : Int}
theorem k_placesOf (h : CA d F) {s u : Int} (s0 : 0 ≤ s) (s1 : s < 2) (u0 : 0 ≤ u) (u1 : u < 40) : co_placesOf d s u = some (plN F s u, d) := by
  have hw := h.wf
  have p24 := hw.prs_
  have y2 : zin s 2 := of_eq_true (zinT (by omega))
  refine Ok_eq ?_
  rw [co_placesOf_e]
  refine lpM (fun p t (y : Int × zV) => co_placesOf_4 t s u y.1 p y.2) (fun p t y => t = d ∧ y.1 = sm p (fun p => sm (lng F p s) (fun i => if wrd F p s i = u then 1 else 0))) 0 (prs F) p24.1 d (0, (3, 0)) ⟨rfl, rfl⟩ (fun t y hi => ?_) (fun p t y p0 p1 hi hnext => ?_)
  · obtain ⟨rfl, i2⟩ := hi
    (try dsimp only)
    rw [co_placesOf_4_e, h.prs_, if_pos (by omega)]
    exact Ok_ret ⟨i2, rfl⟩
  · obtain ⟨rfl, i2⟩ := hi
    have l := hw.lng_ p0 p1 s0 s1
    have y24 : zin p 24 := of_eq_true (zinT (by omega))
    (try dsimp only)
    rw [co_placesOf_4_e, h.prs_, if_neg (by rw [wr_id (by omega), wr_id (by omega)]; omega)]
    refine lpM (fun i t' (z : Int) => co_placesOf_10 t' s u z p i) (fun i t' z => t' = t ∧ z = y.1 + sm i (fun i => if wrd F p s i = u then 1 else 0)) 0 (lng F p s) (by omega) t y.1 ⟨rfl, (Int.add_zero _).symm⟩ (fun t' z hj => ?_) (fun i t' z i0 i1 hj hn => ?_)
    · obtain ⟨rfl, j2⟩ := hj
      (try dsimp only)
      rw [co_placesOf_10_e, if_pos y2, if_pos y24, h.lng_ s0 s1 p0 p1, if_pos (by omega)]
      exact hnext _ (z, _) ⟨rfl, by rw [sm_s _ p0]; (try dsimp only); rw [j2, i2]⟩
    · obtain ⟨rfl, j2⟩ := hj
      have w := hw.wrd_ p0 p1 s0 s1 i0 i1
      have ww := hw.wds_ s0 s1
      (try dsimp only)
      rw [co_placesOf_10_e, if_pos y2, if_pos y24, h.lng_ s0 s1 p0 p1, if_neg (by rw [wr_id (by omega), wr_id (by omega)]; omega), k_wordAt h s0 s1 p0 p1 i0 i1, Option.bind_some]
      (try dsimp only)
      by_cases e : wrd F p s i = u
      · rw [if_neg (by rw [e]; exact fun x => x rfl)]
        exact hn _ _ ⟨rfl, by rw [sm_s _ i0]; (try dsimp only); rw [if_pos e, j2]; omega⟩
      · rw [if_pos (by rw [wr_id (by omega), wr_id (by omega)]; exact e)]
        exact hn _ _ ⟨rfl, by rw [sm_s _ i0]; (try dsimp only); rw [if_neg e, j2]; omega⟩
theorem n_standsIn (hF : d.m 133 = F) (hw : WF F) {s u : Int} (s0 : 0 ≤ s) (s1 : s < 2) (u0 : 0 ≤ u) (u1 : u < 40) : m_standsIn d s u = some (plN F s u, d) := by
  have p24 := hw.prs_
  have y0 : zin 0 18180 := of_eq_true (zinT (by omega))
  have e0 : F (zix 0) = prs F := rfl
  refine Ok_eq ?_
  rw [m_standsIn_e]
  refine lpM (fun p t (y : Int × zV) => m_standsIn_4 t s u y.1 p y.2) (fun p t y => t = d ∧ y.1 = sm p (fun p => sm (lng F p s) (fun i => if wrd F p s i = u then 1 else 0))) 0 (prs F) p24.1 d (0, (3, 0)) ⟨rfl, rfl⟩ (fun t y hi => ?_) (fun p t y p0 p1 hi hnext => ?_)
  · obtain ⟨rfl, i2⟩ := hi
    (try dsimp only)
    rw [m_standsIn_4_e, if_pos y0, hF, e0, if_pos (by omega)]
    exact Ok_ret ⟨i2, rfl⟩
  · obtain ⟨rfl, i2⟩ := hi
    have l := hw.lng_ p0 p1 s0 s1
    (try dsimp only)
    rw [m_standsIn_4_e, if_pos y0, hF, e0, if_neg (by rw [wr_id (by omega), wr_id (by omega)]; omega)]
    refine lpM (fun i t' (z : Int) => m_standsIn_12 t' s u z p i) (fun i t' z => t' = t ∧ z = y.1 + sm i (fun i => if wrd F p s i = u then 1 else 0)) 0 (lng F p s) (by omega) t y.1 ⟨rfl, (Int.add_zero _).symm⟩ (fun t' z hj => ?_) (fun i t' z i0 i1 hj hn => ?_)
    · obtain ⟨rfl, j2⟩ := hj
      (try dsimp only)
      rw [m_standsIn_12_e, n_longOf hF p0 (by omega) s0 s1, Option.bind_some]
      (try dsimp only)
      rw [if_pos (by omega)]
      exact hnext _ (z, _) ⟨rfl, by rw [sm_s _ p0]; (try dsimp only); rw [j2, i2]⟩
    · obtain ⟨rfl, j2⟩ := hj
      have w := hw.wrd_ p0 p1 s0 s1 i0 i1
      have ww := hw.wds_ s0 s1
      (try dsimp only)
      rw [m_standsIn_12_e, n_longOf hF p0 (by omega) s0 s1, Option.bind_some]
      (try dsimp only)
      rw [if_neg (by rw [wr_id (by omega), wr_id (by omega)]; omega), n_wordOf hF p0 (by omega) s0 s1 i0 (by omega), Option.bind_some]
      (try dsimp only)
      by_cases e : wrd F p s i = u
      · rw [if_neg (by rw [e]; exact fun x => x rfl)]
        exact hn _ _ ⟨rfl, by rw [sm_s _ i0]; (try dsimp only); rw [if_pos e, j2]; omega⟩
      · rw [if_pos (by rw [wr_id (by omega), wr_id (by omega)]; exact e)]
        exact hn _ _ ⟨rfl, by rw [sm_s _ i0]; (try dsimp only); rw [if_neg e, j2]; omega⟩
theorem k_partnersMany (h : CA d F) (ho : ORX F) {w u : Int} (w0 : 0 ≤ w) (w1 : w < 2) (u0 : 0 ≤ u) (u1 : u < 40) : bcL_bitCount d (d.m (19 + (1 + zix w)) (zix u)) = some (ptC F w u, d) := by
  have hw := h.wf
  have bt := h.bits w0 w1 u0 u1
  have wv := hw.wds_ (s := 1 - w) (by omega) (by omega)
  obtain ⟨x, hx⟩ := Int.eq_ofNat_of_zero_le bt.1
  have bit := fun v (v0 : 0 ≤ v) (v1 : v < 40) => h.bit (s := w) (u := u) (v := v) w0 w1 u0 u1 v0 v1
  rw [hx] at bit bt ⊢
  rw [k_bits x (by omega)]
  have e : sm 40 (fun k => bi (x.testBit k.toNat)) = ptC F w u := by
    rw [sm_congr (g := fun v => bi (ptn F w u v)) (by omega) (fun k k0 k1 => by
      (try dsimp only)
      rw [← bit k k0 k1]
      rfl)]
    refine sm_skip wv.1 wv.2 (fun v v0 v1 => ?_)
    (try dsimp only)
    rw [ptF_f]
    · rfl
    · refine Classical.byContradiction (fun c => ?_)
      obtain ⟨p, i, j, a1, a2, a3, -, a5⟩ := ho.2 w u v w0 w1 u0 u1 (by omega) v1 c
      rcases a5 with ⟨rfl, -, e⟩ | ⟨rfl, -, e⟩
      · have := hw.wrd_ a1.1 a1.2 (s := 1) (by omega) (by omega) a3.1 a3.2
        rw [show (1 : Int) - 0 = 1 from rfl] at v0
        omega
      · have := hw.wrd_ a1.1 a1.2 (s := 0) (by omega) (by omega) a2.1 a2.2
        rw [show (1 : Int) - 1 = 0 from rfl] at v0
        omega
  rw [e]
theorem n_partners0 (hF : d.m 133 = F) (hw : WF F) {w u : Int} (w0 : 0 ≤ w) (w1 : w < 2) (u0 : 0 ≤ u) (u1 : u < 40) : m_partners d w u 0 = some (ptC F w u, d) := by
  have wv := hw.wds_ (s := 1 - w) (by omega) (by omega)
  have e : m_partners_4 d w u 0 0 0 = m_partners_4 d w u 0 (ptC F w u) (wds F (1 - w)) := lpS (fun v a => m_partners_4 d w u 0 a v) (fun v => bi (ptn F w u v)) (wds F (1 - w)) wv.1 (fun v a v0 v1 _ => by
    have sb := hw.shr_ w0 w1 u0 u1 v0 (show v < 40 by omega)
    (try dsimp only)
    rw [m_partners_4_e, n_words hF (by omega) (by omega), Option.bind_some]
    (try dsimp only)
    rw [if_neg (by rw [wr_id (by omega), wr_id (by omega)]; omega), if_pos zz0, n_isPartner hF w0 w1 u0 u1 v0 (by omega) (by unfold I32; omega), Option.bind_some]
    (try dsimp only)
    cases ptn F w u v
    · rw [if_pos (show wr (bi false) = 0 from rfl)]
      show _ = m_partners_4 d w u 0 (a + 0) (v + 1)
      rw [Int.add_zero]
    · rw [if_neg (show ¬ wr (bi true) = 0 from oz1)]
      rfl)
  rw [m_partners_e, e, m_partners_4_e, n_words hF (by omega) (by omega), Option.bind_some]
  (try dsimp only)
  rw [if_pos (by omega)]
theorem n_partners1 (hF : d.m 133 = F) (hw : WF F) {w u : Int} (w0 : 0 ≤ w) (w1 : w < 2) (u0 : 0 ≤ u) (u1 : u < 40) : m_partners d w u 1 = some (emC F w u, d) := by
  have wv := hw.wds_ (s := 1 - w) (by omega) (by omega)
  have e : m_partners_4 d w u 1 0 0 = m_partners_4 d w u 1 (emC F w u) (wds F (1 - w)) := lpS (fun v a => m_partners_4 d w u 1 a v) (fun v => if shr F w u v = 0 then 1 else 0) (wds F (1 - w)) wv.1 (fun v a v0 v1 _ => by
    have sb := hw.shr_ w0 w1 u0 u1 v0 (show v < 40 by omega)
    (try dsimp only)
    rw [m_partners_4_e, n_words hF (by omega) (by omega), Option.bind_some]
    (try dsimp only)
    rw [if_neg (by rw [wr_id (by omega), wr_id (by omega)]; omega), if_neg oz1, n_shareOf hF w0 w1 u0 u1 v0 (by omega), Option.bind_some]
    (try dsimp only)
    by_cases c : shr F w u v = 0
    · rw [if_neg (by rw [c]; exact fun x => x zz0), if_pos c]
    · rw [if_pos (by rw [wr_id (by omega)]; exact c), if_neg c, Int.add_zero])
  rw [m_partners_e, e, m_partners_4_e, n_words hF (by omega) (by omega), Option.bind_some]
  (try dsimp only)
  rw [if_pos (by omega)]
theorem k_emptyShares (h : CI d F) {w u : Int} (w0 : 0 ≤ w) (w1 : w < 2) (u0 : 0 ≤ u) (u1 : u < 40) : st_emptyShares d w u = some (emC F w u, d) := by
  have hw := h.wf
  have wv := hw.wds_ (s := 1 - w) (by omega) (by omega)
  have y2 : zin (1 - w) 2 := of_eq_true (zinT (by omega))
  have e : st_emptyShares_4 d w u 0 0 = st_emptyShares_4 d w u (emC F w u) (wds F (1 - w)) := lpS (fun v a => st_emptyShares_4 d w u a v) (fun v => if shr F w u v = 0 then 1 else 0) (wds F (1 - w)) wv.1 (fun v a v0 v1 _ => by
    have sb := hw.shr_ w0 w1 u0 u1 v0 (show v < 40 by omega)
    (try dsimp only)
    rw [st_emptyShares_4_e, if_pos y2, h.ca.wds_ (by omega) (by omega), if_neg (by rw [wr_id (by omega), wr_id (by omega)]; omega), k_arePartners h.ca w0 w1 u0 u1 v0 (by omega), Option.bind_some]
    (try dsimp only)
    by_cases c : shr F w u v = -1
    · rw [ptF_f c, if_pos (show wr (bi false) = 0 from rfl), if_neg (by omega), Int.add_zero]
    · rw [ptF_t c, if_neg (show ¬ wr (bi true) = 0 from oz1), k_shareOf h w0 w1 u0 u1 v0 (by omega), Option.bind_some]
      (try dsimp only)
      rw [if_neg c]
      by_cases c2 : shr F w u v = 0
      · rw [if_neg (by rw [c2]; exact fun x => x zz0), if_pos c2]
      · rw [if_pos (by rw [wr_id (by omega)]; exact c2), if_neg c2, Int.add_zero])
  rw [st_emptyShares_e, e, st_emptyShares_4_e, if_pos y2, h.ca.wds_ (by omega) (by omega), if_pos (by omega)]
theorem k_dict (h : CA d F) {s u : Int} (s0 : 0 ≤ s) (s1 : s < 2) (u0 : 0 ≤ u) (u1 : u < wds F s) : co_dictionaryPlace d s u = some (dcN F s u, d) := by
  have hw := h.wf
  have wv := hw.wds_ s0 s1
  have y2 : zin s 2 := of_eq_true (zinT (by omega))
  have yu : zin u 40 := of_eq_true (zinT (by omega))
  have ku : 0 ≤ key F s u ∧ key F s u < 34359738368 := kof_le (key_ok hw s0 s1 u0 u1)
  have e : co_dictionaryPlace_4 d s u 0 0 = co_dictionaryPlace_4 d s u (dcN F s u) (wds F s) := lpS (fun v a => co_dictionaryPlace_4 d s u a v) (fun v => bi (decide (key F s v < key F s u))) (wds F s) wv.1 (fun v a v0 v1 _ => by
    have kv : 0 ≤ key F s v ∧ key F s v < 34359738368 := kof_le (key_ok hw s0 s1 v0 v1)
    have yv : zin v 40 := of_eq_true (zinT (by omega))
    (try dsimp only)
    rw [co_dictionaryPlace_4_e, if_pos y2, h.wds_ s0 s1, if_neg (by rw [wr_id (by omega), wr_id (by omega)]; omega), if_pos y2, if_pos yv, if_pos y2, if_pos yu, h.key_ s0 s1 u0 u1, h.key_ s0 s1 v0 v1]
    by_cases c : key F s v < key F s u
    · rw [if_neg (by rw [wrl_id (by omega), wrl_id (by omega)]; omega), bi_t c]
    · rw [if_pos (by rw [wrl_id (by omega), wrl_id (by omega)]; omega), bi_f c, Int.add_zero])
  rw [co_dictionaryPlace_e, e, co_dictionaryPlace_4_e, if_pos y2, h.wds_ s0 s1, if_pos (by omega)]
theorem n_isLower (hF : d.m 133 = F) (hw : WF F) {s x y : Int} (s0 : 0 ≤ s) (s1 : s < 2) (x0 : 0 ≤ x) (x1 : x < wds F s) (y0 : 0 ≤ y) (y1 : y < wds F s) : m_isLower d s x y = some (bi (decide (key F s x < key F s y)), d) := by
  have wv := hw.wds_ s0 s1
  have ox := key_ok hw s0 s1 x0 x1
  have oy := key_ok hw s0 s1 y0 y1
  have nx := hw.ltn_ s0 s1 x0 x1
  have ny := hw.ltn_ s0 s1 y0 y1
  have kx : key F s x = kof (ltn F s x) (fun k => ltr F s x k) := rfl
  have ky : key F s y = kof (ltn F s y) (fun k => ltr F s y k) := rfl
  have lx := n_lettersOf hF s0 s1 x0 (show x < 40 by omega)
  have ly := n_lettersOf hF s0 s1 y0 (show y < 40 by omega)
  have ended : ∀ k, k = ltn F s x → k ≤ ltn F s y → (∀ j, 0 ≤ j → j < k → ltr F s x j = ltr F s y j) → m_isLower_2 d s x y k = some (bi (decide (key F s x < key F s y)), d) := fun k h1 h2 h3 => by
    have same : ∀ j, 0 ≤ j → j < k → cg (ltn F s x) (fun k => ltr F s x k) j = cg (ltn F s y) (fun k => ltr F s y k) j := fun j j0 j1 => by
      rw [(cg_pos ox j0 (by omega)).1, (cg_pos oy j0 (by omega)).1]
      (try dsimp only)
      rw [h3 j j0 j1]
    rw [m_isLower_2_e, lx, Option.bind_some]
    (try dsimp only)
    rw [if_pos (by rw [wr_id (by omega), wr_id (by omega)]; omega), lx, Option.bind_some]
    (try dsimp only)
    rw [if_neg (by rw [h1]; exact fun q => q rfl), ly, Option.bind_some]
    (try dsimp only)
    by_cases c : ltn F s y ≤ k
    · rw [if_pos (by rw [wr_id (by omega), wr_id (by omega)]; exact c), bi_f]
      rw [kx, ky, show ltn F s y = ltn F s x by omega, kof_co (by omega) (fun j j0 j1 => h3 j j0 (by omega))]
      exact Int.lt_irrefl _
    · rw [if_neg (by rw [wr_id (by omega), wr_id (by omega)]; exact c), bi_t]
      rw [kx, ky]
      refine kof_lt ox oy (k := k) (by omega) (by omega) same ?_
      have := (cg_pos oy (k := k) (by omega) (by omega)).2
      rw [cg_z (n := ltn F s x) (by omega)]
      omega
  refine Ok_eq ?_
  rw [m_isLower_e]
  refine lpD (fun k t => m_isLower_2 t s x y k) (fun k t => t = d ∧ (k ≤ ltn F s x ∧ k ≤ ltn F s y) ∧ ∀ j, 0 ≤ j → j < k → ltr F s x j = ltr F s y j) 0 7 (by omega) d ⟨rfl, by omega, fun j a b => by omega⟩ (fun t hi => ?_) (fun k t k0 k1 hi hnext => ?_)
  · obtain ⟨rfl, i2, i3⟩ := hi
    (try dsimp only)
    rw [ended 7 (by omega) i2.2 i3]
    exact Ok_ret ⟨rfl, rfl⟩
  · obtain ⟨rfl, i2, i3⟩ := hi
    (try dsimp only)
    by_cases c1 : k = ltn F s x
    · rw [ended k c1 i2.2 i3]
      exact Ok_ret ⟨rfl, rfl⟩
    · have same : ∀ j, 0 ≤ j → j < k → cg (ltn F s x) (fun k => ltr F s x k) j = cg (ltn F s y) (fun k => ltr F s y k) j := fun j j0 j1 => by
        rw [(cg_pos ox j0 (by omega)).1, (cg_pos oy j0 (by omega)).1]
        (try dsimp only)
        rw [i3 j j0 j1]
      rw [m_isLower_2_e, lx, Option.bind_some]
      (try dsimp only)
      rw [if_neg (by rw [wr_id (by omega), wr_id (by omega)]; omega), ly, Option.bind_some]
      (try dsimp only)
      by_cases c2 : ltn F s y ≤ k
      · rw [if_pos (by rw [wr_id (by omega), wr_id (by omega)]; exact c2), lx, Option.bind_some]
        (try dsimp only)
        rw [if_pos (by rw [wr_id (by omega), wr_id (by omega)]; exact c1), ly, Option.bind_some]
        (try dsimp only)
        rw [if_pos (by rw [wr_id (by omega), wr_id (by omega)]; exact c2)]
        refine Ok_ret ⟨?_, rfl⟩
        rw [bi_f]
        rw [kx, ky]
        have := kof_lt oy ox (k := k) (by omega) (by omega) (fun j j0 j1 => (same j j0 j1).symm) (by
          have := (cg_pos ox (k := k) (by omega) (by omega)).2
          rw [cg_z (n := ltn F s y) (by omega)]
          omega)
        omega
      · have rx := hw.ltr_ s0 s1 x0 x1 (k := k) k0 (by omega)
        have ry := hw.ltr_ s0 s1 y0 y1 (k := k) k0 (by omega)
        have ex := n_letterOf hF s0 s1 x0 (show x < 40 by omega) (k := k) k0 (by omega)
        have ey := n_letterOf hF s0 s1 y0 (show y < 40 by omega) (k := k) k0 (by omega)
        rw [if_neg (by rw [wr_id (by omega), wr_id (by omega)]; exact c2), ex, Option.bind_some]
        (try dsimp only)
        rw [ey, Option.bind_some]
        (try dsimp only)
        by_cases c3 : ltr F s x k = ltr F s y k
        · rw [if_neg (by rw [c3]; exact fun q => q rfl)]
          refine hnext _ ⟨rfl, by omega, fun j j0 j1 => ?_⟩
          by_cases e : j = k
          · rw [e]; exact c3
          · exact i3 j j0 (by omega)
        · rw [if_pos (by rw [wr_id (by omega), wr_id (by omega)]; exact c3), lx, Option.bind_some]
          (try dsimp only)
          rw [if_pos (by rw [wr_id (by omega), wr_id (by omega)]; exact c1), ly, Option.bind_some]
          (try dsimp only)
          rw [if_neg (by rw [wr_id (by omega), wr_id (by omega)]; exact c2), ex, Option.bind_some]
          (try dsimp only)
          rw [ey, Option.bind_some]
          (try dsimp only)
          have gx := (cg_pos ox (k := k) k0 (by omega)).1
          have gy := (cg_pos oy (k := k) k0 (by omega)).1
          (try dsimp only at gx gy)
          by_cases c4 : ltr F s y k ≤ ltr F s x k
          · rw [if_pos (by rw [wr_id (by omega), wr_id (by omega)]; exact c4)]
            refine Ok_ret ⟨?_, rfl⟩
            rw [bi_f]
            rw [kx, ky]
            have := kof_lt oy ox (k := k) (by omega) (by omega) (fun j j0 j1 => (same j j0 j1).symm) (by omega)
            omega
          · rw [if_neg (by rw [wr_id (by omega), wr_id (by omega)]; exact c4)]
            refine Ok_ret ⟨?_, rfl⟩
            rw [bi_t]
            rw [kx, ky]
            exact kof_lt ox oy (k := k) (by omega) (by omega) same (by omega)
theorem n_rankOf (hF : d.m 133 = F) (hw : WF F) {s u : Int} (s0 : 0 ≤ s) (s1 : s < 2) (u0 : 0 ≤ u) (u1 : u < wds F s) : m_rankOf d s u = some (dcN F s u, d) := by
  have wv := hw.wds_ s0 s1
  have e : m_rankOf_4 d s u 0 0 = m_rankOf_4 d s u (dcN F s u) (wds F s) := lpS (fun v a => m_rankOf_4 d s u a v) (fun v => bi (decide (key F s v < key F s u))) (wds F s) wv.1 (fun v a v0 v1 _ => by
    (try dsimp only)
    rw [m_rankOf_4_e, n_words hF s0 s1, Option.bind_some]
    (try dsimp only)
    rw [if_neg (by rw [wr_id (by omega), wr_id (by omega)]; omega), n_isLower hF hw s0 s1 v0 v1 u0 u1, Option.bind_some]
    (try dsimp only)
    by_cases c : key F s v < key F s u
    · rw [bi_t c, if_neg oz1]
    · rw [bi_f c, if_pos zz0, Int.add_zero])
  rw [m_rankOf_e, e, m_rankOf_4_e, n_words hF s0 s1, Option.bind_some]
  (try dsimp only)
  rw [if_pos (by omega)]
end
