/-! THE MODEL'S ROUND, whole. -/
section
variable {P : zP} {d : zD P} {F : Nat → Int}
theorem goS_0 {w : Int} {nw : Int → Int → Int} : goS F w 0 nw = F := by
  funext q
  exact if_neg (by omega)
theorem shr_q {w u v : Int} {q : Nat} (h1 : 0 ≤ w) (h2 : w < 2) (h3 : 0 ≤ u) (h4 : u < 40) (h5 : 0 ≤ v) (h6 : v < 40) (e : (q : Int) = 1144 + 1600 * w + 40 * u + v) : F q = shr F w u v := by
  have := zix_at (x := ((1144 + (1600 * w)) + (40 * u)) + v) (by omega)
  unfold shr
  congr 1
  omega
theorem goS_row (hw : WF F) {w u : Int} {nw : Int → Int → Int} {π : Int → Bool} {g : Int → Int} (h1 : 0 ≤ w) (h2 : w < 2) (h3 : 0 ≤ u) (h4 : u < 40) (hπ : ∀ v, 0 ≤ v → v < wds F (1 - w) → ptn F w u v = π v) (hg : ∀ v, 0 ≤ v → v < wds F (1 - w) → π v = true → g v = nw u v) : rowF (goS F w u nw) w u (wds F (1 - w)) π g = goS F w (u + 1) nw := by
  have q4 := hw.wds_ (s := 1 - w) (by omega) (by omega)
  funext q
  by_cases c : 1144 + 1600 * w + 40 * u ≤ (q : Int) ∧ (q : Int) < 1144 + 1600 * w + 40 * u + 40
  · obtain ⟨v, hv⟩ : ∃ v : Int, v = (q : Int) - (1144 + 1600 * w + 40 * u) := ⟨_, rfl⟩
    have e : F q = shr F w u v := shr_q h1 h2 h3 h4 (by omega) (by omega) (by omega)
    have e1 : ((q : Int) - (1144 + 1600 * w)) / 40 = u := by omega
    have e2 : ((q : Int) - (1144 + 1600 * w)) % 40 = v := by omega
    have a1 : goS F w u nw q = F q := by
      unfold goS
      rw [if_neg (by omega)]
    have a2 : goS F w (u + 1) nw q = if F q ≠ -1 then nw u v else F q := by
      unfold goS
      rw [e1, e2]
      by_cases c2 : F q ≠ -1
      · rw [if_pos c2, if_pos ⟨by omega, by omega, c2⟩]
      · rw [if_neg c2, if_neg (fun x => c2 x.2.2)]
    rw [a2]
    unfold rowF
    rw [a1, ← hv]
    by_cases c2 : F q = -1
    · have n1 : ¬ (1144 + 1600 * w + 40 * u ≤ (q : Int) ∧ (q : Int) < 1144 + 1600 * w + 40 * u + wds F (1 - w) ∧ π v = true) := fun x => by
        have b : ptn F w u v = true := by rw [hπ v (by omega) (by omega)]; exact x.2.2
        exact (ptn_f.mp b) (by rw [← e]; exact c2)
      have n2 : ¬ (F q ≠ -1) := fun x => x c2
      rw [if_neg n2, if_neg n1]
    · have o := hw.out h1 h2 h3 h4 (v := v) (by omega) (by omega) (by rw [← e]; exact c2)
      have b : π v = true := by rw [← hπ v (by omega) o.2]; exact ptn_f.mpr (by rw [← e]; exact c2)
      rw [if_pos c2, if_pos ⟨by omega, by omega, b⟩, hg v (by omega) o.2 b]
  · unfold rowF
    rw [if_neg (by omega)]
    unfold goS
    by_cases c2 : 1144 + 1600 * w ≤ (q : Int) ∧ (q : Int) < 1144 + 1600 * w + 40 * u ∧ F q ≠ -1
    · rw [if_pos c2, if_pos ⟨c2.1, by omega, c2.2.2⟩]
    · rw [if_neg c2, if_neg (fun x => c2 ⟨x.1, by omega, x.2.2⟩)]
theorem goN_part {w : Int} {g : Int → Int} {n : Int} (h1 : 0 ≤ w) (h2 : w < 2) (h3 : 0 ≤ n) (h4 : n < 8) {G : Nat → Int} (hG : ∀ q : Nat, G q = if 8 + 8 * w ≤ (q : Int) ∧ (q : Int) < 8 + 8 * w + n then g ((q : Int) - (8 + 8 * w)) else F q) : ∀ q : Nat, zfu G (zix ((8 + (8 * w)) + n)) (g n) q = if 8 + 8 * w ≤ (q : Int) ∧ (q : Int) < 8 + 8 * w + (n + 1) then g ((q : Int) - (8 + 8 * w)) else F q := by
  have e := zix_at (x := (8 + (8 * w)) + n) (by omega)
  intro q
  unfold zfu
  by_cases c : (q : Int) = 8 + 8 * w + n
  · rw [if_pos (by omega), if_pos (by omega)]
    congr 1
    omega
  · rw [if_neg (by omega), hG q]
    by_cases c2 : 8 + 8 * w ≤ (q : Int) ∧ (q : Int) < 8 + 8 * w + n
    · rw [if_pos c2, if_pos (by omega)]
    · rw [if_neg c2, if_neg (by omega)]
theorem n_goesRound (hF : d.m 133 = F) (hw : WF F) {w : Int} (h1 : 0 ≤ w) (h2 : w < 2) : Ok (m_goesRound d w) (fun _ d' => d'.m 133 = goF F w ∧ Fr2 133 134 143 149 d d') := by
  have q := hw.wds_ h1 h2
  have q' := hw.wds_ (s := 1 - w) (by omega) (by omega)
  have hT := cnt_le hw h1 h2
  have hpl := hw.plc_
  have hnw := nwS_le (wt := goW F w) hw h1 h2 (fun u v _ _ a b => goW_ok hw h1 h2 v a b)
  rw [m_goesRound_e]
  refine Ok_bind (n_counts hF hw h1 h2) (fun v1 d1 f1 => ?_)
  (try dsimp only)
  refine lpD (fun u t => m_goesRound_5 t w u) (fun u t => t.m 133 = goS F w u (nwS F w (goW F w)) ∧ Fr2 133 134 143 147 d1 t) 0 (wds F w) q.1 d1 ⟨by rw [goS_0, f1.1 133 (by omega)]; exact hF, Fr2.rf⟩ (fun t hi => ?_) (fun u t hk hk2 hi hnext => ?_)
  · have e1 : wds (goS F w (wds F w) (nwS F w (goW F w))) w = wds F w := (goS_same h1).wds_ h1 h2
    have e3 : goS F w (wds F w) (nwS F w (goW F w)) (zix 3) = plc F := (goS_same h1).plc_
    (try dsimp only)
    rw [m_goesRound_5_e]
    simp (disch := omega) only [↓reduceIte, zinT, wr_id, wrl_id, ltT, ltF, leT, leF, eqT, eqF, ne_eq, not_true_eq_false, not_false_eq_true, Option.bind_some, Ok_some, bi_0, bi_n0, bi_01, n_words hi.1, e1, hi.1, e3]
    by_cases hp : plc F = 0
    · rw [if_neg (fun x => x hp)]
      refine Ok_ret ⟨?_, fun r r1 r2 => (hi.2 r r1 (by omega)).trans (f1.1 r (by omega))⟩
      unfold goF
      rw [if_pos hp]
      exact hi.1
    · rw [if_pos hp]
      have ht : ∀ i, 0 ≤ i → i < 8 → t.m 148 (zix i) = (cnt F w).2 i := fun i a b => by rw [hi.2 148 (by omega) (by omega)]; exact f1.2.2 i a b
      refine lpD (fun k e => m_goesRound_25 e w k) (fun k e => Fr 143 144 t e ∧ ∀ i, 0 ≤ i → i < k → e.m 143 (zix i) = (cnt F w).2 i) 0 8 (by omega) t ⟨Fr.rf, fun i _ _ => by omega⟩ (fun e hj => ?_) (fun k e hk hk2 hj hnext => ?_)
      · (try dsimp only)
        rw [m_goesRound_25_e]
        simp (disch := omega) only [↓reduceIte, zinT, wr_id, wrl_id, ltT, ltF, leT, leF, eqT, eqF, ne_eq, not_true_eq_false, not_false_eq_true, Option.bind_some, Ok_some, bi_0, bi_n0, bi_01]
        refine Ok_bind (n_parts (by omega) (by omega) hj.2 (fun k _ _ => by have := hT k; omega)) (fun v2 d2 f2 => ?_)
        (try dsimp only)
        refine Ok_mono (lpD (Q := fun _ d' => (∀ q : Nat, d'.m 133 q = if 8 + 8 * w ≤ (q : Int) ∧ (q : Int) < 8 + 8 * w + 8 then pt 8 (cnt F w).2 ((q : Int) - (8 + 8 * w)) else goS F w (wds F w) (nwS F w (goW F w)) q) ∧ Fr 133 134 d2 d') (fun k e => m_goesRound_44 e w k) (fun k e => (∀ q : Nat, e.m 133 q = if 8 + 8 * w ≤ (q : Int) ∧ (q : Int) < 8 + 8 * w + k then pt 8 (cnt F w).2 ((q : Int) - (8 + 8 * w)) else goS F w (wds F w) (nwS F w (goW F w)) q) ∧ Fr 133 134 d2 e) 0 8 (by omega) d2 ⟨fun q => by rw [if_neg (by omega), f2.1 133 (by omega), hj.1 133 (by omega), hi.1], Fr.rf⟩ (fun e hl => ?_) (fun k e hk hk2 hl hnext => ?_)) (fun v d' hh => ?_)
        · (try dsimp only)
          rw [m_goesRound_44_e]
          simp (disch := omega) only [↓reduceIte, zinT, wr_id, wrl_id, ltT, ltF, leT, leF, eqT, eqF, ne_eq, not_true_eq_false, not_false_eq_true, Option.bind_some, Ok_some, bi_0, bi_n0, bi_01]
          exact hl
        · have e4 : e.m 145 (zix k) = pt 8 (cnt F w).2 k := by rw [hl.2 145 (by omega)]; exact f2.2 k hk hk2
          (try dsimp only)
          rw [m_goesRound_44_e]
          simp (disch := omega) only [↓reduceIte, zinT, wr_id, wrl_id, ltT, ltF, leT, leF, eqT, eqF, ne_eq, not_true_eq_false, not_false_eq_true, Option.bind_some, Ok_some, bi_0, bi_n0, bi_01, e4]
          refine hnext _ ?_
          refine ⟨?_, hl.2.up (by omega) (by omega)⟩
          rw [u_133]
          exact goN_part h1 h2 hk hk2 hl.1
        · refine ⟨?_, fun r r1 r2 => ?_⟩
          · unfold goF
            rw [if_neg hp]
            funext q
            rw [hh.1 q]
            unfold goN
            rw [show (8 : Int) + 8 * w + 8 = 16 + 8 * w by omega]
          · exact ((((hh.2 r (by omega)).trans (f2.1 r (by omega))).trans (hj.1 r (by omega))).trans (hi.2 r (by omega) (by omega))).trans (f1.1 r (by omega))
      · have e5 : e.m 148 (zix k) = (cnt F w).2 k := by rw [hj.1 148 (by omega)]; exact ht k hk hk2
        have := hT k
        (try dsimp only)
        rw [m_goesRound_25_e]
        simp (disch := omega) only [↓reduceIte, zinT, wr_id, wrl_id, ltT, ltF, leT, leF, eqT, eqF, ne_eq, not_true_eq_false, not_false_eq_true, Option.bind_some, Ok_some, bi_0, bi_n0, bi_01, e5]
        refine hnext _ ?_
        refine ⟨hj.1.up (by omega) (by omega), ?_⟩
        rw [u_143]
        exact zfu_next (g := fun i => (cnt F w).2 i) hj.2 hk (by omega)
  · have e1 : ∀ s, 0 ≤ s → s < 2 → wds (goS F w u (nwS F w (goW F w))) s = wds F s := fun s a b => (goS_same h1).wds_ a b
    have hw' : WF (goS F w u (nwS F w (goW F w))) := goS_wf hw h1 h2 (by omega) (fun u' v' a b c e f => hnw u' v' a (by omega) c e f)
    (try dsimp only)
    rw [m_goesRound_5_e]
    simp (disch := omega) only [↓reduceIte, zinT, wr_id, wrl_id, ltT, ltF, leT, leF, eqT, eqF, ne_eq, not_true_eq_false, not_false_eq_true, Option.bind_some, Ok_some, bi_0, bi_n0, bi_01, n_words hi.1, e1]
    refine Ok_bind (n_partsShares (π := ptn F w u) (wt := goW F w u) hi.1 hw' h1 h2 hk (by omega) (fun v a b => ?_) (fun v a b => ?_) (Or.inl ⟨rfl, fun v a b => ?_⟩)) (fun v2 d2 f2 => ?_)
    · rw [e1 _ (by omega) (by omega)] at b
      exact goS_ptn h1 h2 h1 h2 (by omega) hk (by omega) a (by omega) (fun u' v' a b c e f => hnw u' v' a (by omega) c e f)
    · rw [e1 _ (by omega) (by omega)] at b
      exact goW_ok hw h1 h2 v a b
    · rw [e1 _ (by omega) (by omega)] at b
      rw [hi.2 147 (by omega) (by omega)]
      refine ⟨f1.2.1 _ (by omega) (by omega), ?_⟩
      have := hT (40 * u + v)
      unfold goW
      omega
    · (try dsimp only)
      refine hnext _ ?_
      refine ⟨?_, hi.2.tr f2.2⟩
      rw [f2.1, e1 _ (by omega) (by omega)]
      exact goS_row hw h1 h2 hk (by omega) (fun v a b => rfl) (fun v a b c => rfl)
end
