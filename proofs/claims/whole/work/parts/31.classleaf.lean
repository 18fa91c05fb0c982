/-! THE CLASS'S SMALL METHODS: what they answer; nothing changes. -/
/-- how many partners stand ahead of one, the partner at a place, the twin -/
def ahd (F : Nat → Int) (w u v : Int) : Int := sm (wds F (1 - w)) (fun o => bi (ptn F w u o && (decide (shr F w u v < shr F w u o) || (decide (shr F w u o = shr F w u v) && decide (o < v)))))
def rnk (F : Nat → Int) (w u k : Int) : Int := first (wds F (1 - w)) (fun v => ptn F w u v && decide (ahd F w u v = k))
def twn (F : Nat → Int) (u : Int) : Int := if rnk F 0 u 0 < 0 then -1 else if rnk F 1 (rnk F 0 u 0) 0 = u then rnk F 0 u 0 else -1
def slt (F : Nat → Int) (w p i j : Int) : Int := if i * lng F p (1 - w) - j * lng F p w < 0 then -(i * lng F p (1 - w) - j * lng F p w) else i * lng F p (1 - w) - j * lng F p w
def nrn (F : Nat → Int) (w p i j : Int) : Int := if slt F w p i j * 8 / (lng F p w * lng F p (1 - w)) < 7 then slt F w p i j * 8 / (lng F p w * lng F p (1 - w)) else 7
def plh (F : Nat → Int) (w p i j : Int) : Int := shr F w (wrd F p w i) (wrd F p (1 - w) j)
def wth (F : Nat → Int) (w p i j : Int) : Int := if plc F = 0 then plh F w p i j else plh F w p i j * ner F w (nrn F w p i j)
theorem slt_le {F : Nat → Int} (hw : WF F) {w p i j : Int} (h1 : 0 ≤ w) (h2 : w < 2) (h3 : 0 ≤ p) (h4 : p < prs F) (h5 : 0 ≤ i) (h6 : i < lng F p w) (h7 : 0 ≤ j) (h8 : j < lng F p (1 - w)) : 0 ≤ slt F w p i j ∧ slt F w p i j ≤ 36 := by
  have a := hw.lng_ h3 h4 h1 h2
  have b := hw.lng_ h3 h4 (s := 1 - w) (by omega) (by omega)
  have c := mulb (a := i) (b := lng F p (1 - w)) (A := 6) (B := 6) h5 (by omega) (by omega) (by omega)
  have e := mulb (a := j) (b := lng F p w) (A := 6) (B := 6) h7 (by omega) (by omega) (by omega)
  unfold slt
  split <;> omega
theorem nrn_le {F : Nat → Int} (hw : WF F) {w p i j : Int} (h1 : 0 ≤ w) (h2 : w < 2) (h3 : 0 ≤ p) (h4 : p < prs F) (h5 : 0 ≤ i) (h6 : i < lng F p w) (h7 : 0 ≤ j) (h8 : j < lng F p (1 - w)) : 0 ≤ nrn F w p i j ∧ nrn F w p i j ≤ 7 := by
  have a := hw.lng_ h3 h4 h1 h2
  have b := hw.lng_ h3 h4 (s := 1 - w) (by omega) (by omega)
  have c := slt_le hw h1 h2 h3 h4 h5 h6 h7 h8
  have e := mulb (a := lng F p w) (b := lng F p (1 - w)) (A := 6) (B := 6) (by omega) (by omega) (by omega) (by omega)
  have f : 0 ≤ slt F w p i j * 8 / (lng F p w * lng F p (1 - w)) := Int.ediv_nonneg (by omega) e.1
  unfold nrn
  split <;> omega
theorem wth_le {F : Nat → Int} (hw : WF F) {w p i j : Int} (h1 : 0 ≤ w) (h2 : w < 2) (h3 : 0 ≤ p) (h4 : p < prs F) (h5 : 0 ≤ i) (h6 : i < lng F p w) (h7 : 0 ≤ j) (h8 : j < lng F p (1 - w)) : 0 ≤ wth F w p i j ∧ wth F w p i j ≤ 40000000000 := by
  have q := hw.wds_ h1 h2
  have q2 := hw.wds_ (s := 1 - w) (by omega) (by omega)
  have q3 := hw.wrd_ h3 h4 h1 h2 h5 h6
  have q4 := hw.wrd_ h3 h4 (s := 1 - w) (by omega) (by omega) h7 h8
  have a := hw.ptn_ h1 h2 h3 h4 h5 h6 h7 h8
  have b := hw.shr_ (u := wrd F p w i) (v := wrd F p (1 - w) j) h1 h2 (by omega) (by omega) (by omega) (by omega)
  have c := nrn_le hw h1 h2 h3 h4 h5 h6 h7 h8
  have e := hw.ner_ h1 h2 c.1 (by omega)
  have f := mulb (a := plh F w p i j) (b := ner F w (nrn F w p i j)) (A := 200000) (B := 200000) a b.2 e.1 e.2
  unfold wth
  split
  · unfold plh; omega
  · omega
section
variable {P : zP} {d : zD P} {F : Nat → Int}
theorem k_wordAt (h : CA d F) {s p i : Int} (h1 : 0 ≤ s) (h2 : s < 2) (h3 : 0 ≤ p) (h4 : p < prs F) (h5 : 0 ≤ i) (h6 : i < lng F p s) : co_wordAt d s p i = some (wrd F p s i, d) := by
  have a := h.wf.prs_
  have b := h.wf.lng_ h3 h4 h1 h2
  rw [co_wordAt_e]
  simp (disch := omega) only [↓reduceIte, zinT, wr_id, wrl_id, ltT, ltF, leT, leF, eqT, eqF, ne_eq, not_true_eq_false, not_false_eq_true, Option.bind_some, Ok_some, bi_0, bi_n0, bi_01, h.wrd_]
theorem k_arePartners (h : CA d F) {w u v : Int} (h1 : 0 ≤ w) (h2 : w < 2) (h3 : 0 ≤ u) (h4 : u < 40) (h5 : 0 ≤ v) (h6 : v < 40) : co_arePartners d w u v = some (bi (ptn F w u v), d) := by
  have a := h.bits h1 h2 h3 h4
  have b := h.bit h1 h2 h3 h4 h5 h6
  rw [co_arePartners_e]
  simp (disch := omega) only [↓reduceIte, zinT, wr_id, wrl_id, ltT, ltF, leT, leF, eqT, eqF, ne_eq, not_true_eq_false, not_false_eq_true, Option.bind_some, Ok_some, bi_0, bi_n0, bi_01]
  rw [lbit (by omega), b]
  cases ptn F w u v <;> rfl
theorem k_shareOf (h : CI d F) {w u v : Int} (h1 : 0 ≤ w) (h2 : w < 2) (h3 : 0 ≤ u) (h4 : u < 40) (h5 : 0 ≤ v) (h6 : v < 40) : st_shareOf d w u v = some (if shr F w u v = -1 then 0 else shr F w u v, d) := by
  rw [st_shareOf_e]
  simp (disch := omega) only [↓reduceIte, zinT, wr_id, wrl_id, ltT, ltF, leT, leF, eqT, eqF, ne_eq, not_true_eq_false, not_false_eq_true, Option.bind_some, Ok_some, bi_0, bi_n0, bi_01, h.shr_]
theorem k_slant (h : CA d F) {w p i j : Int} (h1 : 0 ≤ w) (h2 : w < 2) (h3 : 0 ≤ p) (h4 : p < prs F) (h5 : 0 ≤ i) (h6 : i < lng F p w) (h7 : 0 ≤ j) (h8 : j < lng F p (1 - w)) : st_slant d w p i j = some (slt F w p i j, d) := by
  have a := h.wf.lng_ h3 h4 h1 h2
  have b := h.wf.lng_ h3 h4 (s := 1 - w) (by omega) (by omega)
  have c := mulb (a := i) (b := lng F p (1 - w)) (A := 6) (B := 6) h5 (by omega) (by omega) (by omega)
  have e := mulb (a := j) (b := lng F p w) (A := 6) (B := 6) h7 (by omega) (by omega) (by omega)
  have q := h.wf.prs_
  rw [st_slant_e]
  simp (disch := omega) only [↓reduceIte, zinT, wr_id, wrl_id, ltT, ltF, leT, leF, eqT, eqF, ne_eq, not_true_eq_false, not_false_eq_true, Option.bind_some, Ok_some, bi_0, bi_n0, bi_01, h.lng_]
  unfold slt
  by_cases hs : i * lng F p (1 - w) - j * lng F p w < 0
  · rw [if_pos hs, if_neg (by omega)]
  · rw [if_neg hs, if_pos (by omega)]
theorem k_nearness (h : CA d F) {w p i j : Int} (h1 : 0 ≤ w) (h2 : w < 2) (h3 : 0 ≤ p) (h4 : p < prs F) (h5 : 0 ≤ i) (h6 : i < lng F p w) (h7 : 0 ≤ j) (h8 : j < lng F p (1 - w)) : st_nearness d w p i j = some (nrn F w p i j, d) := by
  have a := h.wf.lng_ h3 h4 (s := 0) (by omega) (by omega)
  have b := h.wf.lng_ h3 h4 (s := 1) (by omega) (by omega)
  have c := mulb (a := lng F p 0) (b := lng F p 1) (A := 6) (B := 6) (by omega) (by omega) (by omega) (by omega)
  have c1 : 1 ≤ lng F p 0 * lng F p 1 := Int.mul_pos (by omega) (by omega)
  have q := h.wf.prs_
  have e := slt_le h.wf h1 h2 h3 h4 h5 h6 h7 h8
  have f : lng F p w * lng F p (1 - w) = lng F p 0 * lng F p 1 := by
    rcases (by omega : w = 0 ∨ w = 1) with rfl | rfl
    · rfl
    · exact Int.mul_comm _ _
  have g : 0 ≤ slt F w p i j * 8 / (lng F p 0 * lng F p 1) := Int.ediv_nonneg (by omega) c.1
  have g2 : slt F w p i j * 8 / (lng F p 0 * lng F p 1) ≤ slt F w p i j * 8 := Int.ediv_le_self _ (by omega)
  rw [st_nearness_e]
  simp (disch := omega) only [↓reduceIte, zinT, wr_id, wrl_id, ltT, ltF, leT, leF, eqT, eqF, ne_eq, not_true_eq_false, not_false_eq_true, Option.bind_some, Ok_some, bi_0, bi_n0, bi_01, h.lng_, k_slant h, zdiv0]
  unfold nrn
  rw [f]
  by_cases hs : slt F w p i j * 8 / (lng F p 0 * lng F p 1) < 7
  · rw [if_pos hs, if_neg (by omega)]
  · rw [if_neg hs]
    by_cases h7 : 7 < slt F w p i j * 8 / (lng F p 0 * lng F p 1)
    · rw [if_pos h7]
    · rw [if_neg h7]
      congr 2
      omega
theorem k_placeShare (h : CI d F) {w p i j : Int} (h1 : 0 ≤ w) (h2 : w < 2) (h3 : 0 ≤ p) (h4 : p < prs F) (h5 : 0 ≤ i) (h6 : i < lng F p w) (h7 : 0 ≤ j) (h8 : j < lng F p (1 - w)) : st_placeShare d w p i j = some (plh F w p i j, d) := by
  have q := h.wf.wds_ h1 h2
  have q2 := h.wf.wds_ (s := 1 - w) (by omega) (by omega)
  have q3 := h.wf.wrd_ h3 h4 h1 h2 h5 h6
  have q4 := h.wf.wrd_ h3 h4 (s := 1 - w) (by omega) (by omega) h7 h8
  have a := h.wf.ptn_ h1 h2 h3 h4 h5 h6 h7 h8
  rw [st_placeShare_e]
  simp (disch := omega) only [↓reduceIte, zinT, wr_id, wrl_id, ltT, ltF, leT, leF, eqT, eqF, ne_eq, not_true_eq_false, not_false_eq_true, Option.bind_some, Ok_some, bi_0, bi_n0, bi_01, k_wordAt h.ca, k_shareOf h]
  rfl
theorem k_worth (h : CI d F) {w p i j : Int} (h1 : 0 ≤ w) (h2 : w < 2) (h3 : 0 ≤ p) (h4 : p < prs F) (h5 : 0 ≤ i) (h6 : i < lng F p w) (h7 : 0 ≤ j) (h8 : j < lng F p (1 - w)) : st_worth d w p i j = some (wth F w p i j, d) := by
  have q := h.wf.wds_ h1 h2
  have q2 := h.wf.wds_ (s := 1 - w) (by omega) (by omega)
  have q3 := h.wf.wrd_ h3 h4 h1 h2 h5 h6
  have q4 := h.wf.wrd_ h3 h4 (s := 1 - w) (by omega) (by omega) h7 h8
  have a := h.wf.ptn_ h1 h2 h3 h4 h5 h6 h7 h8
  have b := h.wf.shr_ (u := wrd F p w i) (v := wrd F p (1 - w) j) h1 h2 (by omega) (by omega) (by omega) (by omega)
  have c := nrn_le h.wf h1 h2 h3 h4 h5 h6 h7 h8
  have e := h.wf.ner_ h1 h2 c.1 (by omega)
  have hp := h.wf.plc_
  have a' : 0 ≤ plh F w p i j ∧ plh F w p i j ≤ 200000 := ⟨a, b.2⟩
  rw [st_worth_e]
  simp (disch := omega) only [↓reduceIte, zinT, wr_id, wrl_id, ltT, ltF, leT, leF, eqT, eqF, ne_eq, not_true_eq_false, not_false_eq_true, Option.bind_some, Ok_some, bi_0, bi_n0, bi_01, k_placeShare h, h.ca.plc_, k_nearness h.ca, h.ner_]
  unfold wth
  by_cases hs : plc F = 0
  · rw [if_pos hs, if_pos hs]
  · rw [if_neg hs, if_neg hs]
theorem k_partnersAhead (h : CI d F) {w u v : Int} (h1 : 0 ≤ w) (h2 : w < 2) (h3 : 0 ≤ u) (h4 : u < 40) (h5 : 0 ≤ v) (h6 : v < wds F (1 - w)) (hp : ptn F w u v = true) : st_partnersAhead d w u v = some (ahd F w u v, d) := by
  have q2 := h.wf.wds_ (s := 1 - w) (by omega) (by omega)
  have hv := h.wf.shr_ (u := u) (v := v) h1 h2 h3 h4 h5 (by omega)
  have hv1 : shr F w u v ≠ -1 := by simpa [ptn] using hp
  rw [st_partnersAhead_e]
  simp (disch := omega) only [↓reduceIte, zinT, wr_id, wrl_id, ltT, ltF, leT, leF, eqT, eqF, ne_eq, not_true_eq_false, not_false_eq_true, Option.bind_some, Ok_some, bi_0, bi_n0, bi_01, k_shareOf h]
  have key := lpA (β := Option (Int × zD P)) (fun k (t : Int × zV) => st_partnersAhead_10 d w u v (shr F w u v) t.1 k t.2) (fun k t => (t.1 + bi (ptn F w u k && (decide (shr F w u v < shr F w u k) || (decide (shr F w u k = shr F w u v) && decide (k < v)))), (0, if shr F w u k = -1 then 0 else shr F w u k))) (wds F (1 - w)) (by omega) (0, (3, 0)) (fun k t hk hk2 ht => by
    have hk1 := h.wf.shr_ (u := u) (v := k) h1 h2 h3 h4 hk (by omega)
    (try dsimp only)
    rw [st_partnersAhead_10_e]
    simp (disch := omega) only [↓reduceIte, zinT, wr_id, wrl_id, ltT, ltF, leT, leF, eqT, eqF, ne_eq, not_true_eq_false, not_false_eq_true, Option.bind_some, Ok_some, bi_0, bi_n0, bi_01, h.ca.wds_, k_shareOf h, k_arePartners h.ca]
    by_cases hq : ptn F w u k = true
    · have hq1 : shr F w u k ≠ -1 := by simpa [ptn] using hq
      rw [hq]
      rw [if_neg (by simp)]
      try rw [if_neg hq1]
      by_cases c1 : shr F w u v < shr F w u k
      · simp [c1, bi]
      · by_cases c2 : shr F w u k = shr F w u v
        · by_cases c3 : k < v
          · simp [c1, c2, c3, bi, show ¬ v ≤ k by omega]
          · simp [c1, c2, c3, bi, show v ≤ k by omega]
        · simp [c1, c2, bi]
    · have hq' : ptn F w u k = false := by simpa using hq
      simp [hq', bi])
  (try dsimp only at key)
  rw [key]
  have e : (fo (wds F (1 - w)) ((0 : Int), ((3, 0) : zV)) (fun k t => (t.1 + bi (ptn F w u k && (decide (shr F w u v < shr F w u k) || (decide (shr F w u k = shr F w u v) && decide (k < v)))), (0, if shr F w u k = -1 then 0 else shr F w u k)))).1 = ahd F w u v := by
    refine fo_ind (I := fun k (t : Int × zV) => t.1 = sm k (fun o => bi (ptn F w u o && (decide (shr F w u v < shr F w u o) || (decide (shr F w u o = shr F w u v) && decide (o < v)))))) (by omega) rfl (fun k t hk hk2 ht => ?_)
    (try dsimp only at ht ⊢)
    rw [ht, sm_s _ hk]
  rw [e, st_partnersAhead_10_e]
  simp (disch := omega) only [↓reduceIte, zinT, wr_id, wrl_id, ltT, ltF, leT, leF, eqT, eqF, ne_eq, not_true_eq_false, not_false_eq_true, Option.bind_some, Ok_some, bi_0, bi_n0, bi_01, h.ca.wds_]
end
