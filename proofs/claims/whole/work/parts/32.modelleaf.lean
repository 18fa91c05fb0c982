/-! THE MODEL'S SMALL METHODS. -/
/-- a number of the machine -/
def I32 (x : Int) : Prop := -2147483648 ≤ x ∧ x ≤ 2147483647
theorem dec_iff {p q : Prop} [Decidable p] [Decidable q] (h : p ↔ q) : decide p = decide q := by
  by_cases hp : p
  · rw [decide_eq_true hp, decide_eq_true (h.mp hp)]
  · rw [decide_eq_false hp, decide_eq_false (fun hq => hp (h.mpr hq))]
theorem bi_t {p : Prop} [Decidable p] (h : p) : bi (decide p) = 1 := by rw [decide_eq_true h]; rfl
theorem bi_f {p : Prop} [Decidable p] (h : ¬ p) : bi (decide p) = 0 := by rw [decide_eq_false h]; rfl
section
variable {P : zP} {d : zD P} {F : Nat → Int}
theorem n_in {a b c : Int} (h : I32 a ∧ I32 b ∧ I32 c) : m_in d a b c = some (bi (decide (b ≤ a ∧ a ≤ c)), d) := by
  unfold I32 at h
  rw [m_in_e]
  simp only [wr_id h.1, wr_id h.2.1, wr_id h.2.2]
  by_cases h1 : a < b
  · rw [if_pos h1, bi_f (by omega)]
  · rw [if_neg h1]
    by_cases h2 : c < a
    · rw [if_pos h2, bi_f (by omega)]
    · rw [if_neg h2, bi_t (by omega)]
theorem n_min {a b : Int} (h : I32 a ∧ I32 b) : m_min d a b = some (if a < b then a else b, d) := by
  unfold I32 at h
  rw [m_min_e]
  simp only [wr_id h.1, wr_id h.2]
  by_cases h1 : a < b
  · rw [if_pos h1, if_neg (by omega)]
  · rw [if_neg h1, if_pos (by omega)]
theorem n_max {a b : Int} (h : I32 a ∧ I32 b) : m_max d a b = some (if b < a then a else b, d) := by
  unfold I32 at h
  rw [m_max_e]
  simp only [wr_id h.1, wr_id h.2]
  by_cases h1 : b < a
  · rw [if_pos h1, if_neg (by omega)]
  · rw [if_neg h1, if_pos (by omega)]
theorem n_size {a : Int} (h : I32 a) : m_size d a = some (if a < 0 then -a else a, d) := by
  unfold I32 at h
  rw [m_size_e]
  simp only [wr_id h]
  by_cases h1 : a < 0
  · rw [if_pos h1, if_neg (by omega)]
  · rw [if_neg h1, if_pos (by omega)]
theorem n_isSide {a : Int} (h : I32 a) : m_isSide d a = some (bi (decide (0 ≤ a ∧ a ≤ 1)), d) := by
  rw [m_isSide_e]
  simp only [n_in (d := d) (a := a) (b := 0) (c := 1) ⟨h, by unfold I32; omega, by unfold I32; omega⟩, Option.bind_some, bi_01, if_true]
theorem n_isKind {a : Int} (h : I32 a) : m_isKind d a = some (bi (decide (0 ≤ a ∧ a ≤ 5)), d) := by
  rw [m_isKind_e]
  simp only [n_in (d := d) (a := a) (b := 0) (c := 5) ⟨h, by unfold I32; omega, by unfold I32; omega⟩, Option.bind_some, bi_01, if_true]
theorem n_longOf (hF : d.m 133 = F) {p s : Int} (h1 : 0 ≤ p) (h2 : p ≤ 24) (h3 : 0 ≤ s) (h4 : s < 2) : m_longOf d p s = some (lng F p s, d) := by
  rw [m_longOf_e, hF]
  simp (disch := omega) only [↓reduceIte, zinT, wr_id, wrl_id, ltT, ltF, leT, leF, eqT, eqF, ne_eq, not_true_eq_false, not_false_eq_true, Option.bind_some, Ok_some, bi_0, bi_n0, bi_01]
  rfl
theorem n_wordOf (hF : d.m 133 = F) {p s i : Int} (h1 : 0 ≤ p) (h2 : p ≤ 24) (h3 : 0 ≤ s) (h4 : s < 2) (h5 : 0 ≤ i) (h6 : i ≤ 6) : m_wordOf d p s i = some (wrd F p s i, d) := by
  rw [m_wordOf_e, hF]
  simp (disch := omega) only [↓reduceIte, zinT, wr_id, wrl_id, ltT, ltF, leT, leF, eqT, eqF, ne_eq, not_true_eq_false, not_false_eq_true, Option.bind_some, Ok_some, bi_0, bi_n0, bi_01]
  rfl
theorem n_told (hF : d.m 133 = F) {p i : Int} (h1 : 0 ≤ p) (h2 : p ≤ 24) (h5 : 0 ≤ i) (h6 : i ≤ 6) : m_told d p i = some (tld F p i, d) := by
  rw [m_told_e, hF]
  simp (disch := omega) only [↓reduceIte, zinT, wr_id, wrl_id, ltT, ltF, leT, leF, eqT, eqF, ne_eq, not_true_eq_false, not_false_eq_true, Option.bind_some, Ok_some, bi_0, bi_n0, bi_01]
  rfl
theorem n_words (hF : d.m 133 = F) {s : Int} (h3 : 0 ≤ s) (h4 : s < 2) : m_words d s = some (wds F s, d) := by
  rw [m_words_e, hF]
  simp (disch := omega) only [↓reduceIte, zinT, wr_id, wrl_id, ltT, ltF, leT, leF, eqT, eqF, ne_eq, not_true_eq_false, not_false_eq_true, Option.bind_some, Ok_some, bi_0, bi_n0, bi_01]
  rfl
theorem n_lettersOf (hF : d.m 133 = F) {s w : Int} (h3 : 0 ≤ s) (h4 : s < 2) (h5 : 0 ≤ w) (h6 : w < 40) : m_lettersOf d s w = some (ltn F s w, d) := by
  rw [m_lettersOf_e, hF]
  simp (disch := omega) only [↓reduceIte, zinT, wr_id, wrl_id, ltT, ltF, leT, leF, eqT, eqF, ne_eq, not_true_eq_false, not_false_eq_true, Option.bind_some, Ok_some, bi_0, bi_n0, bi_01]
  rfl
theorem n_letterOf (hF : d.m 133 = F) {s w k : Int} (h3 : 0 ≤ s) (h4 : s < 2) (h5 : 0 ≤ w) (h6 : w < 40) (h7 : 0 ≤ k) (h8 : k ≤ 7) : m_letterOf d s w k = some (ltr F s w k, d) := by
  rw [m_letterOf_e, hF]
  simp (disch := omega) only [↓reduceIte, zinT, wr_id, wrl_id, ltT, ltF, leT, leF, eqT, eqF, ne_eq, not_true_eq_false, not_false_eq_true, Option.bind_some, Ok_some, bi_0, bi_n0, bi_01]
  rfl
theorem n_shareOf (hF : d.m 133 = F) {w u v : Int} (h1 : 0 ≤ w) (h2 : w < 2) (h3 : 0 ≤ u) (h4 : u < 40) (h5 : 0 ≤ v) (h6 : v < 40) : m_shareOf d w u v = some (shr F w u v, d) := by
  rw [m_shareOf_e, hF]
  simp (disch := omega) only [↓reduceIte, zinT, wr_id, wrl_id, ltT, ltF, leT, leF, eqT, eqF, ne_eq, not_true_eq_false, not_false_eq_true, Option.bind_some, Ok_some, bi_0, bi_n0, bi_01]
  rfl
theorem n_isPartner (hF : d.m 133 = F) {w u v : Int} (h1 : 0 ≤ w) (h2 : w < 2) (h3 : 0 ≤ u) (h4 : u < 40) (h5 : 0 ≤ v) (h6 : v < 40) (h7 : I32 (shr F w u v)) : m_isPartner d w u v = some (bi (ptn F w u v), d) := by
  unfold I32 at h7
  rw [m_isPartner_e]
  simp (disch := omega) only [↓reduceIte, zinT, wr_id, wrl_id, ltT, ltF, leT, leF, eqT, eqF, ne_eq, not_true_eq_false, not_false_eq_true, Option.bind_some, Ok_some, bi_0, bi_n0, bi_01, n_shareOf hF]
  unfold ptn
  by_cases e : shr F w u v = -1
  · rw [if_pos e, decide_eq_true e]; rfl
  · rw [if_neg e, decide_eq_false e]; rfl
theorem n_isPair (hF : d.m 133 = F) (hw : WF F) {p : Int} (h : I32 p) : m_isPair d p = some (bi (decide (0 ≤ p ∧ p < prs F)), d) := by
  have a := hw.prs_
  have e : F (zix 0) = prs F := rfl
  rw [m_isPair_e, hF, e]
  simp (disch := omega) only [↓reduceIte, zinT, wr_id, wrl_id, ltT, ltF, leT, leF, eqT, eqF, ne_eq, not_true_eq_false, not_false_eq_true, Option.bind_some, Ok_some, bi_0, bi_n0, bi_01, n_in (d := d) (a := p) (b := 0) (c := prs F - 1) ⟨h, by unfold I32; omega, by unfold I32; omega⟩]
  rw [dec_iff (p := 0 ≤ p ∧ p ≤ prs F - 1) (q := 0 ≤ p ∧ p < prs F) (by omega)]
theorem n_isWord (hF : d.m 133 = F) (hw : WF F) {s w : Int} (h3 : 0 ≤ s) (h4 : s < 2) (h : I32 w) : m_isWord d s w = some (bi (decide (0 ≤ w ∧ w < wds F s)), d) := by
  have a := hw.wds_ h3 h4
  rw [m_isWord_e]
  simp (disch := omega) only [↓reduceIte, zinT, wr_id, wrl_id, ltT, ltF, leT, leF, eqT, eqF, ne_eq, not_true_eq_false, not_false_eq_true, Option.bind_some, Ok_some, bi_0, bi_n0, bi_01, n_words hF, n_in (d := d) (a := w) (b := 0) (c := wds F s - 1) ⟨h, by unfold I32; omega, by unfold I32; omega⟩]
  rw [dec_iff (p := 0 ≤ w ∧ w ≤ wds F s - 1) (q := 0 ≤ w ∧ w < wds F s) (by omega)]
theorem n_nearness (hF : d.m 133 = F) (hw : WF F) {w p i j : Int} (h1 : 0 ≤ w) (h2 : w < 2) (h3 : 0 ≤ p) (h4 : p < prs F) (h5 : 0 ≤ i) (h6 : i < lng F p w) (h7 : 0 ≤ j) (h8 : j < lng F p (1 - w)) : m_nearness d w p i j = some (nrn F w p i j, d) := by
  have a := hw.lng_ h3 h4 h1 h2
  have b := hw.lng_ h3 h4 (s := 1 - w) (by omega) (by omega)
  have c := mulb (a := lng F p w) (b := lng F p (1 - w)) (A := 6) (B := 6) (by omega) (by omega) (by omega) (by omega)
  have c1 : 1 ≤ lng F p w * lng F p (1 - w) := Int.mul_pos (by omega) (by omega)
  have q := hw.prs_
  have e := slt_le hw h1 h2 h3 h4 h5 h6 h7 h8
  have g : 0 ≤ slt F w p i j * 8 / (lng F p w * lng F p (1 - w)) := Int.ediv_nonneg (by omega) c.1
  have g2 : slt F w p i j * 8 / (lng F p w * lng F p (1 - w)) ≤ slt F w p i j * 8 := Int.ediv_le_self _ (by omega)
  have u1 := mulb (a := i) (b := lng F p (1 - w)) (A := 6) (B := 6) h5 (by omega) (by omega) (by omega)
  have u2 := mulb (a := j) (b := lng F p w) (A := 6) (B := 6) h7 (by omega) (by omega) (by omega)
  have z : m_size d (i * lng F p (1 - w) - j * lng F p w) = some (slt F w p i j, d) := by rw [n_size (by unfold I32; omega)]; rfl
  rw [m_nearness_e]
  simp (disch := omega) only [↓reduceIte, zinT, wr_id, wrl_id, ltT, ltF, leT, leF, eqT, eqF, ne_eq, not_true_eq_false, not_false_eq_true, Option.bind_some, Ok_some, bi_0, bi_n0, bi_01, n_longOf hF, z, zdiv0]
  rw [n_min (by unfold I32; omega)]
  simp (disch := omega) only [↓reduceIte, zinT, wr_id, wrl_id, ltT, ltF, leT, leF, eqT, eqF, ne_eq, not_true_eq_false, not_false_eq_true, Option.bind_some, Ok_some, bi_0, bi_n0, bi_01]
  unfold nrn
  by_cases hs : slt F w p i j * 8 / (lng F p w * lng F p (1 - w)) < 7
  · rw [if_pos hs, if_neg (by omega)]
  · rw [if_neg hs]
    by_cases h7 : 7 < slt F w p i j * 8 / (lng F p w * lng F p (1 - w))
    · rw [if_pos h7]
    · rw [if_neg h7]
      congr 2
      omega
theorem n_worth (hF : d.m 133 = F) (hw : WF F) {w p i j : Int} (h1 : 0 ≤ w) (h2 : w < 2) (h3 : 0 ≤ p) (h4 : p < prs F) (h5 : 0 ≤ i) (h6 : i < lng F p w) (h7 : 0 ≤ j) (h8 : j < lng F p (1 - w)) : m_worth d w p i j = some (wth F w p i j, d) := by
  have l1 := hw.lng_ h3 h4 h1 h2
  have l2 := hw.lng_ h3 h4 (s := 1 - w) (by omega) (by omega)
  have q0 := hw.prs_
  have q := hw.wds_ h1 h2
  have q2 := hw.wds_ (s := 1 - w) (by omega) (by omega)
  have q3 := hw.wrd_ h3 h4 h1 h2 h5 h6
  have q4 := hw.wrd_ h3 h4 (s := 1 - w) (by omega) (by omega) h7 h8
  have a := hw.ptn_ h1 h2 h3 h4 h5 h6 h7 h8
  have b := hw.shr_ (u := wrd F p w i) (v := wrd F p (1 - w) j) h1 h2 (by omega) (by omega) (by omega) (by omega)
  have c := nrn_le hw h1 h2 h3 h4 h5 h6 h7 h8
  have e := hw.ner_ h1 h2 c.1 (by omega)
  have hp := hw.plc_
  have e3 : F (zix 3) = plc F := rfl
  have e8 : F (zix ((8 + (8 * w)) + nrn F w p i j)) = ner F w (nrn F w p i j) := rfl
  rw [m_worth_e]
  simp (disch := omega) only [↓reduceIte, zinT, wr_id, wrl_id, ltT, ltF, leT, leF, eqT, eqF, ne_eq, not_true_eq_false, not_false_eq_true, Option.bind_some, Ok_some, bi_0, bi_n0, bi_01, n_wordOf hF, n_shareOf hF, hF, e3, n_nearness hF hw, e8]
  unfold wth plh
  by_cases hs : plc F = 0
  · rw [if_pos hs]
    simp (disch := omega) only [↓reduceIte, zinT, wr_id, wrl_id, ltT, ltF, leT, leF, eqT, eqF, ne_eq, not_true_eq_false, not_false_eq_true, Option.bind_some, Ok_some, bi_0, bi_n0, bi_01]
  · rw [if_neg hs]
    simp (disch := omega) only [↓reduceIte, zinT, wr_id, wrl_id, ltT, ltF, leT, leF, eqT, eqF, ne_eq, not_true_eq_false, not_false_eq_true, Option.bind_some, Ok_some, bi_0, bi_n0, bi_01]
end
