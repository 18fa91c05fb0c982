/-! SETS OF PLACES as numbers below 64; the place to which one is linked. -/
def tb (x j : Int) : Bool := x.toNat.testBit j.toNat
def nr (j : Int) : Int := zbin 7 (zbin 6 7 j) 1
def lt6 (x : Int) : Prop := 0 ≤ x ∧ x < 64
theorem z_or : ∀ a : Nat, a < 64 → ∀ b : Nat, b < 64 → 0 ≤ zbin 4 a b ∧ zbin 4 a b < 64 := by
  intro a ha b hb
  rw [b4 (by omega) (by omega)]
  have := Nat.or_lt_two_pow (n := 6) ha hb
  omega
theorem z_and : ∀ a : Nat, a < 64 → ∀ b : Nat, b < 64 → 0 ≤ zbin 3 a b ∧ zbin 3 a b < 64 := by
  intro a ha b hb
  rw [b3 (by omega) (by omega)]
  have : a &&& b ≤ a := Nat.and_le_left
  omega
theorem z_or6 {x y : Int} (hx : lt6 x) (hy : lt6 y) : lt6 (zbin 4 x y) := by
  obtain ⟨a, rfl⟩ := Int.eq_ofNat_of_zero_le hx.1
  obtain ⟨b, rfl⟩ := Int.eq_ofNat_of_zero_le hy.1
  exact z_or a (by have := hx.2; omega) b (by have := hy.2; omega)
theorem z_and6 {x y : Int} (hx : lt6 x) (hy : lt6 y) : lt6 (zbin 3 x y) := by
  obtain ⟨a, rfl⟩ := Int.eq_ofNat_of_zero_le hx.1
  obtain ⟨b, rfl⟩ := Int.eq_ofNat_of_zero_le hy.1
  exact z_and a (by have := hx.2; omega) b (by have := hy.2; omega)
theorem z_one : ∀ j : Nat, j < 6 → 0 < zbin 6 1 j ∧ zbin 6 1 j < 64 := by decide +kernel
theorem z_one6 {j : Int} (h0 : 0 ≤ j) (h1 : j < 6) : lt6 (zbin 6 1 j) ∧ zbin 6 1 j ≠ 0 := by
  obtain ⟨n, rfl⟩ := Int.eq_ofNat_of_zero_le h0
  have := z_one n (by omega)
  exact ⟨⟨by omega, by omega⟩, by omega⟩
theorem z_nr : ∀ j : Nat, j < 6 → zbin 7 (zbin 6 7 j) 1 = if (j : Int) = 0 then 3 else zbin 6 7 ((j : Int) - 1) := by decide +kernel
theorem nr_m {j : Int} (h0 : 0 ≤ j) (h1 : j < 6) : nr j = if j = 0 then 3 else zbin 6 7 (j - 1) := by
  obtain ⟨n, rfl⟩ := Int.eq_ofNat_of_zero_le h0
  exact z_nr n (by omega)
theorem z_near : ∀ x : Nat, x < 64 → ∀ j : Nat, j < 6 → 0 ≤ zbin 3 x (nr j) ∧ zbin 3 x (nr j) < 64 := by decide +kernel
theorem near6 {x j : Int} (hx : lt6 x) (h0 : 0 ≤ j) (h1 : j < 6) : lt6 (zbin 3 x (nr j)) := by
  obtain ⟨a, rfl⟩ := Int.eq_ofNat_of_zero_le hx.1
  obtain ⟨n, rfl⟩ := Int.eq_ofNat_of_zero_le h0
  exact z_near a (by have := hx.2; omega) n (by omega)
theorem z_not : ∀ s : Nat, s < 64 → zbin 5 s (-1) = -1 - (s : Int) := by decide +kernel
theorem z_andn : ∀ a : Nat, a < 64 → ∀ s : Nat, s < 64 → zbin 3 a (-1 - (s : Int)) = ((a &&& (63 - s) : Nat) : Int) := by decide +kernel
theorem z_bit1 : ∀ x : Nat, x < 64 → ∀ j : Nat, j < 6 → zbin 3 x (zbin 6 1 j) = if x.testBit j then zbin 6 1 j else 0 := by decide +kernel
theorem z_tbn : ∀ a : Nat, a < 64 → ∀ s : Nat, s < 64 → ∀ j : Nat, j < 6 → (a &&& (63 - s)).testBit j = (a.testBit j && !s.testBit j) := by decide +kernel
/-- what may come: in the one set and not in the other -/
theorem z_may {a s j : Int} (ha : lt6 a) (hs : lt6 s) (h0 : 0 ≤ j) (h1 : j < 6) : zbin 3 (zbin 3 a (zbin 5 s (-1))) (zbin 6 1 j) = if tb a j && !tb s j then zbin 6 1 j else 0 := by
  obtain ⟨a, rfl⟩ := Int.eq_ofNat_of_zero_le ha.1
  obtain ⟨s, rfl⟩ := Int.eq_ofNat_of_zero_le hs.1
  obtain ⟨j, rfl⟩ := Int.eq_ofNat_of_zero_le h0
  have a1 : a < 64 := by have := ha.2; omega
  have s1 : s < 64 := by have := hs.2; omega
  have j1 : j < 6 := by omega
  have e : a &&& (63 - s) < 64 := Nat.lt_of_le_of_lt Nat.and_le_left a1
  rw [z_not s s1, z_andn a a1 s s1, z_bit1 _ e j j1, z_tbn a a1 s s1 j j1]
  rfl
theorem z_tbor : ∀ a : Nat, a < 64 → ∀ j : Nat, j < 6 → ∀ k : Nat, k < 6 → (zbin 4 a (zbin 6 1 j)).toNat.testBit k = (a.testBit k || decide (k = j)) := by decide +kernel
theorem tb_or1 {a j k : Int} (ha : lt6 a) (h0 : 0 ≤ j) (h1 : j < 6) (h2 : 0 ≤ k) (h3 : k < 6) : tb (zbin 4 a (zbin 6 1 j)) k = (tb a k || decide (k = j)) := by
  obtain ⟨a, rfl⟩ := Int.eq_ofNat_of_zero_le ha.1
  obtain ⟨j, rfl⟩ := Int.eq_ofNat_of_zero_le h0
  obtain ⟨k, rfl⟩ := Int.eq_ofNat_of_zero_le h2
  have := z_tbor a (by have := ha.2; omega) j (by omega) k (by omega)
  unfold tb
  rw [show ((k : Int).toNat) = k from rfl, this, dec_iff (p := k = j) (q := (k : Int) = (j : Int)) (by omega)]
  rfl
theorem z_tb0 : ∀ j : Nat, (0 : Nat).testBit j = false := fun j => Nat.zero_testBit j
theorem tb_0 (j : Int) : tb 0 j = false := Nat.zero_testBit _
theorem z_or0 : ∀ a : Nat, a < 64 → zbin 4 a 0 = a := by decide +kernel
theorem or_0 {x : Int} (hx : lt6 x) : zbin 4 x 0 = x := by
  obtain ⟨a, rfl⟩ := Int.eq_ofNat_of_zero_le hx.1
  exact z_or0 a (by have := hx.2; omega)
theorem z_0or : ∀ a : Nat, a < 64 → zbin 4 0 a = a := by decide +kernel
theorem or_0' {x : Int} (hx : lt6 x) : zbin 4 0 x = x := by
  obtain ⟨a, rfl⟩ := Int.eq_ofNat_of_zero_le hx.1
  exact z_0or a (by have := hx.2; omega)
/-- the best place, and the one that is linked -/
def bst (F : Nat → Int) (w p j n : Int) : Int := fo n 0 (fun i b => if wth F w p b j < wth F w p i j ∨ (wth F w p i j = wth F w p b j ∧ slt F w p i j < slt F w p b j) then i else b)
def lkd (F : Nat → Int) (w p j : Int) : Int := if plh F w p (bst F w p j (lng F p w)) j < lst F then -1 else bst F w p j (lng F p w)
theorem bst_le {F : Nat → Int} {w p j n : Int} (h : 0 ≤ n) : 0 ≤ bst F w p j n ∧ (bst F w p j n < n ∨ bst F w p j n = 0) := by
  refine fo_ind (I := fun k b => 0 ≤ b ∧ (b < k ∨ b = 0)) h (by simp) (fun k t h0 h1 hi => ?_)
  (try dsimp only)
  split <;> omega
theorem lkd_le {F : Nat → Int} (hw : WF F) {w p j : Int} (h1 : 0 ≤ w) (h2 : w < 2) (h3 : 0 ≤ p) (h4 : p < prs F) : lkd F w p j = -1 ∨ (0 ≤ lkd F w p j ∧ lkd F w p j < lng F p w) := by
  have l := hw.lng_ h3 h4 h1 h2
  have := bst_le (F := F) (w := w) (p := p) (j := j) (n := lng F p w) (by omega)
  unfold lkd
  split
  · exact Or.inl rfl
  · exact Or.inr (by omega)
section
variable {P : zP} {d : zD P} {F : Nat → Int}
theorem k_chosen (h : CI d F) {w p j : Int} (h1 : 0 ≤ w) (h2 : w < 2) (h3 : 0 ≤ p) (h4 : p < prs F) (h7 : 0 ≤ j) (h8 : j < lng F p (1 - w)) : li_chosenPlace d w p j = some (lkd F w p j, d) := by
  have l := h.wf.lng_ h3 h4 h1 h2
  have q := h.wf.prs_
  have ql := h.wf.lst_
  rw [li_chosenPlace_e]
  refine Ok_eq (lpQ (fun k (y : Int × Int × zV × Int × zV × zV × zV) => li_chosenPlace_8 d (2, ((115 : Nat) : Int)) w p j y.1 y.2.1 y.2.2.1 y.2.2.2.1 k y.2.2.2.2.1 y.2.2.2.2.2.1 y.2.2.2.2.2.2) (fun k y => (k = 0 ∧ y.1 = -1) ∨ (1 ≤ k ∧ y.1 = bst F w p j k ∧ y.2.1 = wth F w p (bst F w p j k) j ∧ y.2.2.2.1 = slt F w p (bst F w p j k) j)) 0 (lng F p w) (by omega) (-1, 0, (3, 0), 0, (3, 0), (3, 0), (3, 0)) (Or.inl ⟨rfl, rfl⟩) (fun y hi => ?_) (fun k y hk hk2 hi hnext => ?_))
  · obtain ⟨c, g, z7, s, z10, z11, z12⟩ := y
    (try dsimp only at hi ⊢)
    rcases hi with hi | hi
    · omega
    · obtain ⟨-, rfl, rfl, rfl⟩ := hi
      have b := bst_le (F := F) (w := w) (p := p) (j := j) (n := lng F p w) (by omega)
      have pw := h.wf.ptn_ h1 h2 h3 h4 b.1 (by omega) h7 h8
      have q3 := h.wf.wrd_ h3 h4 h1 h2 b.1 (by omega)
      have q4 := h.wf.wrd_ h3 h4 (s := 1 - w) (by omega) (by omega) h7 h8
      have q5 := h.wf.wds_ h1 h2
      have q6 := h.wf.wds_ (s := 1 - w) (by omega) (by omega)
      have pw2 := h.wf.shr_ h1 h2 (u := wrd F p w (bst F w p j (lng F p w))) (v := wrd F p (1 - w) j) (by omega) (by omega) (by omega) (by omega)
      have pw3 : 0 ≤ plh F w p (bst F w p j (lng F p w)) j ∧ plh F w p (bst F w p j (lng F p w)) j ≤ 200000 := ⟨pw, pw2.2⟩
      rw [li_chosenPlace_8_e]
      simp (disch := omega) only [↓reduceIte, zinT, wr_id, wrl_id, ltT, ltF, leT, leF, eqT, eqF, ne_eq, not_true_eq_false, not_false_eq_true, Option.bind_some, Ok_some, bi_0, bi_n0, bi_01, h.ca.lng_, k_placeShare h, h.ca.lst_]
      unfold lkd
      by_cases c : plh F w p (bst F w p j (lng F p w)) j < lst F
      · rw [if_pos c, if_neg (by omega)]
        exact Ok_ret ⟨rfl, rfl⟩
      · rw [if_neg c, if_pos (by omega)]
        exact Ok_ret ⟨rfl, rfl⟩
  · obtain ⟨c, g, z7, s, z10, z11, z12⟩ := y
    (try dsimp only at hi ⊢)
    have wl := wth_le h.wf h1 h2 h3 h4 hk hk2 h7 h8
    have sl := slt_le h.wf h1 h2 h3 h4 hk hk2 h7 h8
    have eb : bst F w p j (k + 1) = _ := fo_s _ _ hk
    have eb' : bst F w p j (k + 1) = if wth F w p (bst F w p j k) j < wth F w p k j ∨ (wth F w p k j = wth F w p (bst F w p j k) j ∧ slt F w p k j < slt F w p (bst F w p j k) j) then k else bst F w p j k := eb
    rw [li_chosenPlace_8_e]
    simp (disch := omega) only [↓reduceIte, zinT, wr_id, wrl_id, ltT, ltF, leT, leF, eqT, eqF, ne_eq, not_true_eq_false, not_false_eq_true, Option.bind_some, Ok_some, bi_0, bi_n0, bi_01, h.ca.lng_, k_worth h, k_slant h.ca]
    rcases hi with ⟨rfl, rfl⟩ | ⟨hk1, rfl, rfl, rfl⟩
    · simp (disch := omega) only [↓reduceIte, zinT, wr_id, wrl_id, ltT, ltF, leT, leF, eqT, eqF, ne_eq, not_true_eq_false, not_false_eq_true, Option.bind_some, Ok_some, bi_0, bi_n0, bi_01]
      refine hnext (_, _, _, _, _, _, _) ?_
      have e0 : bst F w p j 0 = 0 := rfl
      rw [e0, if_neg (by omega)] at eb'
      refine Or.inr ⟨by omega, ?_, ?_, ?_⟩ <;> (try dsimp only) <;> rw [eb'] <;> rfl
    · have b := bst_le (F := F) (w := w) (p := p) (j := j) (n := k) hk
      have wl2 := wth_le h.wf h1 h2 h3 h4 b.1 (by omega) h7 h8
      have sl2 := slt_le h.wf h1 h2 h3 h4 b.1 (by omega) h7 h8
      simp (disch := omega) only [↓reduceIte, zinT, wr_id, wrl_id, ltT, ltF, leT, leF, eqT, eqF, ne_eq, not_true_eq_false, not_false_eq_true, Option.bind_some, Ok_some, bi_0, bi_n0, bi_01]
      by_cases c1 : wth F w p (bst F w p j k) j < wth F w p k j
      · rw [if_pos c1]
        refine hnext (_, _, _, _, _, _, _) ?_
        rw [if_pos (Or.inl c1)] at eb'
        refine Or.inr ⟨by omega, ?_, ?_, ?_⟩ <;> (try dsimp only) <;> rw [eb'] <;> rfl
      · rw [if_neg c1]
        by_cases c2 : wth F w p k j = wth F w p (bst F w p j k) j
        · rw [if_neg (fun x => x c2)]
          by_cases c3 : slt F w p (bst F w p j k) j ≤ slt F w p k j
          · rw [if_pos c3]
            refine hnext (_, _, _, _, _, _, _) ?_
            rw [if_neg (by omega)] at eb'
            refine Or.inr ⟨by omega, ?_, ?_, ?_⟩ <;> (try dsimp only) <;> rw [eb'] <;> rfl
          · rw [if_neg c3]
            refine hnext (_, _, _, _, _, _, _) ?_
            rw [if_pos (by omega)] at eb'
            refine Or.inr ⟨by omega, ?_, ?_, ?_⟩ <;> (try dsimp only) <;> rw [eb'] <;> rfl
        · rw [if_pos c2]
          refine hnext (_, _, _, _, _, _, _) ?_
          rw [if_neg (by omega)] at eb'
          refine Or.inr ⟨by omega, ?_, ?_, ?_⟩ <;> (try dsimp only) <;> rw [eb'] <;> rfl
/-! the model's -/
theorem slt_01 {p i j : Int} : slt F 1 p j i = slt F 0 p i j := by
  unfold slt
  rw [show (1 : Int) - 1 = 0 by omega, show (1 : Int) - 0 = 1 by omega]
  split <;> split <;> omega
theorem n_apart (hF : d.m 133 = F) (hw : WF F) {p i j : Int} (h3 : 0 ≤ p) (h4 : p < prs F) (h5 : 0 ≤ i) (h6 : i < lng F p 0) (h7 : 0 ≤ j) (h8 : j < lng F p 1) : m_apart d p i j = some (slt F 0 p i j, d) := by
  have q := hw.prs_
  have a := hw.lng_ h3 h4 (s := 0) (by omega) (by omega)
  have b := hw.lng_ h3 h4 (s := 1) (by omega) (by omega)
  have u1 := mulb (a := i) (b := lng F p 1) (A := 6) (B := 6) h5 (by omega) (by omega) (by omega)
  have u2 := mulb (a := j) (b := lng F p 0) (A := 6) (B := 6) h7 (by omega) (by omega) (by omega)
  rw [m_apart_e]
  simp (disch := omega) only [↓reduceIte, zinT, wr_id, wrl_id, ltT, ltF, leT, leF, eqT, eqF, ne_eq, not_true_eq_false, not_false_eq_true, Option.bind_some, Ok_some, bi_0, bi_n0, bi_01, n_longOf hF]
  rw [n_size (by unfold I32; omega)]
  simp (disch := omega) only [↓reduceIte, zinT, wr_id, wrl_id, ltT, ltF, leT, leF, eqT, eqF, ne_eq, not_true_eq_false, not_false_eq_true, Option.bind_some, Ok_some, bi_0, bi_n0, bi_01]
  unfold slt
  rw [show (1 : Int) - 0 = 1 by omega]
theorem n_isBetter0 (hF : d.m 133 = F) (hw : WF F) {p i j b : Int} (h3 : 0 ≤ p) (h4 : p < prs F) (h5 : 0 ≤ i) (h6 : i < lng F p 0) (h7 : 0 ≤ j) (h8 : j < lng F p 1) (h9 : 0 ≤ b) (h10 : b < lng F p 0) : m_isBetter d 0 p i j b j = some (bi (decide (wth F 0 p b j < wth F 0 p i j ∨ (wth F 0 p i j = wth F 0 p b j ∧ slt F 0 p i j < slt F 0 p b j))), d) := by
  have e10 : (1 : Int) - 0 = 1 := by omega
  have wl := wth_le hw (w := 0) (by omega) (by omega) h3 h4 h5 h6 h7 (by rw [e10]; exact h8)
  have wl2 := wth_le hw (w := 0) (by omega) (by omega) h3 h4 h9 h10 h7 (by rw [e10]; exact h8)
  have sl := slt_le hw (w := 0) (by omega) (by omega) h3 h4 h5 h6 h7 (by rw [e10]; exact h8)
  have sl2 := slt_le hw (w := 0) (by omega) (by omega) h3 h4 h9 h10 h7 (by rw [e10]; exact h8)
  have w1 := n_worth hF hw (w := 0) (by omega) (by omega) h3 h4 h5 h6 h7 (by rw [e10]; exact h8)
  have w2 := n_worth hF hw (w := 0) (by omega) (by omega) h3 h4 h9 h10 h7 (by rw [e10]; exact h8)
  rw [m_isBetter_e]
  simp (disch := omega) only [↓reduceIte, zinT, wr_id, wrl_id, ltT, ltF, leT, leF, eqT, eqF, ne_eq, not_true_eq_false, not_false_eq_true, Option.bind_some, Ok_some, bi_0, bi_n0, bi_01, w1, w2, n_apart hF hw]
  by_cases c1 : wth F 0 p i j = wth F 0 p b j
  · rw [if_pos c1]
    by_cases c2 : slt F 0 p b j ≤ slt F 0 p i j
    · rw [if_pos c2, bi_f (by omega)]
    · rw [if_neg c2, bi_t (by omega)]
  · rw [if_neg c1]
    by_cases c2 : wth F 0 p i j ≤ wth F 0 p b j
    · rw [if_pos c2, bi_f (by omega)]
    · rw [if_neg c2, bi_t (by omega)]
theorem n_isBetter1 (hF : d.m 133 = F) (hw : WF F) {p i j b : Int} (h3 : 0 ≤ p) (h4 : p < prs F) (h5 : 0 ≤ i) (h6 : i < lng F p 0) (h7 : 0 ≤ j) (h8 : j < lng F p 1) (h9 : 0 ≤ b) (h10 : b < lng F p 1) : m_isBetter d 1 p i j i b = some (bi (decide (wth F 1 p b i < wth F 1 p j i ∨ (wth F 1 p j i = wth F 1 p b i ∧ slt F 1 p j i < slt F 1 p b i))), d) := by
  have e10 : (1 : Int) - 1 = 0 := by omega
  have wl := wth_le hw (w := 1) (by omega) (by omega) h3 h4 h7 h8 h5 (by rw [e10]; exact h6)
  have wl2 := wth_le hw (w := 1) (by omega) (by omega) h3 h4 h9 h10 h5 (by rw [e10]; exact h6)
  have sl := slt_le hw (w := 1) (by omega) (by omega) h3 h4 h7 h8 h5 (by rw [e10]; exact h6)
  have sl2 := slt_le hw (w := 1) (by omega) (by omega) h3 h4 h9 h10 h5 (by rw [e10]; exact h6)
  have w1 := n_worth hF hw (w := 1) (by omega) (by omega) h3 h4 h7 h8 h5 (by rw [e10]; exact h6)
  have w2 := n_worth hF hw (w := 1) (by omega) (by omega) h3 h4 h9 h10 h5 (by rw [e10]; exact h6)
  have a1 := n_apart hF hw h3 h4 h5 h6 h7 h8
  have a2 := n_apart hF hw h3 h4 h5 h6 h9 h10
  rw [← slt_01] at a1 a2
  rw [m_isBetter_e]
  simp (disch := omega) only [↓reduceIte, zinT, wr_id, wrl_id, ltT, ltF, leT, leF, eqT, eqF, ne_eq, not_true_eq_false, not_false_eq_true, Option.bind_some, Ok_some, bi_0, bi_n0, bi_01, w1, w2, a1, a2]
  by_cases c1 : wth F 1 p j i = wth F 1 p b i
  · rw [if_pos c1]
    by_cases c2 : slt F 1 p b i ≤ slt F 1 p j i
    · rw [if_pos c2, bi_f (by omega)]
    · rw [if_neg c2, bi_t (by omega)]
  · rw [if_neg c1]
    by_cases c2 : wth F 1 p j i ≤ wth F 1 p b i
    · rw [if_pos c2, bi_f (by omega)]
    · rw [if_neg c2, bi_t (by omega)]
theorem n_isEnough (hF : d.m 133 = F) (hw : WF F) {w p i j : Int} (h3 : 0 ≤ p) (h4 : p < prs F) (h5 : 0 ≤ i) (h6 : i < lng F p 0) (h7 : 0 ≤ j) (h8 : j < lng F p 1) (hwy : w = 0 ∨ w = 1) : m_isEnough d w p i j = some (bi (decide (lst F ≤ if w = 0 then plh F 0 p i j else plh F 1 p j i)), d) := by
  have q := hw.prs_
  have ql := hw.lst_
  have a := hw.lng_ h3 h4 (s := 0) (by omega) (by omega)
  have b := hw.lng_ h3 h4 (s := 1) (by omega) (by omega)
  have q3 := hw.wrd_ h3 h4 (s := 0) (by omega) (by omega) h5 h6
  have q4 := hw.wrd_ h3 h4 (s := 1) (by omega) (by omega) h7 h8
  have q5 := hw.wds_ (s := 0) (by omega) (by omega)
  have q6 := hw.wds_ (s := 1) (by omega) (by omega)
  have e1 : F (zix 1) = lst F := rfl
  have p1 := hw.shr_ (w := 0) (u := wrd F p 0 i) (v := wrd F p 1 j) (by omega) (by omega) (by omega) (by omega) (by omega) (by omega)
  have p2 := hw.shr_ (w := 1) (u := wrd F p 1 j) (v := wrd F p 0 i) (by omega) (by omega) (by omega) (by omega) (by omega) (by omega)
  have e10 : (1 : Int) - 0 = 1 := by omega
  have e11 : (1 : Int) - 1 = 0 := by omega
  rw [m_isEnough_e]
  rcases hwy with rfl | rfl
  · simp (disch := omega) only [↓reduceIte, zinT, wr_id, wrl_id, ltT, ltF, leT, leF, eqT, eqF, ne_eq, not_true_eq_false, not_false_eq_true, Option.bind_some, Ok_some, bi_0, bi_n0, bi_01, n_wordOf hF, n_shareOf hF, hF, e1, if_true]
    unfold plh
    rw [e10]
    by_cases c : shr F 0 (wrd F p 0 i) (wrd F p 1 j) < lst F
    · rw [if_pos c, bi_f (by omega)]
    · rw [if_neg c, bi_t (by omega)]
  · simp (disch := omega) only [↓reduceIte, zinT, wr_id, wrl_id, ltT, ltF, leT, leF, eqT, eqF, ne_eq, not_true_eq_false, not_false_eq_true, Option.bind_some, Ok_some, bi_0, bi_n0, bi_01, n_wordOf hF, n_shareOf hF, hF, e1]
    unfold plh
    rw [e11]
    by_cases c : shr F 1 (wrd F p 1 j) (wrd F p 0 i) < lst F
    · rw [if_pos c, bi_f (by omega)]
    · rw [if_neg c, bi_t (by omega)]
end
