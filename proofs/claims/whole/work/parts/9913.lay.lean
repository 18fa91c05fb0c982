/-! PAIRS COME: the model lays them, as a matter of files. -/
def LI (C F : Nat → Int) (ln : Int → Int → Int) (ky : Int → Int → Int → Int) (r : Int) (V : Int → Int × (Int → Int)) : Prop := prs C = prs F + r
  ∧ (∀ s, 0 ≤ s → s < 2 → VW C s ∧ wds C s = (V s).1 ∧ ∀ w, 0 ≤ w → w < (V s).1 → key C s w = (V s).2 w)
  ∧ (∀ p s, 0 ≤ p → p < prs F → 0 ≤ s → s < 2 → lng C p s = lng F p s ∧ ∀ i, 0 ≤ i → i < lng F p s → wrd C p s i = wrd F p s i)
  ∧ (∀ p i, 0 ≤ p → p < prs F → 0 ≤ i → i < 6 → tld C p i = tld F p i)
  ∧ (∀ q s, 0 ≤ q → q < r → 0 ≤ s → s < 2 → lng C (prs F + q) s = ln s q ∧ ∀ i, 0 ≤ i → i < ln s q → wrd C (prs F + q) s i = vfi (V s) (ky s q i) ∧ vfi (V s) (ky s q i) ≠ -1)
  ∧ (∀ q i, 0 ≤ q → q < r → 0 ≤ i → i < 6 → tld C (prs F + q) i = 0)
  ∧ (lst C = lst F ∧ ltd C = ltd F ∧ plc C = plc F)
  ∧ ∀ q : Nat, 4344 ≤ q → C q = F q
def LQ (C F : Nat → Int) (ln : Int → Int → Int) (ky : Int → Int → Int → Int) (r : Int) (k : Int → Int) (V : Int → Int × (Int → Int)) : Prop := LI C F ln ky r V ∧ prs F + r < 24
  ∧ (∀ s, 0 ≤ s → s < 2 → (0 ≤ k s ∧ k s ≤ 6) ∧ lng C (prs F + r) s = k s ∧ ∀ i, 0 ≤ i → i < k s → wrd C (prs F + r) s i = vfi (V s) (ky s r i) ∧ vfi (V s) (ky s r i) ≠ -1)
  ∧ ∀ i, 0 ≤ i → i < 6 → tld C (prs F + r) i = 0
/-- readers of a file that was changed elsewhere -/
theorem key_eq {C C' : Nat → Int} {s w : Int} (hv : 1 ≤ ltn C s w ∧ gOK (ltn C s w) (fun k => ltr C s w k)) (e1 : ltn C' s w = ltn C s w) (e2 : ∀ k, 0 ≤ k → k < 7 → ltr C' s w k = ltr C s w k) : (1 ≤ ltn C' s w ∧ gOK (ltn C' s w) (fun k => ltr C' s w k)) ∧ key C' s w = key C s w := by
  have l := hv.2.1
  unfold key
  rw [e1]
  refine ⟨⟨hv.1, l, fun k k0 k1 => ?_⟩, kof_co l.1 (fun k k0 k1 => e2 k k0 (by omega))⟩
  (try dsimp only)
  rw [e2 k k0 (by omega)]
  exact hv.2.2 k k0 k1
section
variable {C C' F : Nat → Int} {ln : Int → Int → Int} {ky : Int → Int → Int → Int} {r : Int} {k : Int → Int} {V : Int → Int × (Int → Int)}
theorem VW_eq {s n : Int} (hv : VW C s) (s0 : 0 ≤ s) (s1 : s < 2) (hn : wds C s = n) (hw : wds C' s = n) (e : ∀ q : Nat, 504 + 320 * s ≤ q → (q : Int) < 504 + 320 * s + 8 * n → C' q = C q) : VW C' s ∧ ∀ w, 0 ≤ w → w < n → key C' s w = key C s w := by
  have b := hv.1
  rw [hn] at b
  have eq : ∀ w, 0 ≤ w → w < n → ltn C' s w = ltn C s w ∧ ∀ k, 0 ≤ k → k < 7 → ltr C' s w k = ltr C s w k := fun w w0 w1 => by
    unfold ltn ltr
    have z : zix (504 + (8 * ((40 * s) + w))) = (504 + (8 * ((40 * s) + w))).toNat := zix_id (by omega)
    refine ⟨e _ (by omega) (by omega), fun k k0 k1 => ?_⟩
    have z : zix (((504 + (8 * ((40 * s) + w))) + 1) + k) = (((504 + (8 * ((40 * s) + w))) + 1) + k).toNat := zix_id (by omega)
    exact e _ (by omega) (by omega)
  have kk : ∀ w, 0 ≤ w → w < n → (1 ≤ ltn C' s w ∧ gOK (ltn C' s w) (fun k => ltr C' s w k)) ∧ key C' s w = key C s w := fun w w0 w1 => key_eq (hv.2 w w0 (by rw [hn]; exact w1)) (eq w w0 w1).1 (eq w w0 w1).2
  refine ⟨⟨by rw [hw]; exact b, fun w w0 w1 => ?_⟩, fun w w0 w1 => (kk w w0 w1).2⟩
  rw [hw] at w1
  exact (kk w w0 w1).1
/-- a file that is alike in all that is told by now -/
theorem LI_eq (hF : WFc F) (r0 : 0 ≤ r) (h24 : prs F + r ≤ 24) (l6 : ∀ s q, 0 ≤ s → s < 2 → 0 ≤ q → q < r → ln s q ≤ 6) (h : LI C F ln ky r V) (e : ∀ q : Nat, (q < 6 ∨ (24 ≤ q ∧ (q : Int) < 24 + 20 * (prs F + r)) ∨ (504 ≤ q ∧ (q : Int) < 504 + 8 * (V 0).1) ∨ (824 ≤ q ∧ (q : Int) < 824 + 8 * (V 1).1) ∨ 4344 ≤ q) → C' q = C q) : LI C' F ln ky r V := by
  obtain ⟨h1, h2, h3, h4, h5, h6, h7, h8⟩ := h
  have p0 := hF.1
  have z0 : zix 0 = 0 := by rw [zix_id (by omega)]; rfl
  have lF : ∀ p s, 0 ≤ p → p < prs F → 0 ≤ s → s < 2 → lng F p s ≤ 6 := fun p s a b c f => (hF.2.1 p s a b c f).2
  have eL : ∀ p s, 0 ≤ p → p < prs F + r → 0 ≤ s → s < 2 → lng C' p s = lng C p s := fun p s a b c f => by
    unfold lng
    have z : zix ((24 + (20 * p)) + s) = ((24 + (20 * p)) + s).toNat := zix_id (by omega)
    exact e _ (by omega)
  have eW : ∀ p s i, 0 ≤ p → p < prs F + r → 0 ≤ s → s < 2 → 0 ≤ i → i < 6 → wrd C' p s i = wrd C p s i := fun p s i a b c f i0 i1 => by
    unfold wrd
    have z : zix ((((24 + (20 * p)) + 2) + (6 * s)) + i) = ((((24 + (20 * p)) + 2) + (6 * s)) + i).toNat := zix_id (by omega)
    exact e _ (by omega)
  have eT : ∀ p i, 0 ≤ p → p < prs F + r → 0 ≤ i → i < 6 → tld C' p i = tld C p i := fun p i a b i0 i1 => by
    unfold tld
    have z : zix (((24 + (20 * p)) + 14) + i) = (((24 + (20 * p)) + 14) + i).toNat := zix_id (by omega)
    exact e _ (by omega)
  have e1 : ∀ x, 0 ≤ x → x < 6 → C' (zix x) = C (zix x) := fun x x0 x1 => e _ (by rw [zix_id (by omega)]; omega)
  refine ⟨(e1 0 (by omega) (by omega)).trans h1, fun s s0 s1 => ?_, fun p s a b c f => ⟨(eL p s a (by omega) c f).trans (h3 p s a b c f).1, fun i i0 i1 => (eW p s i a (by omega) c f i0 (by have := lF p s a b c f; omega)).trans ((h3 p s a b c f).2 i i0 i1)⟩, fun p i a b i0 i1 => (eT p i a (by omega) i0 i1).trans (h4 p i a b i0 i1), fun q s a b c f => ⟨(eL (prs F + q) s (by omega) (by omega) c f).trans (h5 q s a b c f).1, fun i i0 i1 => ?_⟩, fun q i a b i0 i1 => (eT (prs F + q) i (by omega) (by omega) i0 i1).trans (h6 q i a b i0 i1), ⟨(e1 1 (by omega) (by omega)).trans h7.1, (e1 2 (by omega) (by omega)).trans h7.2.1, (e1 3 (by omega) (by omega)).trans h7.2.2⟩, fun q hq => (e q (by omega)).trans (h8 q hq)⟩
  · have g := h2 s s0 s1
    have ew : wds C' s = (V s).1 := (e1 (4 + s) (by omega) (by omega)).trans g.2.1
    have x := VW_eq g.1 s0 s1 g.2.1 ew (fun q q0 q1 => e q (by
      rcases (by omega : s = 0 ∨ s = 1) with rfl | rfl
      · omega
      · omega))
    exact ⟨x.1, ew, fun w w0 w1 => (x.2 w w0 w1).trans (g.2.2 w w0 w1)⟩
  · have l := l6 s q c f a b
    have g := (h5 q s a b c f).2 i i0 i1
    exact ⟨(eW (prs F + q) s i (by omega) (by omega) c f i0 (by omega)).trans g.1, g.2⟩
/-- a pair begins -/
theorem LQ_0 (hF : WFc F) (r0 : 0 ≤ r) (h24 : prs F + r < 24) (l6 : ∀ s q, 0 ≤ s → s < 2 → 0 ≤ q → q < r → ln s q ≤ 6) (h : LI C F ln ky r V) (e : ∀ q : Nat, C' q = if 24 + 20 * (prs F + r) ≤ q ∧ (q : Int) < 24 + 20 * (prs F + r) + 20 then 0 else C q) : LQ C' F ln ky r (fun _ => 0) V := by
  have p0 := hF.1
  refine ⟨LI_eq hF r0 (by omega) l6 h (fun q hq => by rw [e q, if_neg (by omega)]), h24, fun s s0 s1 => ⟨by (try dsimp only); omega, ?_, fun i i0 i1 => by (try dsimp only at i1); omega⟩, fun i i0 i1 => ?_⟩
  · unfold lng
    rw [e, zix_id (by omega), if_pos (by omega)]
  · unfold tld
    rw [e, zix_id (by omega), if_pos (by omega)]
/-- a pair is full -/
theorem LQ_end (hF : WFc F) (r0 : 0 ≤ r) (l6 : ∀ s q, 0 ≤ s → s < 2 → 0 ≤ q → q < r + 1 → 1 ≤ ln s q ∧ ln s q ≤ 6) (h : LQ C F ln ky r (fun s => ln s r) V) (e : ∀ q : Nat, C' q = if q = 0 then prs F + r + 1 else C q) : LI C' F ln ky (r + 1) V := by
  obtain ⟨h0, h24, hk, ht⟩ := h
  have p0 := hF.1
  have z0 : zix 0 = 0 := by rw [zix_id (by omega)]; rfl
  have sm : ∀ q : Nat, q ≠ 0 → C' q = C q := fun q hq => by rw [e q, if_neg hq]
  obtain ⟨h1, h2, h3, h4, h5, h6, h7, h8⟩ := h0
  have lF : ∀ p s, 0 ≤ p → p < prs F → 0 ≤ s → s < 2 → lng F p s ≤ 6 := fun p s a b c f => (hF.2.1 p s a b c f).2
  have eL : ∀ p s, 0 ≤ p → p < 24 → 0 ≤ s → s < 2 → lng C' p s = lng C p s := fun p s a b c f => by
    unfold lng
    exact sm _ (by rw [zix_id (by omega)]; omega)
  have eW : ∀ p s i, 0 ≤ p → p < 24 → 0 ≤ s → s < 2 → 0 ≤ i → i < 6 → wrd C' p s i = wrd C p s i := fun p s i a b c f i0 i1 => by
    unfold wrd
    exact sm _ (by rw [zix_id (by omega)]; omega)
  have eT : ∀ p i, 0 ≤ p → p < 24 → 0 ≤ i → i < 6 → tld C' p i = tld C p i := fun p i a b i0 i1 => by
    unfold tld
    exact sm _ (by rw [zix_id (by omega)]; omega)
  have e1 : ∀ x, 1 ≤ x → x < 6 → C' (zix x) = C (zix x) := fun x x0 x1 => sm _ (by rw [zix_id (by omega)]; omega)
  refine ⟨?_, fun s s0 s1 => ?_, fun p s a b c f => ⟨(eL p s a (by omega) c f).trans (h3 p s a b c f).1, fun i i0 i1 => (eW p s i a (by omega) c f i0 (by have := lF p s a b c f; omega)).trans ((h3 p s a b c f).2 i i0 i1)⟩, fun p i a b i0 i1 => (eT p i a (by omega) i0 i1).trans (h4 p i a b i0 i1), fun q s a b c f => ?_, fun q i a b i0 i1 => ?_, ⟨(e1 1 (by omega) (by omega)).trans h7.1, (e1 2 (by omega) (by omega)).trans h7.2.1, (e1 3 (by omega) (by omega)).trans h7.2.2⟩, fun q hq => (sm q (by omega)).trans (h8 q hq)⟩
  · unfold prs at *
    rw [e, z0, if_pos rfl]
    omega
  · have g := h2 s s0 s1
    have ew : wds C' s = (V s).1 := (e1 (4 + s) (by omega) (by omega)).trans g.2.1
    have x := VW_eq g.1 s0 s1 g.2.1 ew (fun q q0 q1 => sm q (by omega))
    exact ⟨x.1, ew, fun w w0 w1 => (x.2 w w0 w1).trans (g.2.2 w w0 w1)⟩
  · have l := l6 s q c f a b
    by_cases c' : q = r
    · rw [c'] at l ⊢
      have g := hk s c f
      (try dsimp only at g)
      refine ⟨(eL (prs F + r) s (by omega) (by omega) c f).trans g.2.1, fun i i0 i1 => ?_⟩
      exact ⟨(eW (prs F + r) s i (by omega) (by omega) c f i0 (by omega)).trans (g.2.2 i i0 i1).1, (g.2.2 i i0 i1).2⟩
    · have g := h5 q s a (by omega) c f
      exact ⟨(eL (prs F + q) s (by omega) (by omega) c f).trans g.1, fun i i0 i1 => ⟨(eW (prs F + q) s i (by omega) (by omega) c f i0 (by omega)).trans (g.2 i i0 i1).1, (g.2 i i0 i1).2⟩⟩
  · by_cases c' : q = r
    · rw [c']
      exact (eT (prs F + r) i (by omega) (by omega) i0 i1).trans (ht i i0 i1)
    · exact (eT (prs F + q) i (by omega) (by omega) i0 i1).trans (h6 q i a (by omega) i0 i1)
/-- a word's number is put -/
theorem LQ_num (hF : WFc F) (r0 : 0 ≤ r) (l6 : ∀ s q, 0 ≤ s → s < 2 → 0 ≤ q → q < r → ln s q ≤ 6) (h : LQ C F ln ky r k V) {s : Int} (s0 : 0 ≤ s) (s1 : s < 2) (k6 : k s < 6) (hn : vfi (V s) (ky s r (k s)) ≠ -1) (e : ∀ q : Nat, C' q = if (q : Int) = 24 + 20 * (prs F + r) + s then k s + 1 else if (q : Int) = 24 + 20 * (prs F + r) + 2 + 6 * s + k s then vfi (V s) (ky s r (k s)) else C q) : LQ C' F ln ky r (fun x => if x = s then k s + 1 else k x) V := by
  obtain ⟨h0, h24, hk, ht⟩ := h
  have p0 := hF.1
  have ks := (hk s s0 s1).1
  refine ⟨LI_eq hF r0 (by omega) l6 h0 (fun q hq => by rw [e q, if_neg (by omega), if_neg (by omega)]), h24, fun x x0 x1 => ?_, fun i i0 i1 => ?_⟩
  · have g := hk x x0 x1
    (try dsimp only)
    by_cases c : x = s
    · rw [if_pos c]
      rw [c] at g ⊢
      refine ⟨by omega, ?_, fun i i0 i1 => ?_⟩
      · unfold lng
        rw [e, zix_id (by omega), if_pos (by omega)]
      · by_cases ci : i = k s
        · rw [ci]
          refine ⟨?_, hn⟩
          unfold wrd
          rw [e, zix_id (by omega), if_neg (by omega), if_pos (by omega)]
        · refine ⟨?_, (g.2.2 i i0 (by omega)).2⟩
          have q := (g.2.2 i i0 (by omega)).1
          unfold wrd at q ⊢
          rw [e, if_neg (by rw [zix_id (by omega)]; omega), if_neg (by rw [zix_id (by omega)]; omega)]
          exact q
    · rw [if_neg c]
      have kx := g.1
      refine ⟨g.1, ?_, fun i i0 i1 => ⟨?_, (g.2.2 i i0 i1).2⟩⟩
      · have q := g.2.1
        unfold lng at q ⊢
        rw [e, if_neg (by rw [zix_id (by omega)]; omega), if_neg (by rw [zix_id (by omega)]; omega)]
        exact q
      · have q := (g.2.2 i i0 i1).1
        unfold wrd at q ⊢
        rw [e, if_neg (by rw [zix_id (by omega)]; omega), if_neg (by rw [zix_id (by omega)]; omega)]
        exact q
  · have q := ht i i0 i1
    unfold tld at q ⊢
    rw [e, if_neg (by rw [zix_id (by omega)]; omega), if_neg (by rw [zix_id (by omega)]; omega)]
    exact q
/-- a new word -/
theorem LQ_new (hF : WFc F) (r0 : 0 ≤ r) (l6 : ∀ s q, 0 ≤ s → s < 2 → 0 ≤ q → q < r → ln s q ≤ 6) (h : LQ C F ln ky r k V) {s hn : Int} {hl : Int → Int} (s0 : 0 ≤ s) (s1 : s < 2) (n40 : (V s).1 < 40) (ok : gOK hn hl) (n1 : 1 ≤ hn) (hK : kof hn hl = ky s r (k s)) (hno : vfi (V s) (ky s r (k s)) = -1) (e : ∀ q : Nat, (q : Int) ≠ 4 + s → ¬ (504 + 8 * (40 * s + (V s).1) ≤ q ∧ (q : Int) < 504 + 8 * (40 * s + (V s).1) + 8) → C' q = C q) (ew : wds C' s = (V s).1 + 1) (el : ltn C' s (V s).1 = hn ∧ ∀ j, 0 ≤ j → j < hn → ltr C' s (V s).1 j = hl j) : LQ C' F ln ky r k (fun x => if x = s then vad (V s) (ky s r (k s)) else V x) := by
  obtain ⟨h0, h24, hk, ht⟩ := h
  have p0 := hF.1
  obtain ⟨h1, h2, h3, h4, h5, h6, h7, h8⟩ := h0
  have z0 : zix 0 = 0 := by rw [zix_id (by omega)]; rfl
  have gs := h2 s s0 s1
  have bs := gs.1.1
  rw [gs.2.1] at bs
  have lF : ∀ p s, 0 ≤ p → p < prs F → 0 ≤ s → s < 2 → lng F p s ≤ 6 := fun p s a b c f => (hF.2.1 p s a b c f).2
  have eL : ∀ p s, 0 ≤ p → p < 24 → 0 ≤ s → s < 2 → lng C' p s = lng C p s := fun p s a b c f => by
    unfold lng
    exact e _ (by rw [zix_id (by omega)]; omega) (by rw [zix_id (by omega)]; omega)
  have eW : ∀ p s i, 0 ≤ p → p < 24 → 0 ≤ s → s < 2 → 0 ≤ i → i < 6 → wrd C' p s i = wrd C p s i := fun p s i a b c f i0 i1 => by
    unfold wrd
    exact e _ (by rw [zix_id (by omega)]; omega) (by rw [zix_id (by omega)]; omega)
  have eT : ∀ p i, 0 ≤ p → p < 24 → 0 ≤ i → i < 6 → tld C' p i = tld C p i := fun p i a b i0 i1 => by
    unfold tld
    exact e _ (by rw [zix_id (by omega)]; omega) (by rw [zix_id (by omega)]; omega)
  have e1 : ∀ x, 0 ≤ x → x < 6 → x ≠ 4 + s → C' (zix x) = C (zix x) := fun x x0 x1 x2 => e _ (by rw [zix_id (by omega)]; omega) (by rw [zix_id (by omega)]; omega)
  have ev : vad (V s) (ky s r (k s)) = ((V s).1 + 1, fun w => if w = (V s).1 then ky s r (k s) else (V s).2 w) := by
    unfold vad
    rw [if_pos hno]
  have vxs : ∀ x, vx (V x) ((fun x => if x = s then vad (V s) (ky s r (k s)) else V x) x) := fun x => by
    (try dsimp only)
    by_cases c : x = s
    · rw [if_pos c, c]; exact vx_ad
    · rw [if_neg c]; exact vx_rf
  have v0 : ∀ x, 0 ≤ x → x < 2 → 0 ≤ (V x).1 := fun x x0 x1 => by
    have g := h2 x x0 x1
    rw [← g.2.1]
    exact g.1.1.1
  have st : ∀ x K, 0 ≤ x → x < 2 → vfi (V x) K ≠ -1 → vfi ((fun x => if x = s then vad (V s) (ky s r (k s)) else V x) x) K = vfi (V x) K := fun x K x0 x1 hne => vfi_x (v0 x x0 x1) (vxs x) hne
  have l6' : ∀ x q, 0 ≤ x → x < 2 → 0 ≤ q → q < r → ∀ i, i < ln x q → i < 6 := fun x q x0 x1 q0 q1 i i1 => by have := l6 x q x0 x1 q0 q1; omega
  refine ⟨⟨(e1 0 (by omega) (by omega) (by omega)).trans h1, fun x x0 x1 => ?_, fun p s a b c f => ⟨(eL p s a (by omega) c f).trans (h3 p s a b c f).1, fun i i0 i1 => (eW p s i a (by omega) c f i0 (by have := lF p s a b c f; omega)).trans ((h3 p s a b c f).2 i i0 i1)⟩, fun p i a b i0 i1 => (eT p i a (by omega) i0 i1).trans (h4 p i a b i0 i1), fun q x a b c f => ⟨(eL (prs F + q) x (by omega) (by omega) c f).trans (h5 q x a b c f).1, fun i i0 i1 => ?_⟩, fun q i a b i0 i1 => (eT (prs F + q) i (by omega) (by omega) i0 i1).trans (h6 q i a b i0 i1), ⟨(e1 1 (by omega) (by omega) (by omega)).trans h7.1, (e1 2 (by omega) (by omega) (by omega)).trans h7.2.1, (e1 3 (by omega) (by omega) (by omega)).trans h7.2.2⟩, fun q hq => (e q (by omega) (by omega)).trans (h8 q hq)⟩, h24, fun x x0 x1 => ?_, fun i i0 i1 => (eT (prs F + r) i (by omega) (by omega) i0 i1).trans (ht i i0 i1)⟩
  · have g := h2 x x0 x1
    (try dsimp only)
    by_cases c : x = s
    · rw [if_pos c, ev, c]
      (try dsimp only)
      have old : ∀ w, 0 ≤ w → w < (V s).1 → (1 ≤ ltn C' s w ∧ gOK (ltn C' s w) (fun j => ltr C' s w j)) ∧ key C' s w = key C s w := fun w w0 w1 => by
        refine key_eq (gs.1.2 w w0 (by rw [gs.2.1]; exact w1)) ?_ (fun j j0 j1 => ?_)
        · unfold ltn
          exact e _ (by rw [zix_id (by omega)]; omega) (by rw [zix_id (by omega)]; omega)
        · unfold ltr
          exact e _ (by rw [zix_id (by omega)]; omega) (by rw [zix_id (by omega)]; omega)
      have new : (1 ≤ ltn C' s (V s).1 ∧ gOK (ltn C' s (V s).1) (fun j => ltr C' s (V s).1 j)) ∧ key C' s (V s).1 = ky s r (k s) := by
        unfold key
        rw [el.1]
        refine ⟨⟨n1, ok.1, fun j j0 j1 => ?_⟩, ?_⟩
        · (try dsimp only)
          rw [el.2 j j0 j1]
          exact ok.2 j j0 j1
        · rw [← hK]
          exact kof_co (by omega) el.2
      refine ⟨⟨by omega, fun w w0 w1 => ?_⟩, ew, fun w w0 w1 => ?_⟩
      · rw [ew] at w1
        by_cases cw : w = (V s).1
        · rw [cw]; exact new.1
        · exact (old w w0 (by omega)).1
      · by_cases cw : w = (V s).1
        · rw [if_pos cw, cw]; exact new.2
        · rw [if_neg cw, (old w w0 (by omega)).2]
          exact gs.2.2 w w0 (by omega)
    · rw [if_neg c]
      have bx := g.1.1
      rw [g.2.1] at bx
      have ewx : wds C' x = (V x).1 := (e1 (4 + x) (by omega) (by omega) (by omega)).trans g.2.1
      have y := VW_eq g.1 x0 x1 g.2.1 ewx (fun q q0 q1 => e q (by omega) (by omega))
      exact ⟨y.1, ewx, fun w w0 w1 => (y.2 w w0 w1).trans (g.2.2 w w0 w1)⟩
  · have gg := (h5 q x a b c f).2 i i0 i1
    have es := st x (ky x q i) c f gg.2
    (try dsimp only at es ⊢)
    rw [es]
    exact ⟨(eW (prs F + q) x i (by omega) (by omega) c f i0 (l6' x q c f a b i i1)).trans gg.1, gg.2⟩
  · have g := hk x x0 x1
    refine ⟨g.1, (eL (prs F + r) x (by omega) (by omega) x0 x1).trans g.2.1, fun i i0 i1 => ?_⟩
    have gg := g.2.2 i i0 i1
    have es := st x (ky x r i) x0 x1 gg.2
    (try dsimp only at es ⊢)
    rw [es]
    exact ⟨(eW (prs F + r) x i (by omega) (by omega) x0 x1 i0 (by omega)).trans gg.1, gg.2⟩
end
