/-! LETTERS IN A SHEET'S SENTENCE, both sides. -/
theorem sm_one {g : Int → Int} {n : Int} (n0 : 0 ≤ n) (h : ∀ k, 0 ≤ k → k < n → g k = 1) : sm n g = n := by
  obtain ⟨m, rfl⟩ := Int.eq_ofNat_of_zero_le n0
  clear n0
  induction m with
  | zero => rfl
  | succ m ih =>
    rw [show ((m + 1 : Nat) : Int) = (m : Int) + 1 by omega, sm_s _ (by omega), ih (fun k a b => h k a (by omega)), h m (by omega) (by omega)]
/-- letters of the first words of a text -/
def lqF (H : Int → Int) (q m : Int) : Int := sm m (fun i => wln H (wst H q i))
theorem lqF_s {H : Int → Int} {q m : Int} (h : 0 ≤ m) : lqF H q (m + 1) = lqF H q m + wln H (wst H q m) := sm_s _ h
/-- signs that are no spaces -/
def nsF (H : Int → Int) (q m : Int) : Int := sm m (fun k => if H (q + k) = 32 then 0 else 1)
theorem nsF_s {H : Int → Int} {q m : Int} (h : 0 ≤ m) : nsF H q (m + 1) = nsF H q m + if H (q + m) = 32 then 0 else 1 := sm_s _ h
theorem nsF_word {H : Int → Int} {q x : Int} (x0 : 0 ≤ x) (w0 : 0 ≤ wln H (q + x)) : nsF H q (x + wln H (q + x)) = nsF H q x + wln H (q + x) := by
  have l := wln_le (H := H) (q := q + x)
  unfold nsF
  rw [sm_cat x0 w0, sm_one w0 (fun k k0 k1 => ?_)]
  have := wln_L (H := H) (q := q + x) k0 (by omega) (Or.inl k1)
  (try dsimp only)
  rw [show q + (x + k) = q + x + k by omega, if_neg (by omega)]
theorem wst_lq {H : Int → Int} {q : Int} : ∀ m : Nat, wst H q m = q + lqF H q m + m := by
  intro m
  induction m with
  | zero =>
    rw [show ((0 : Nat) : Int) = 0 from rfl, wst_0]
    show q = q + 0 + 0
    omega
  | succ m ih =>
    rw [show ((m + 1 : Nat) : Int) = (m : Int) + 1 by omega, wst_s (by omega), lqF_s (by omega), ih]
    omega
theorem lqF_le {H : Int → Int} {q L : Int} (L0 : 0 ≤ L) (h : ∀ i, 0 ≤ i → i < L → 1 ≤ wln H (wst H q i) ∧ wln H (wst H q i) ≤ 7) : 0 ≤ lqF H q L ∧ lqF H q L ≤ L * 7 := sm_le L0 (fun k k0 k1 => by have := h k k0 k1; omega)
theorem nsF_sen {H : Int → Int} {n q L : Int} (sg : sgn H n) (q0 : 0 ≤ q) (qn : q ≤ n) (hs : (sen H 6 0 q).1 = 0) (hL : L = (sen H 6 0 q).2.2) : nsF H q ((sen H 6 0 q).2.1 - q) = lqF H q L ∧ (sen H 6 0 q).2.1 - q = lqF H q L + (L - 1) ∧ 1 ≤ L ∧ L ≤ 6 ∧ ∀ i, 0 ≤ i → i < L → 1 ≤ wln H (wst H q i) ∧ wln H (wst H q i) ≤ 7 := by
  obtain ⟨s1, s2⟩ := sen_0 sg 6 q0 qn
  obtain ⟨a1, a2, a3, a4, a5, a6⟩ := s2 hs
  rw [← hL] at a1 a2 a3 a6
  have w7 : ∀ i, 0 ≤ i → i < L → 1 ≤ wln H (wst H q i) ∧ wln H (wst H q i) ≤ 7 := fun i i0 i1 => (a2 i i0 i1).2
  have key : ∀ m : Nat, (m : Int) < L → nsF H q (wst H q m - q) = lqF H q m := by
    intro m
    induction m with
    | zero =>
      intro _
      rw [show ((0 : Nat) : Int) = 0 from rfl, wst_0, Int.sub_self]
      rfl
    | succ m ih =>
      intro hm
      have ih := ih (by omega)
      have w := w7 m (by omega) (by omega)
      have p := wst_lq (H := H) (q := q) m
      have b := lqF_le (H := H) (q := q) (L := m) (by omega) (fun i i0 i1 => w7 i i0 (by omega))
      have e : q + (wst H q m - q) = wst H q m := by omega
      have k := nsF_word (H := H) (q := q) (x := wst H q m - q) (by omega) (by rw [e]; omega)
      rw [e] at k
      rw [show ((m + 1 : Nat) : Int) = (m : Int) + 1 by omega, wst_s (by omega), lqF_s (by omega), show wst H q m + wln H (wst H q m) + 1 - q = (wst H q m - q + wln H (wst H q m)) + 1 by omega, nsF_s (by omega), k, ih, show q + (wst H q m - q + wln H (wst H q m)) = wst H q m + wln H (wst H q m) by omega, if_pos (a6 m (by omega) (by omega))]
      omega
  obtain ⟨m, hm⟩ := Int.eq_ofNat_of_zero_le (show 0 ≤ L - 1 by omega)
  have w := w7 m (by omega) (by omega)
  have p := wst_lq (H := H) (q := q) m
  have b := lqF_le (H := H) (q := q) (L := m) (by omega) (fun i i0 i1 => w7 i i0 (by omega))
  have e : q + (wst H q m - q) = wst H q m := by omega
  have k := nsF_word (H := H) (q := q) (x := wst H q m - q) (by omega) (by rw [e]; omega)
  rw [e, key m (by omega)] at k
  have el : lqF H q L = lqF H q m + wln H (wst H q m) := by
    rw [show L = (m : Int) + 1 by omega, lqF_s (by omega)]
  rw [hm] at a3
  refine ⟨?_, by omega, a1.1, a1.2, w7⟩
  rw [a3, el, ← k]
  exact congrArg _ (by omega)
/-- a sheet's sentences -/
theorem sh_ok {H : Int → Int} {n : Int} (sg : sgn H n) (h : (shs H n).1 = 0) {s : Int} (s0 : 0 ≤ s) (s1 : s < 2) : (1 ≤ shn H s ∧ shn H s ≤ 8) ∧ ∀ r, 0 ≤ r → r < shn H s → (0 ≤ shst H (shq H s) r ∧ shst H (shq H s) r ≤ n) ∧ (sen H 6 0 (shst H (shq H s) r)).1 = 0 := by
  have n0 := sg.2.2.1
  have d0 := shd_ok (q := 0) sg 8 0 (by omega) (by rw [shst_0]; omega) (by rw [shst_0]; exact n0)
  unfold shs at h
  by_cases c1 : (shd H 0 8 0).1 ≠ 0
  · rw [if_pos c1] at h
    exact absurd h c1
  rw [if_neg c1] at h
  by_cases c2 : H (shd H 0 8 0).2.1 ≠ 124
  · rw [if_pos c2] at h
    exact absurd h (show ¬ (1 : Int) = 0 by decide)
  rw [if_neg c2] at h
  have lt : (shd H 0 8 0).2.1 < n := by
    refine Classical.byContradiction (fun c => ?_)
    have := sg.2.1 (shd H 0 8 0).2.1 (by omega)
    omega
  by_cases c3 : (shd H ((shd H 0 8 0).2.1 + 1) 8 0).1 ≠ 0
  · rw [if_pos c3] at h
    exact absurd h c3
  have d1 := shd_ok (q := (shd H 0 8 0).2.1 + 1) sg 8 0 (by omega) (by rw [shst_0]; omega) (by rw [shst_0]; omega)
  rcases (by omega : s = 0 ∨ s = 1) with rfl | rfl
  · have e := d0.2 (by omega)
    have eq : shq H 0 = 0 := if_pos rfl
    unfold shn
    rw [eq]
    exact ⟨by omega, fun r r0 r1 => by
      have := e.2.1 r r0 r1
      exact ⟨by omega, this.2⟩⟩
  · have e := d1.2 (by omega)
    have eq : shq H 1 = (shd H 0 8 0).2.1 + 1 := if_neg (by decide)
    unfold shn
    rw [eq]
    exact ⟨by omega, fun r r0 r1 => by
      have := e.2.1 r r0 r1
      exact ⟨by omega, this.2⟩⟩
/-- letters of a sentence of a sheet -/
def shLe (H : Int → Int) (s r : Int) : Int := lqF H (shst H (shq H s) r) (hln H (shq H s) r)
section
variable {P : zP} {d t : zD P}
theorem k_lettersIn {H : Int → Int} {n s : Int} {b : Nat} (hz : zkd b = 7) (sg : sgn H n) (h : (shs H n).1 = 0) (s0 : 0 ≤ s) (s1 : s < 2) (ro : rO t.m b (shn H s) (hln H (shq H s)) (hky H (shq H s))) {r : Int} (r0 : 0 ≤ r) (r1 : r < shn H s) : rw_lettersIn t b r = some (shLe H s r, t) := by
  obtain ⟨b1, b2⟩ := sh_ok sg h s0 s1
  obtain ⟨c1, c2⟩ := b2 r r0 r1
  have ns := nsF_sen sg c1.1 c1.2 c2 rfl
  have L6 : 1 ≤ hln H (shq H s) r ∧ hln H (shq H s) r ≤ 6 := ⟨ns.2.2.1, ns.2.2.2.1⟩
  have w7 := ns.2.2.2.2
  have e : rw_lettersIn_4 t b r 0 0 = rw_lettersIn_4 t b r (shLe H s r) (hln H (shq H s) r) := lpS (fun i a => rw_lettersIn_4 t b r a i) (fun i => wln H (wst H (shst H (shq H s) r) i)) (hln H (shq H s) r) (by omega) (fun i a i0 i1 _ => by
    have w := w7 i i0 i1
    (try dsimp only)
    rw [rw_lettersIn_4_e hz, r_len ro r0 r1 hz, Option.bind_some]
    (try dsimp only)
    rw [if_neg (by rw [wr_id (by omega), wr_id (by omega)]; omega), r_key ro r0 r1 i0 i1 hz, Option.bind_some]
    (try dsimp only)
    have ek : hky H (shq H s) r i = kof (wln H (wst H (shst H (shq H s) r) i)) (fun k => H (wst H (shst H (shq H s) r) i + k)) := rfl
    rw [ek, k_lettersOf (kyW_ok (by omega)), Option.bind_some])
  rw [rw_lettersIn_e hz, e, rw_lettersIn_4_e hz, r_len ro r0 r1 hz, Option.bind_some]
  (try dsimp only)
  rw [if_pos (by omega)]
end
