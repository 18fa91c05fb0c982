/-! OVER: the row of pieces: what it is, and that there is but one. -/
def wl0 (K : Int → Int) (z : Int) : Int := if z = 9999 then 1 else wsK (rwK (K z) 0)
def wl1 (K : Int → Int) (z : Int) : Int := if z = 9999 then 1 else wsK (rwK (K z) 1)
def wdO (K : Int → Int) (z y : Int) : Int := if z = 9999 then -3 else wdK (rwK (K z) 1) y
def psO (K k : Int → Int) (j : Int) : Int := fo j 0 (fun _ x => x + wl0 K (k x))
def ciO (K k : Int → Int) (j : Int) : Int := sm j (fun x => wl1 K (k (psO K k x)))
theorem psO_0 {K k : Int → Int} : psO K k 0 = 0 := fo_0 _ _
theorem psO_s {K k : Int → Int} {j : Int} (h : 0 ≤ j) : psO K k (j + 1) = psO K k j + wl0 K (k (psO K k j)) := fo_s _ _ h
theorem ciO_s {K k : Int → Int} {j : Int} (h : 0 ≤ j) : ciO K k (j + 1) = ciO K k j + wl1 K (k (psO K k j)) := sm_s _ h
theorem wl0_le {K : Int → Int} {z : Int} : 1 ≤ wl0 K z ∧ wl0 K z ≤ 3 := by
  have := wsK_le (r := rwK (K z) 0)
  unfold wl0
  split <;> omega
theorem wl1_le {K : Int → Int} {z : Int} : 1 ≤ wl1 K z ∧ wl1 K z ≤ 3 := by
  have := wsK_le (r := rwK (K z) 1)
  unfold wl1
  split <;> omega
theorem ciO_le {K k : Int → Int} {j : Int} (h : 0 ≤ j) : 0 ≤ ciO K k j ∧ ciO K k j ≤ j * 3 := sm_le h (fun x _ _ => by have := wl1_le (K := K) (z := k (psO K k x)); (try dsimp only); omega)
theorem ciO_lt {K k : Int → Int} {x j : Int} (x0 : 0 ≤ x) (xj : x < j) : ciO K k x + wl1 K (k (psO K k x)) ≤ ciO K k j := by
  rw [← ciO_s x0]
  exact sm_mono (by omega) (by omega) (fun y _ _ => by have := wl1_le (K := K) (z := k (psO K k y)); (try dsimp only); omega)
section
variable {K B W c p k : Int → Int} {n L : Int}
theorem oT_k (hn : n ≤ 5400) (h : oT K B n W L c p k (-1)) {i : Int} (i0 : 0 ≤ i) (i1 : i < L) : i + wl0 K (k i) ≤ L ∧ p i = 1 + p (i + wl0 K (k i)) ∧ (k i = 9999 ∨ (0 ≤ k i ∧ k i < n)) := by
  have a := (h.2.2 i (by omega) i1).1
  rcases a with ⟨z0, z1, h3, h4, h5⟩ | ⟨h4, h5, h6⟩
  · have f := fitW_le h3
    unfold wl0
    rw [if_neg (by omega)]
    exact ⟨f, h5, Or.inr ⟨z0, z1⟩⟩
  · unfold wl0
    rw [if_pos h6]
    exact ⟨by omega, h5, Or.inl h6⟩
theorem oT_p (hn : n ≤ 5400) (hL0 : 0 ≤ L) (h : oT K B n W L c p k (-1)) (hb : oB c p (-1) L) {j : Int} (j0 : 0 ≤ j) (j1 : j ≤ p 0) : 0 ≤ psO K k j ∧ psO K k j ≤ L ∧ p (psO K k j) = p 0 - j := by
  refine fo_ind (I := fun j x => 0 ≤ x ∧ x ≤ L ∧ p x = p 0 - j) j0 ⟨Int.le_refl _, hL0, by omega⟩ (fun x y x0 x1 hi => ?_)
  have y1 : y < L := by
    by_cases e : y = L
    · rw [e, h.2.1] at hi
      omega
    · omega
  have o := oT_k hn h hi.1 y1
  have w := wl0_le (K := K) (z := k y)
  omega
/-- there is but one row -/
theorem csA_tab {F : Nat → Int} {kind i : Int} {K' B' : Int → Int} (h : phT F kind K B n) (h' : phT F kind K' B' n) : ∀ a b z, csA K B n W L c p i a b z ↔ csA K' B' n W L c p i a b z := by
  have u := (Tab_uni h.2 h'.2).2
  have r : ∀ z, 0 ≤ z → z < n → rbK K B n z = rbK K' B' n z := fun z z0 z1 => by
    unfold rbK
    exact sm_congr h.2.1 (fun k k0 k1 => by have := u k k0 k1; (try dsimp only); rw [this.1, this.2, (u z z0 z1).1])
  intro a b z
  unfold csA offS csP
  constructor
  · rintro (⟨z0, z1, h3, h4, h5⟩ | h1)
    · have e := u z z0 z1
      rw [r z z0 z1, e.1, e.2] at h4
      rw [e.1] at h3 h5
      exact Or.inl ⟨z0, z1, h3, h4, h5⟩
    · exact Or.inr h1
  · rintro (⟨z0, z1, h3, h4, h5⟩ | h1)
    · have e := u z z0 z1
      rw [← r z z0 z1, ← e.1, ← e.2] at h4
      rw [← e.1] at h3 h5
      exact Or.inl ⟨z0, z1, h3, h4, h5⟩
    · exact Or.inr h1
theorem oT_uni {F : Nat → Int} {kind : Int} {K' B' c' p' k' : Int → Int} (hT : phT F kind K B n) (hT' : phT F kind K' B' n) (h : oT K B n W L c p k (-1)) (h' : oT K' B' n W L c' p' k' (-1)) : ∀ (m : Nat) (i : Int), 0 ≤ i → i + m = L → ∀ j, i ≤ j → j ≤ L → c j = c' j ∧ p j = p' j ∧ (j < L → k j = k' j)
  | 0, i, i0, im, j, j0, j1 => by
    have e : j = L := by omega
    rw [e, h.1, h.2.1, h'.1, h'.2.1]
    exact ⟨rfl, rfl, fun hh => by omega⟩
  | m + 1, i, i0, im, j, j0, j1 => by
    have nx := oT_uni hT hT' h h' m (i + 1) (by omega) (by omega)
    by_cases e : j = i
    · rw [e]
      have a := h.2.2 i (by omega) (by omega)
      have b := h'.2.2 i (by omega) (by omega)
      have b2 := lst1_ext (lst1_ext b (csA_congr (by omega) (fun x x0 x1 => ⟨(nx x (by omega) x1).1.symm, (nx x (by omega) x1).2.1.symm⟩))) (fun a b z => (csA_tab hT hT' a b z).symm)
      have u := lst1_uni a b2
      exact ⟨u.1, u.2.1, fun _ => u.2.2⟩
    · exact nx j (by omega) j1
end
/-- what over answers -/
def ovV (K c p k : Int → Int) (w v : Int) : Prop := if w = 0 then v = c 0 else if w = 1 then v = p 0 else if w = 2 then v = ciO K k (p 0) else if w < 100 then v = (if w - 10 < p 0 then k (psO K k (w - 10)) else -4) else if w - 100 < ciO K k (p 0) then ∃ j y, 0 ≤ j ∧ j < p 0 ∧ 0 ≤ y ∧ y < wl1 K (k (psO K k j)) ∧ w - 100 = ciO K k j + y ∧ v = wdO K (k (psO K k j)) y else v = -4
def ovW (F : Nat → Int) (kind : Int) (W : Int → Int) (L w v : Int) : Prop := ∃ K B n c p k, phT F kind K B n ∧ oT K B n W L c p k (-1) ∧ oB c p (-1) L ∧ ovV K c p k w v
theorem ovW_uni {F : Nat → Int} {kind : Int} {W : Int → Int} {L w v v' : Int} (hL0 : 0 ≤ L) (hw0 : 0 ≤ w) (hw : w < 3 ∨ 10 ≤ w) (h : ovW F kind W L w v) (h' : ovW F kind W L w v') : v = v' := by
  obtain ⟨K, B, n, c, p, k, hT, ho, hb, e⟩ := h
  obtain ⟨K', B', n', c', p', k', hT', ho', hb', e'⟩ := h'
  have un := Tab_uni hT.2 hT'.2
  obtain rfl := un.1
  have u := oT_uni hT hT' ho ho' L.toNat 0 (Int.le_refl _) (by omega)
  have u0 := u 0 (Int.le_refl _) hL0
  have Kz : ∀ z, (z = 9999 ∨ (0 ≤ z ∧ z < n)) → wl0 K z = wl0 K' z ∧ wl1 K z = wl1 K' z ∧ ∀ y, wdO K z y = wdO K' z y := fun z hz => by
    unfold wl0 wl1 wdO
    by_cases q : z = 9999
    · rw [if_pos q, if_pos q, if_pos q, if_pos q]
      exact ⟨rfl, rfl, fun y => by first | rfl | rw [if_pos q, if_pos q]⟩
    · have e := (un.2 z (by omega) (by omega)).1
      rw [if_neg q, if_neg q, if_neg q, if_neg q, e]
      exact ⟨rfl, rfl, fun y => by first | rfl | rw [if_neg q, if_neg q]⟩
  have ps : ∀ j, 0 ≤ j → j ≤ p 0 → psO K k j = psO K' k' j := fun j j0 j1 => by
    have key : ∀ m : Nat, (m : Int) ≤ p 0 → psO K k m = psO K' k' m := by
      intro m
      induction m with
      | zero => intro _; exact (psO_0 (K := K) (k := k)).trans (psO_0 (K := K') (k := k')).symm
      | succ m ih =>
        intro hm
        have g := ih (by omega)
        have o := oT_p hT.1 hL0 ho hb (j := m) (by omega) (by omega)
        have lt : psO K k m < L := by
          by_cases q : psO K k m = L
          · rw [q, ho.2.1] at o; omega
          · omega
        have uk := (u (psO K k m) o.1 o.2.1).2.2 lt
        have kk := (oT_k hT.1 ho o.1 lt).2.2
        have e : ((m + 1 : Nat) : Int) = (m : Int) + 1 := by omega
        rw [e, psO_s (by omega), psO_s (by omega), ← g, ← uk, (Kz _ kk).1]
    have := key j.toNat (by omega)
    rw [show ((j.toNat : Nat) : Int) = j by omega] at this
    exact this
  have kp : ∀ j, 0 ≤ j → j < p 0 → k (psO K k j) = k' (psO K' k' j) ∧ (k (psO K k j) = 9999 ∨ (0 ≤ k (psO K k j) ∧ k (psO K k j) < n)) := fun j j0 j1 => by
    have o := oT_p hT.1 hL0 ho hb (j := j) j0 (by omega)
    have lt : psO K k j < L := by
      by_cases q : psO K k j = L
      · rw [q, ho.2.1] at o; omega
      · omega
    have uk := (u (psO K k j) o.1 o.2.1).2.2 lt
    exact ⟨by rw [← ps j j0 (by omega)]; exact uk, (oT_k hT.1 ho o.1 lt).2.2⟩
  have cs : ∀ j, 0 ≤ j → j ≤ p 0 → ciO K k j = ciO K' k' j := fun j j0 j1 => sm_congr j0 (fun x x0 x1 => by
    have a := kp x x0 (by omega)
    (try dsimp only)
    rw [← a.1, (Kz _ a.2).2.1])
  have p0 := (hb 0 (by omega) hL0).2.1
  unfold ovV at e e'
  by_cases w0 : w = 0
  · rw [if_pos w0] at e e'
    rw [e, e', u0.1]
  rw [if_neg w0] at e e'
  by_cases w1 : w = 1
  · rw [if_pos w1] at e e'
    rw [e, e', u0.2.1]
  rw [if_neg w1] at e e'
  by_cases w2 : w = 2
  · rw [if_pos w2] at e e'
    rw [e, e', ← u0.2.1, cs _ p0 (Int.le_refl _)]
  rw [if_neg w2] at e e'
  by_cases w3 : w < 100
  · rw [if_pos w3] at e e'
    rw [← u0.2.1] at e'
    by_cases q : w - 10 < p 0
    · rw [if_pos q] at e e'
      rw [e, e', (kp _ (by omega) q).1]
    · rw [if_neg q] at e e'
      rw [e, e']
  rw [if_neg w3] at e e'
  rw [← u0.2.1, ← cs _ p0 (Int.le_refl _)] at e'
  by_cases q : w - 100 < ciO K k (p 0)
  · rw [if_pos q] at e e'
    obtain ⟨j, y, j0, j1, y0, y1, hx, rfl⟩ := e
    obtain ⟨j', y', j0', j1', y0', y1', hx', rfl⟩ := e'
    have a := kp j j0 j1
    have a' := kp j' j0' j1'
    have z := Kz _ a.2
    have z' := Kz _ a'.2
    rw [← cs j' j0' (by omega)] at hx'
    rw [← a'.1, ← z'.2.1] at y1'
    have ej : j = j' := by
      by_cases l : j < j'
      · have := ciO_lt (K := K) (k := k) j0 l
        omega
      · by_cases l2 : j' < j
        · have := ciO_lt (K := K) (k := k) j0' l2
          omega
        · omega
    subst ej
    have ey : y = y' := by omega
    rw [← ey, ← a.1, z.2.2]
  · rw [if_neg q] at e e'
    rw [e, e']
