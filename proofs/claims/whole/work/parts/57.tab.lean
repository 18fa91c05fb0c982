/-! A TABLE of unlike keys in order, with how often each was told. -/
def Tab (K B : Int → Int) (n : Int) (bag : Int → Int) : Prop := 0 ≤ n ∧ (∀ i j, 0 ≤ i → i < j → j < n → K i < K j) ∧ (∀ k, 0 ≤ k → k < n → B k = bag (K k) ∧ 1 ≤ B k) ∧ (∀ x, bag x ≠ 0 → ∃ k, 0 ≤ k ∧ k < n ∧ K k = x) ∧ ∀ x, 0 ≤ bag x
theorem Tab_sub {K B K' B' bag : Int → Int} {n n' : Int} (h : Tab K B n bag) (h' : Tab K' B' n' bag) : ∀ (i : Nat), (i : Int) < n → (i : Int) < n' ∧ K i = K' i := by
  intro i
  induction i using Nat.strongRecOn with
  | ind i ih =>
    intro hi
    have b := h.2.2.1 i (by omega) hi
    obtain ⟨k', k0, k1, k2⟩ := h'.2.2.2.1 (K i) (by omega)
    have c1 : ¬ k' < i := fun hc => by
      have e := (ih k'.toNat (by omega) (by omega)).2
      rw [show ((k'.toNat : Nat) : Int) = k' by omega] at e
      have := h.2.1 k' i k0 hc hi
      omega
    refine ⟨by omega, ?_⟩
    by_cases c2 : k' = i
    · rw [← c2, k2, c2]
    · have lt := h'.2.1 i k' (by omega) (by omega) k1
      have b' := h'.2.2.1 i (by omega) (by omega)
      obtain ⟨k, q0, q1, q2⟩ := h.2.2.2.1 (K' i) (by omega)
      have ki : k < i := by
        refine Classical.byContradiction (fun hn => ?_)
        by_cases e : k = i
        · rw [e] at q2; omega
        · have := h.2.1 i k (by omega) (by omega) q1
          omega
      have e := (ih k.toNat (by omega) (by omega)).2
      rw [show ((k.toNat : Nat) : Int) = k by omega] at e
      have := h'.2.1 k i q0 ki (by omega)
      omega
theorem Tab_uni {K B K' B' bag : Int → Int} {n n' : Int} (h : Tab K B n bag) (h' : Tab K' B' n' bag) : n = n' ∧ ∀ k, 0 ≤ k → k < n → K k = K' k ∧ B k = B' k := by
  have a : ∀ k, 0 ≤ k → k < n → k < n' ∧ K k = K' k := fun k k0 k1 => by
    have := Tab_sub h h' k.toNat (by omega)
    rw [show ((k.toNat : Nat) : Int) = k by omega] at this
    exact this
  have b : ∀ k, 0 ≤ k → k < n' → k < n := fun k k0 k1 => by
    have := (Tab_sub h' h k.toNat (by omega)).1
    omega
  have h0 := h.1
  have h0' := h'.1
  refine ⟨?_, fun k k0 k1 => ⟨(a k k0 k1).2, ?_⟩⟩
  · by_cases c : n = 0
    · by_cases c' : n' = 0
      · omega
      · have := b 0 (by omega) (by omega); omega
    · by_cases c' : n' = 0
      · have := (a 0 (by omega) (by omega)).1; omega
      · have x := (a (n - 1) (by omega) (by omega)).1
        have y := b (n' - 1) (by omega) (by omega)
        omega
  · rw [(h.2.2.1 k k0 k1).1, (h'.2.2.1 k k0 (a k k0 k1).1).1, (a k k0 k1).2]
def bag1 (bag : Int → Int) (x : Int) : Int → Int := fun y => bag y + if y = x then 1 else 0
theorem Tab_inc {K B bag : Int → Int} {n x a : Int} (h : Tab K B n bag) (h0 : 0 ≤ a) (h1 : a < n) (hx : K a = x) : Tab K (fun k => if k = a then B k + 1 else B k) n (bag1 bag x) := by
  refine ⟨h.1, h.2.1, fun k k0 k1 => ?_, fun y hy => ?_, fun y => ?_⟩
  · have b := h.2.2.1 k k0 k1
    unfold bag1
    (try dsimp only)
    by_cases e : k = a
    · rw [if_pos e, if_pos (by rw [e]; exact hx)]
      omega
    · have : K k ≠ x := fun hc => by
        rcases (by omega : k < a ∨ a < k) with c | c
        · have := h.2.1 k a k0 c h1; omega
        · have := h.2.1 a k h0 c k1; omega
      rw [if_neg e, if_neg this]
      omega
  · unfold bag1 at hy
    by_cases e : y = x
    · exact ⟨a, h0, h1, by rw [e]; exact hx⟩
    · rw [if_neg e] at hy
      exact h.2.2.2.1 y (by omega)
  · have := h.2.2.2.2 y
    unfold bag1
    split <;> omega
def ins (f : Int → Int) (a v : Int) : Int → Int := fun k => if k < a then f k else if k = a then v else f (k - 1)
theorem Tab_ins {K B bag : Int → Int} {n x a : Int} (h : Tab K B n bag) (h0 : 0 ≤ a) (h1 : a ≤ n) (hl : ∀ k, 0 ≤ k → k < a → K k < x) (hg : ∀ k, a ≤ k → k < n → x < K k) : Tab (ins K a x) (ins B a 1) (n + 1) (bag1 bag x) := by
  have nx : bag x = 0 := Classical.byContradiction (fun hc => by
    obtain ⟨k, k0, k1, k2⟩ := h.2.2.2.1 x hc
    by_cases c : k < a
    · have := hl k k0 c; omega
    · have := hg k (by omega) k1; omega)
  have hn := h.1
  refine ⟨by omega, fun i j i0 ij j1 => ?_, fun k k0 k1 => ?_, fun y hy => ?_, fun y => ?_⟩
  · unfold ins
    by_cases c1 : j < a
    · rw [if_pos (by omega), if_pos c1]; exact h.2.1 i j i0 ij (by omega)
    · rw [if_neg c1]
      by_cases c2 : j = a
      · rw [if_pos c2, if_pos (by omega)]; exact hl i i0 (by omega)
      · rw [if_neg c2]
        by_cases c3 : i < a
        · rw [if_pos c3]
          have p := hl i i0 c3
          have q := hg (j - 1) (by omega) (by omega)
          omega
        · rw [if_neg c3]
          by_cases c4 : i = a
          · rw [if_pos c4]; exact hg (j - 1) (by omega) (by omega)
          · rw [if_neg c4]; exact h.2.1 (i - 1) (j - 1) (by omega) (by omega) (by omega)
  · unfold ins bag1
    by_cases c1 : k < a
    · have b := h.2.2.1 k k0 (by omega)
      have := hl k k0 c1
      rw [if_pos c1, if_pos c1, if_neg (by omega)]
      omega
    · rw [if_neg c1, if_neg c1]
      by_cases c2 : k = a
      · rw [if_pos c2, if_pos c2, if_pos rfl, nx]
        omega
      · have b := h.2.2.1 (k - 1) (by omega) (by omega)
        have := hg (k - 1) (by omega) (by omega)
        rw [if_neg c2, if_neg c2, if_neg (by omega)]
        omega
  · unfold bag1 at hy
    by_cases e : y = x
    · refine ⟨a, h0, by omega, ?_⟩
      unfold ins
      rw [if_neg (by omega), if_pos rfl, e]
    · rw [if_neg e] at hy
      obtain ⟨k, k0, k1, k2⟩ := h.2.2.2.1 y (by omega)
      by_cases c : k < a
      · refine ⟨k, k0, by omega, ?_⟩
        unfold ins
        rw [if_pos c, k2]
      · refine ⟨k + 1, by omega, by omega, ?_⟩
        unfold ins
        rw [if_neg (by omega), if_neg (by omega), show k + 1 - 1 = k by omega, k2]
  · have := h.2.2.2.2 y
    unfold bag1
    split <;> omega
/-! keys by 41 and by 64 -/
def pha (f : Int → Int) (x : Int) : Int := f (x / 41) * 64 + x % 41
def ph6 (x : Int) : Int := pha (pha (pha (pha (pha (fun x => x))))) x
theorem pha_lt {f : Int → Int} (hf : ∀ x y, 0 ≤ x → x < y → f x < f y) : ∀ x y, 0 ≤ x → x < y → pha f x < pha f y := by
  intro x y h0 h
  unfold pha
  by_cases c : x / 41 < y / 41
  · have := hf (x / 41) (y / 41) (by omega) c
    omega
  · have e : x / 41 = y / 41 := by omega
    rw [e]
    omega
theorem ph6_mono : ∀ x y, 0 ≤ x → x < y → ph6 x < ph6 y := pha_lt (pha_lt (pha_lt (pha_lt (pha_lt (fun x y _ h => h)))))
theorem ph6_lt {x y : Int} (hx : 0 ≤ x) (hy : 0 ≤ y) : (ph6 x < ph6 y ↔ x < y) ∧ (ph6 x = ph6 y ↔ x = y) := by
  refine ⟨⟨fun h => ?_, ph6_mono x y hx⟩, ⟨fun h => ?_, fun h => by rw [h]⟩⟩
  · rcases (by omega : x < y ∨ x = y ∨ y < x) with c | c | c
    · exact c
    · rw [c] at h; omega
    · have := ph6_mono y x hy c; omega
  · rcases (by omega : x < y ∨ x = y ∨ y < x) with c | c | c
    · have := ph6_mono x y hx c; omega
    · exact c
    · have := ph6_mono y x hy c; omega
theorem pha_le {f : Int → Int} {A B : Int} (hf : ∀ x, 0 ≤ x → x < A → 0 ≤ f x ∧ f x < B) : ∀ x, 0 ≤ x → x < A * 41 → 0 ≤ pha f x ∧ pha f x < B * 64 := by
  intro x h0 h1
  have := hf (x / 41) (by omega) (by omega)
  unfold pha
  omega
theorem ph6_le {x : Int} (h0 : 0 ≤ x) (h1 : x < 4750104241) : 0 ≤ ph6 x ∧ ph6 x < 68719476736 := pha_le (A := 115856201) (B := 1073741824) (pha_le (A := 2825761) (B := 16777216) (pha_le (A := 68921) (B := 262144) (pha_le (A := 1681) (B := 4096) (pha_le (A := 41) (B := 64) (fun x a b => by (try dsimp only); omega))))) x h0 h1
