/-! THE BRIDGE: how a state of the abstract machine lies in the machine's heap, locals and stack. -/
/-- addresses: cells below ten lie where they lay (static arrays, the script), the others one behind the other from b on -/
def zad (ro : Nat → Nat) (b r : Nat) : Nat := if r < 10 then ro r else b + (r - 10)
def zval (ro : Nat → Nat) (b : Nat) : zV → Value
  | (0, x) => .int (Int32.ofInt x)
  | (1, x) => .long (Int64.ofInt x)
  | (_, x) => if x < 0 then .null else .ref (zad ro b x.toNat)
def zref (ro : Nat → Nat) (b : Nat) (x : Int) : Option Nat := if x < 0 then none else some (zad ro b x.toNat)
theorem zval_0 (ro : Nat → Nat) (b : Nat) (x : Int) : zval ro b (0, x) = .int (Int32.ofInt x) := rfl
theorem zval_1 (ro : Nat → Nat) (b : Nat) (x : Int) : zval ro b (1, x) = .long (Int64.ofInt x) := rfl
theorem zval_2 (ro : Nat → Nat) (b : Nat) (x : Int) : zval ro b (2, x) = va_rf (zref ro b x) := by
  show (if x < 0 then Value.null else .ref (zad ro b x.toNat)) = va_rf (if x < 0 then none else some (zad ro b x.toNat))
  split <;> rfl
theorem zval_r (ro : Nat → Nat) (b : Nat) {x : Int} (h : 0 ≤ x) : zval ro b (2, x) = .ref (zad ro b x.toNat) := by
  show (if x < 0 then Value.null else .ref (zad ro b x.toNat)) = _
  rw [if_neg (by omega)]
theorem zval_n (ro : Nat → Nat) (b : Nat) {x : Int} (h : ¬ 0 ≤ x) : zval ro b (2, x) = .null := by
  show (if x < 0 then Value.null else .ref (zad ro b x.toNat)) = _
  rw [if_pos (by omega)]
def ztg : FieldType → Nat
  | .long => 1
  | .object _ => 2
  | .array _ => 2
  | _ => 0
def zNf (ci : Nat) : Nat := match ci with
  | 0 => 7 | 1 => 6 | 2 => 7 | 3 => 4 | 4 => 3 | 5 => 9 | 6 => 3 | 7 => 3 | 8 => 4 | 9 => 8 | 10 => 5 | 11 => 13 | 12 => 36 | _ => 0
theorem zNf_ok : ∀ (ci : Nat) (r : vw_C), vwCl[ci]? = some r → r.2.2 = zNf ci := by
  intro ci r h
  match ci, h with
  | 0, h => cases h; rfl
  | 1, h => cases h; rfl
  | 2, h => cases h; rfl
  | 3, h => cases h; rfl
  | 4, h => cases h; rfl
  | 5, h => cases h; rfl
  | 6, h => cases h; rfl
  | 7, h => cases h; rfl
  | 8, h => cases h; rfl
  | 9, h => cases h; rfl
  | 10, h => cases h; rfl
  | 11, h => cases h; rfl
  | 12, h => cases h; rfl
  | n + 13, h => simp [vwCl] at h
/-- a cell's picture -/
def zce (cA : Nat → ClassId) (ro : Nat → Nat) (b : Nat) (c : zC) : va_E :=
  if c.1 = 20 then .inl (cA 0, c.2.1, .inl (fun k => Int32.ofInt (c.2.2 k)))
  else if c.1 = 21 then .inl (cA 1, c.2.1, .inr (.inl (fun k => Int64.ofInt (c.2.2 k))))
  else if c.1 = 22 then .inl (cA 2, c.2.1, .inl (fun k => Int32.ofInt (c.2.2 k)))
  else if c.1 = 23 then .inl (cA 3, c.2.1, .inr (.inr (.inr (.inr (fun k => zref ro b (c.2.2 k))))))
  else if c.1 = 24 then .inl (cA 4, c.2.1, .inr (.inr (.inr (.inr (fun k => zref ro b (c.2.2 k))))))
  else .inr (c.1, (List.range c.2.1).map (fun k => zval ro b (ztg (zTy c.1 k), c.2.2 k)))
def ztys (cA : Nat → ClassId) : List (ClassId × FieldType) := [(cA 0, .int), (cA 1, .long), (cA 2, .byte), (cA 3, .array .int), (cA 4, .array .long)]
def zws (cA : Nat → ClassId) (ro : Nat → Nat) (b n : Nat) (w : zW) : va_W := (List.range n).map (fun i => (b + i, zce cA ro b (w (i + 10))))
theorem zws_get {cA : Nat → ClassId} {ro : Nat → Nat} {b n r : Nat} {w : zW} (h1 : 10 ≤ r) (h2 : r < n + 10) : (zws cA ro b n w)[r - 10]? = some (zad ro b r, zce cA ro b (w r)) := by
  unfold zws zad
  rw [List.getElem?_map, List.getElem?_range (by omega), if_neg (by omega)]
  simp [Nat.sub_add_cancel h1]
theorem zws_len {cA : Nat → ClassId} {ro : Nat → Nat} {b n : Nat} {w : zW} : (zws cA ro b n w).length = n := by simp [zws]
theorem zws_set {cA : Nat → ClassId} {ro : Nat → Nat} {b n r : Nat} {w : zW} {c : zC} (h1 : 10 ≤ r) (h2 : r < n + 10) : (zws cA ro b n w).set (r - 10) (zad ro b r, zce cA ro b c) = zws cA ro b n (zup w r c) := by
  apply List.ext_getElem?
  intro j
  by_cases hj : j < n
  · by_cases e : j = r - 10
    · subst e
      rw [List.getElem?_set_self (by rw [zws_len]; omega), zws_get h1 h2]
      simp [zup]
    · rw [List.getElem?_set_ne (Ne.symm e)]
      unfold zws
      rw [List.getElem?_map, List.getElem?_map, List.getElem?_range hj]
      simp only [Option.map_some]
      rw [show zup w r c (j + 10) = w (j + 10) by unfold zup; rw [if_neg (by omega)]]
  · rw [List.getElem?_eq_none (by rw [List.length_set, zws_len]; omega), List.getElem?_eq_none (by rw [zws_len]; omega)]
theorem zws_D {cA : Nat → ClassId} {ro : Nat → Nat} {b n : Nat} {w : zW} : va_D (fun q => b ≤ q) (zws cA ro b n w) := by
  have key : ∀ (k : Nat) (q : Nat × va_E), (zws cA ro b n w)[k]? = some q → q.1 = b + k := by
    intro k q h
    unfold zws at h
    rw [List.getElem?_map] at h
    by_cases hk : k < n
    · rw [List.getElem?_range hk] at h
      cases h
      rfl
    · rw [List.getElem?_eq_none (by simp; omega)] at h
      cases h
  refine ⟨fun i j p q hi hj h => ?_, fun k q hk => ?_⟩
  · rw [key i p hi, key j q hj] at h
    omega
  · show b ≤ q.1
    rw [key k q hk]
    omega
/-- the world in the heap -/
def zHR (D : va_G) (cA : Nat → ClassId) (ro : Nat → Nat) (b : Nat) (w0 : zW) (n : Nat) (w : zW) (H : Heap) : Prop :=
  w 0 = (98, n, fun _ => 0) ∧ H.size = b + n ∧ (∀ r, 1 ≤ r → r < 10 → w r = w0 r) ∧ (∀ r, n + 10 ≤ r → (w r).1 = 99) ∧ (∀ r, 10 ≤ r → r < n + 10 → ((w r).1 < 13 ∧ (w r).2.1 = zNf (w r).1) ∨ (20 ≤ (w r).1 ∧ (w r).1 ≤ 24 ∧ (w r).2.1 < 2147483648)) ∧ va_P D vwCl (zws cA ro b n w) H
/-- the cells that are there from the start are static arrays, or nothing -/
def zW0 (w0 : zW) : Prop := ∀ r, 1 ≤ r → r < 10 → ((w0 r).1 = 30 ∧ (w0 r).2.1 < 2147483648) ∨ (w0 r).1 = 99
theorem zHR.dom {D : va_G} {cA : Nat → ClassId} {ro : Nat → Nat} {b : Nat} {w0 : zW} {n : Nat} {w : zW} {H : Heap} (h : zHR D cA ro b w0 n w H) (h0 : zW0 w0) {r k : Nat} (hk : (w r).1 = k) (hl : k < 25) : 10 ≤ r ∧ r < n + 10 := by
  obtain ⟨h1, -, h3, h4, -⟩ := h
  refine ⟨Nat.le_of_not_lt fun hr => ?_, Nat.lt_of_not_le fun hr => ?_⟩
  · by_cases e : r = 0
    · subst e
      rw [h1] at hk
      have : (98 : Nat) = k := hk
      omega
    · rw [h3 r (by omega) hr] at hk
      rcases h0 r (by omega) hr with h | h
      · omega
      · omega
  · have := h4 r hr
    omega
theorem zHR.set {D : va_G} {cA : Nat → ClassId} {ro : Nat → Nat} {b : Nat} {w0 : zW} {n : Nat} {w : zW} {H H1 : Heap} (h : zHR D cA ro b w0 n w H) {r : Nat} (h1 : 10 ≤ r) (h2 : r < n + 10) {f : Nat → Int} (hz : H1.size = H.size) (hP : va_P D vwCl ((zws cA ro b n w).set (r - 10) (zad ro b r, zce cA ro b ((w r).1, (w r).2.1, f))) H1) : zHR D cA ro b w0 n (zup w r ((w r).1, (w r).2.1, f)) H1 := by
  obtain ⟨g1, g2, g3, g4, g5, -⟩ := h
  refine ⟨?_, by rw [hz]; exact g2, fun q q1 q2 => ?_, fun q q1 => ?_, fun q q1 q2 => ?_, ?_⟩
  · unfold zup; rw [if_neg (by omega)]; exact g1
  · unfold zup; rw [if_neg (by omega)]; exact g3 q q1 q2
  · unfold zup; rw [if_neg (by omega)]; exact g4 q q1
  · unfold zup
    by_cases e : q = r
    · subst e
      rw [if_pos rfl]
      exact g5 q q1 q2
    · rw [if_neg e]; exact g5 q q1 q2
  · rw [← zws_set h1 h2]
    exact hP
/-- the locals -/
def zlv (ro : Nat → Nat) (b : Nat) : Nat → List zV → List (Nat × Value)
  | _, [] => []
  | o, v :: l => if v.1 = 3 then zlv ro b (o + 1) l else (o, zval ro b v) :: zlv ro b (o + 1) l
theorem zlv_mem {ro : Nat → Nat} {b : Nat} {q : Nat × Value} : ∀ (l : List zV) (o : Nat), q ∈ zlv ro b o l ↔ ∃ i, i < l.length ∧ (znth l i).1 ≠ 3 ∧ q = (o + i, zval ro b (znth l i))
  | [], o => by simp [zlv]
  | v :: l, o => by
    have ih := zlv_mem (ro := ro) (b := b) (q := q) l (o + 1)
    have key : (∃ i, i < (v :: l).length ∧ (znth (v :: l) i).1 ≠ 3 ∧ q = (o + i, zval ro b (znth (v :: l) i))) ↔ (v.1 ≠ 3 ∧ q = (o, zval ro b v)) ∨ ∃ i, i < l.length ∧ (znth l i).1 ≠ 3 ∧ q = (o + 1 + i, zval ro b (znth l i)) := by
      constructor
      · rintro ⟨i, h1, h2, h3⟩
        cases i with
        | zero => exact Or.inl ⟨h2, h3⟩
        | succ i => exact Or.inr ⟨i, by simpa using h1, h2, by rw [h3]; simp [znth]; omega⟩
      · rintro (⟨h1, h2⟩ | ⟨i, h1, h2, h3⟩)
        · exact ⟨0, by simp, h1, h2⟩
        · exact ⟨i + 1, by simpa using h1, h2, by rw [h3]; simp [znth]; omega⟩
    rw [key, ← ih]
    rw [show zlv ro b o (v :: l) = if v.1 = 3 then zlv ro b (o + 1) l else (o, zval ro b v) :: zlv ro b (o + 1) l from rfl]
    by_cases e : v.1 = 3
    · rw [if_pos e]; simp [e]
    · rw [if_neg e]; simp [e]
theorem zlv_at {ro : Nat → Nat} {b nL : Nat} {la : Array Slot} {l : List zV} (h : lv_has la nL (zlv ro b 0 l)) {k t : Nat} {x : Int} (hk : znth l k = (t, x)) (ht : t ≠ 3) : la[k]? = some (.val (zval ro b (t, x))) := by
  have hl : k < l.length := Nat.lt_of_not_le fun h => by
    have : ∀ (l : List zV) (k : Nat), l.length ≤ k → znth l k = (3, 0) := by
      intro l
      induction l with
      | nil => intro k _; rfl
      | cons a l ih => intro k hk; cases k with
        | zero => simp at hk
        | succ k => exact ih k (by simpa using hk)
    rw [this l k h] at hk
    cases hk
    exact ht rfl
  have := h.2.2 (k, zval ro b (t, x)) ((zlv_mem l 0).mpr ⟨k, hl, by rw [hk]; exact ht, by rw [hk]; simp⟩)
  exact this
theorem zlv_less {la : Array Slot} {nL : Nat} {l l' : List (Nat × Value)} (h : lv_has la nL l) (hs : ∀ q ∈ l', q ∈ l) : lv_has la nL l' := ⟨h.1, h.2.1, fun q hq => h.2.2 q (hs q hq)⟩
theorem zval_cat (ro : Nat → Nat) (b : Nat) (v : zV) (h : (zval ro b v).category = 2) : v.1 = 1 := by
  obtain ⟨t, x⟩ := v
  match t, h with
  | 0, h => cases h
  | 1, h => rfl
  | n + 2, h =>
    exfalso
    have h2 : (if x < 0 then Value.null else .ref (zad ro b x.toNat)).category = 2 := h
    split at h2 <;> cases h2
theorem zst1_len : ∀ (l : List zV) (k : Nat) (v : zV), (zst1 l k v).length = l.length
  | [], _, _ => by simp [zst1]
  | _ :: l, 0, v => by simp [zst1]
  | a :: l, 1, v => by simp [zst1, zst1_len l 0 v]
  | a :: l, n + 2, v => by simp [zst1, zst1_len l (n + 1) v]
theorem zst2_len : ∀ (l : List zV) (k : Nat) (v : zV), (zst2 l k v).length = l.length
  | [], _, _ => by simp [zst2]
  | _ :: [], 0, _ => by simp [zst2]
  | _ :: _ :: l, 0, v => by simp [zst2]
  | a :: l, 1, v => by simp [zst2, zst2_len l 0 v]
  | a :: l, n + 2, v => by simp [zst2, zst2_len l (n + 1) v]
theorem zst1_nth : ∀ (l : List zV) (k : Nat) (v : zV) (j : Nat), k < l.length → znth (zst1 l k v) j = if j = k then v else if j + 1 = k ∧ (znth l j).1 = 1 then (3, 0) else znth l j
  | [], k, v, j, h => by simp at h
  | a :: l, 0, v, j, h => by
    cases j with
    | zero => simp [zst1, znth]
    | succ j => simp [zst1, znth]
  | a :: l, 1, v, j, h => by
    have ih := zst1_nth l 0 v
    cases j with
    | zero =>
      simp only [zst1, znth]
      by_cases e : a.1 = 1 <;> simp [e]
    | succ j =>
      simp only [zst1, znth]
      rw [ih j (by simpa using h)]
      simp
  | a :: l, n + 2, v, j, h => by
    have ih := zst1_nth l (n + 1) v
    cases j with
    | zero => simp [zst1, znth]
    | succ j =>
      simp only [zst1, znth]
      rw [ih j (by simp at h ⊢; omega)]
      simp only [Nat.add_right_cancel_iff]
theorem zst2_nth : ∀ (l : List zV) (k : Nat) (v : zV) (j : Nat), k + 1 < l.length → znth (zst2 l k v) j = if j = k then v else if j = k + 1 then (3, 0) else if j + 1 = k ∧ (znth l j).1 = 1 then (3, 0) else znth l j
  | [], k, v, j, h => by simp at h
  | [_], k, v, j, h => by simp at h
  | a :: a2 :: l, 0, v, j, h => by
    match j with
    | 0 => simp [zst2, znth]
    | 1 => simp [zst2, znth]
    | j + 2 => simp [zst2, znth]
  | a :: a2 :: l, 1, v, j, h => by
    have ih := zst2_nth (a2 :: l) 0 v
    cases j with
    | zero =>
      simp only [zst2, znth]
      by_cases e : a.1 = 1 <;> simp [e]
    | succ j =>
      simp only [zst2, znth]
      rw [ih j (by simpa using h)]
      simp
  | a :: a2 :: l, n + 2, v, j, h => by
    have ih := zst2_nth (a2 :: l) (n + 1) v
    cases j with
    | zero => simp [zst2, znth]
    | succ j =>
      simp only [zst2, znth]
      rw [ih j (by simp at h ⊢; omega)]
      simp only [Nat.add_right_cancel_iff]
theorem zlv_st1 {ro : Nat → Nat} {b : Nat} {l : List zV} {k : Nat} {v : zV} (hk : k < l.length) : ∀ q ∈ zlv ro b 0 (zst1 l k v), q ∈ (k, zval ro b v) :: (zlv ro b 0 l).filter (fun q => !(q.1 == k) && !(q.1 + 1 == k && q.2.category == 2)) := by
  intro q hq
  obtain ⟨i, h1, h2, rfl⟩ := (zlv_mem _ 0).mp hq
  rw [zst1_nth l k v i hk] at h2 ⊢
  by_cases e : i = k
  · subst e
    simp
  · rw [if_neg e] at h2 ⊢
    by_cases e2 : i + 1 = k ∧ (znth l i).1 = 1
    · rw [if_pos e2] at h2
      exact absurd rfl h2
    · rw [if_neg e2] at h2 ⊢
      refine List.mem_cons_of_mem _ (List.mem_filter.mpr ⟨(zlv_mem l 0).mpr ⟨i, by rw [zst1_len] at h1; exact h1, h2, rfl⟩, ?_⟩)
      have : ¬ (i + 1 = k ∧ (zval ro b (znth l i)).category = 2) := fun h => e2 ⟨h.1, zval_cat ro b _ h.2⟩
      simp only [Nat.zero_add, Bool.and_eq_true, Bool.not_eq_true', beq_eq_false_iff_ne, ne_eq, e, not_false_eq_true, true_and, Bool.and_eq_false_iff]
      by_cases e3 : i + 1 = k
      · exact Or.inr (fun h => this ⟨e3, h⟩)
      · exact Or.inl e3
theorem zlv_st2 {ro : Nat → Nat} {b : Nat} {l : List zV} {k : Nat} {v : zV} (hk : k + 1 < l.length) : ∀ q ∈ zlv ro b 0 (zst2 l k v), q ∈ (k, zval ro b v) :: (zlv ro b 0 l).filter (fun q => !(q.1 == k) && (!(q.1 == k + 1) && !(q.1 + 1 == k && q.2.category == 2))) := by
  intro q hq
  obtain ⟨i, h1, h2, rfl⟩ := (zlv_mem _ 0).mp hq
  rw [zst2_nth l k v i hk] at h2 ⊢
  by_cases e : i = k
  · subst e
    simp
  · rw [if_neg e] at h2 ⊢
    by_cases e1 : i = k + 1
    · rw [if_pos e1] at h2
      exact absurd rfl h2
    · rw [if_neg e1] at h2 ⊢
      by_cases e2 : i + 1 = k ∧ (znth l i).1 = 1
      · rw [if_pos e2] at h2
        exact absurd rfl h2
      · rw [if_neg e2] at h2 ⊢
        refine List.mem_cons_of_mem _ (List.mem_filter.mpr ⟨(zlv_mem l 0).mpr ⟨i, by rw [zst2_len] at h1; exact h1, h2, rfl⟩, ?_⟩)
        have : ¬ (i + 1 = k ∧ (zval ro b (znth l i)).category = 2) := fun h => e2 ⟨h.1, zval_cat ro b _ h.2⟩
        simp only [Nat.zero_add, Bool.and_eq_true, Bool.not_eq_true', beq_eq_false_iff_ne, ne_eq, e, not_false_eq_true, true_and, Bool.and_eq_false_iff, e1]
        by_cases e3 : i + 1 = k
        · exact Or.inr (fun h => this ⟨e3, h⟩)
        · exact Or.inl e3
/-- the locals at the entry -/
theorem znth3 : ∀ (r : List zV) (i : Nat), (∀ v ∈ r, v.1 = 3) → (znth r i).1 = 3 := by
  intro r
  induction r with
  | nil => intro i _; rfl
  | cons a r ih => intro i h; cases i with
    | zero => exact h a List.mem_cons_self
    | succ i => exact ih i (fun v hv => h v (List.mem_cons_of_mem _ hv))
theorem zarg_mem {ro : Nat → Nat} {b : Nat} : ∀ (as : List zV) (o : Nat) (r : List zV), (∀ v ∈ r, v.1 = 3) → ∀ q ∈ zlv ro b o (zarg as ++ r), q ∈ lv_args o (as.map (zval ro b))
  | [], o, r, hr, q, hq => by
    exfalso
    obtain ⟨i, h1, h2, -⟩ := (zlv_mem _ _).mp hq
    simp only [zarg, List.nil_append] at h1 h2
    exact h2 (znth3 r i hr)
  | v :: as, o, r, hr, q, hq => by
    have ih := fun o => zarg_mem (ro := ro) (b := b) as o r hr q
    simp only [List.map_cons, lv_args]
    by_cases e : v.1 = 1
    · have hv : v.1 ≠ 3 := by omega
      have ec : (zval ro b v).category = 2 := by obtain ⟨t, x⟩ := v; cases e; rfl
      rw [if_pos ec]
      simp only [zarg, if_pos e, List.cons_append, zlv, if_neg hv] at hq
      rcases List.mem_cons.mp hq with h | h
      · rw [h]; exact List.mem_cons_self
      · rw [if_pos trivial] at h
        exact List.mem_cons_of_mem _ (ih (o + 2) h)
    · have ec : ¬ (zval ro b v).category = 2 := fun h => e (zval_cat ro b v h)
      rw [if_neg ec]
      simp only [zarg, if_neg e, List.cons_append, zlv] at hq
      split at hq
      · exact List.mem_cons_of_mem _ (ih (o + 1) hq)
      · rcases List.mem_cons.mp hq with h | h
        · rw [h]; exact List.mem_cons_self
        · exact List.mem_cons_of_mem _ (ih (o + 1) h)
theorem zarg_sl {ro : Nat → Nat} {b : Nat} : ∀ (as : List zV), (lg_sl (as.map (zval ro b))).length = (zarg as).length
  | [] => rfl
  | v :: as => by
    have ih := zarg_sl (ro := ro) (b := b) as
    by_cases e : v.1 = 1
    · have ec : (zval ro b v).category = 2 := by obtain ⟨t, x⟩ := v; cases e; rfl
      simp only [lg_sl] at ih
      simp [zarg, e, lg_sl, ec, ih]
    · have ec : ¬ (zval ro b v).category = 2 := fun h => e (zval_cat ro b v h)
      simp only [lg_sl] at ih
      simp [zarg, e, lg_sl, ec, ih]
