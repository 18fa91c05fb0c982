/-! THE CONSTRUCTORS: the abstract machine over lists, so that the kernel can run them. A cell: its kind, its length, how it began, what was written. -/
abbrev ykC : Type := Nat × Nat × Nat × List (Int × Nat) × List (Nat × Int)
abbrev ykS : Type := List zV × List zV × List ykC × Nat × Nat
abbrev ykO : Type := ykS ⊕ (Nat × ykS) ⊕ (List zV × List ykC) ⊕ (Nat × List zV × ykS) ⊕ Unit
def ykwr : List (Nat × Int) → (Nat → Int) → Nat → Int
  | [], g => g
  | q :: l, g => zfu (ykwr l g) q.1 q.2
def ykba (m : Nat) (l : List (Int × Nat)) : Nat → Int := if m = 0 then fun k => (l.getD k (0, 0)).1 else fun k => ((m - 1 + k : Nat) : Int)
def ykf (c : ykC) : Nat → Int := ykwr c.2.2.2.2 (ykba c.2.2.1 c.2.2.2.1)
def ykdf : ykC := (99, 0, 0, [], [])
def ykce (c : ykC) : zC := (c.1, c.2.1, ykf c)
def ykw (P : zP) (cs : List ykC) : zW := fun r => if r < 10 then (if r = 0 then (98, cs.length, fun _ => 0) else wini P.1 P.2 r) else ykce (cs.getD (r - 10) ykdf)
def ykg (cs : List ykC) (r : Int) : ykC := cs.getD (r.toNat - 10) ykdf
def ykput (cs : List ykC) (r : Int) (k : Nat) (x : Int) : List ykC := cs.set (r.toNat - 10) ((ykg cs r).1, (ykg cs r).2.1, (ykg cs r).2.2.1, (ykg cs r).2.2.2.1, (k, x) :: (ykg cs r).2.2.2.2)
theorem ykw_get {P : zP} {cs : List ykC} {r : Int} (h : 10 ≤ r) : ykw P cs r.toNat = ykce (ykg cs r) := by
  unfold ykw ykg
  rw [if_neg (by omega)]
theorem ykw_put {P : zP} {cs : List ykC} {r : Int} {k : Nat} {x : Int} (h : 10 ≤ r) (hl : r.toNat - 10 < cs.length) : zup (ykw P cs) r.toNat ((ykg cs r).1, (ykg cs r).2.1, zfu (ykf (ykg cs r)) k x) = ykw P (ykput cs r k x) := by
  funext j
  unfold zup
  by_cases e : j = r.toNat
  · rw [if_pos e, e]
    unfold ykw ykput
    rw [if_neg (by omega), List.getD_eq_getElem?_getD, List.getElem?_set_self hl]
    rfl
  · rw [if_neg e]
    unfold ykw ykput
    by_cases c : j < 10
    · rw [if_pos c, if_pos c, List.length_set]
    · rw [if_neg c, if_neg c, List.getD_eq_getElem?_getD, List.getD_eq_getElem?_getD, List.getElem?_set_ne (by omega)]
theorem ykapp {cs : List ykC} {c : ykC} {i : Nat} : (cs ++ [c]).getD i ykdf = if i = cs.length then c else cs.getD i ykdf := by
  rw [List.getD_eq_getElem?_getD, List.getD_eq_getElem?_getD]
  by_cases e : i = cs.length
  · rw [if_pos e, e, List.getElem?_concat_length]
    rfl
  · rw [if_neg e]
    by_cases l : i < cs.length
    · rw [List.getElem?_append_left l]
    · rw [List.getElem?_eq_none (by rw [List.length_append]; show cs.length + 1 ≤ i; omega), List.getElem?_eq_none (by omega)]
theorem ykw_0 {P : zP} {cs : List ykC} : ykw P cs 0 = (98, cs.length, fun _ => 0) := rfl
theorem ykw_push {P : zP} {cs : List ykC} {c : ykC} : zup (zup (ykw P cs) (cs.length + 10) (ykce c)) 0 (98, cs.length + 1, fun _ => 0) = ykw P (cs ++ [c]) := by
  funext j
  unfold zup
  by_cases e0 : j = 0
  · rw [if_pos e0, e0, ykw_0, List.length_append]
    rfl
  · rw [if_neg e0]
    unfold ykw
    by_cases e : j = cs.length + 10
    · rw [if_pos e, if_neg (by omega), ykapp, if_pos (by omega)]
    · rw [if_neg e]
      by_cases c : j < 10
      · rw [if_pos c, if_pos c, if_neg e0, if_neg e0]
      · rw [if_neg c, if_neg c, ykapp, if_neg (by omega)]
def ykbad : ykO := .inr (.inr (.inr (.inr ())))
def ykaS (P : zP) (x : ykS) : zS := (x.1, x.2.1, ykw P x.2.2.1, x.2.2.2)
def ykaO (P : zP) : ykO → zO
  | .inl x => .inl (ykaS P x)
  | .inr (.inl (t, x)) => .inr (.inl (t, ykaS P x))
  | .inr (.inr (.inl (v, w))) => .inr (.inr (.inl (v, ykw P w)))
  | .inr (.inr (.inr (.inl (j, as, x)))) => .inr (.inr (.inr (.inl (j, as, ykaS P x))))
  | .inr (.inr (.inr (.inr ()))) => zbad
def yks0 (t : Nat) (v : Int) : ykS → ykO
  | (ls, st, w, b) => .inl (ls, (t, v) :: st, w, b)
def yks1 (k t : Nat) : ykS → ykO
  | (ls, st, w, b) => if (znth ls k).1 = t ∧ t ≠ 3 then .inl (ls, znth ls k :: st, w, b) else ykbad
def yks2 (k t : Nat) : ykS → ykO
  | (ls, (u, v) :: st, w, b) => if u = t ∧ k < ls.length then .inl (zst1 ls k (t, v), st, w, b) else ykbad
  | (_, [], _, _) => ykbad
def yks4 (k : Nat) (n : Int) : ykS → ykO
  | (ls, st, w, b) => if (znth ls k).1 = 0 then .inl (zst1 ls k (0, (znth ls k).2 + n), st, w, b) else ykbad
def yks13 : ykS → ykO
  | (ls, (t, x) :: st, w, b) => if t = 0 ∨ t = 2 then .inl (ls, (t, x) :: (t, x) :: st, w, b) else ykbad
  | (_, [], _, _) => ykbad
def yks17 (f t : Nat) : ykS → ykO
  | (ls, (u, y) :: (v, x) :: st, w, b) => if u = 0 ∧ v = 0 then (if zcond f x y then .inr (.inl (t, (ls, st, w, b))) else .inl (ls, st, w, b)) else ykbad
  | (_, _, _, _) => ykbad
def yks18 (t : Nat) : ykS → ykO
  | (ls, st, w, b) => .inr (.inl (t, (ls, st, w, b)))
def yks20 : ykS → ykO
  | (_, [], w, _) => .inr (.inr (.inl ([], w)))
  | (_, _ :: _, _, _) => ykbad
def yks21 (k t : Nat) (c : Int) : ykS → ykO
  | (ls, (u, r) :: st, w, b) => if u = 2 ∧ 10 ≤ r ∧ ((ykg w r).1 : Int) = c then .inl (ls, (t, ykf (ykg w r) k) :: st, w, b) else ykbad
  | (_, [], _, _) => ykbad
def yks22 (k t : Nat) (c : Int) : ykS → ykO
  | (ls, (u, x) :: (v, r) :: st, w, b) => if v = 2 ∧ 10 ≤ r ∧ r.toNat - 10 < w.length ∧ ((ykg w r).1 : Int) = c ∧ ((u = t ∧ u < 3) ∨ (u = 0 ∧ t = 5 ∧ (x = 0 ∨ x = 1))) then .inl (ls, st, ykput w r k x, b) else ykbad
  | (_, _, _, _) => ykbad
def yks24 (k : Nat) : ykS → ykO
  | (ls, (u, i) :: (v, r) :: st, w, b) => if u = 0 ∧ v = 2 ∧ 10 ≤ r ∧ (ykg w r).1 = k ∧ zin i (ykg w r).2.1 then .inl (ls, (zet k, ykf (ykg w r) (zix i)) :: st, w, b) else ykbad
  | (_, _, _, _) => ykbad
def yks25 (k : Nat) : ykS → ykO
  | (ls, (u, x) :: (t, i) :: (v, r) :: st, w, b) => if t = 0 ∧ v = 2 ∧ 10 ≤ r ∧ r.toNat - 10 < w.length ∧ (ykg w r).1 = k ∧ zin i (ykg w r).2.1 ∧ u = zet k ∧ k ≠ 22 then .inl (ls, st, ykput w r (zix i) x, b) else ykbad
  | (_, _, _, _) => ykbad
def yks26 : ykS → ykO
  | (ls, (u, r) :: st, w, b) => if u = 2 ∧ 10 ≤ r ∧ 20 ≤ (ykg w r).1 ∧ (ykg w r).1 ≤ 24 then .inl (ls, (0, ((ykg w r).2.1 : Int)) :: st, w, b) else ykbad
  | (_, [], _, _) => ykbad
def yks27 (ci n : Nat) (l : List (Int × Nat)) : ykS → ykO
  | (ls, st, w, bc, bs) => if 1 ≤ bc ∧ n ≤ bs then .inl (ls, (2, (w.length + 10 : Nat)) :: st, w ++ [(ci, n, 0, l, [])], bc - 1, bs - n) else ykbad
def yks28 (k : Nat) : ykS → ykO
  | (ls, (u, n) :: st, w, bc, bs) => if u = 0 ∧ 0 ≤ wr n ∧ wr n ≤ 20000 ∧ 1 ≤ bc ∧ zix n ≤ bs then .inl (ls, (2, (w.length + 10 : Nat)) :: st, w ++ [(k, zix n, 0, [], [])], bc - 1, bs - zix n) else ykbad
  | (_, [], _, _, _) => ykbad
def yks29 (k : Nat) : ykS → ykO
  | (ls, (u, m) :: (v, n) :: st, w, bc, bs) => if u = 0 ∧ v = 0 ∧ wr n = 2 ∧ 0 ≤ wr m ∧ wr m ≤ 20000 ∧ 3 ≤ bc ∧ 2 + 2 * zix m ≤ bs then .inl (ls, (2, (w.length + 10 : Nat)) :: st, ((w ++ [(k, 2, w.length + 12, [], [])]) ++ [(k - 3, zix m, 0, [], [])]) ++ [(k - 3, zix m, 0, [], [])], bc - 3, bs - (2 + 2 * zix m)) else ykbad
  | (_, _, _, _, _) => ykbad
def yks30 : ykS → ykO
  | (ls, (u, r) :: st, w, b) => if u = 2 ∧ 10 ≤ r ∧ zsh st = true then .inl (ls, st, w, b) else ykbad
  | (_, [], _, _) => ykbad
def yks34 (j n : Nat) : ykS → ykO
  | (ls, st, w, b) => match zspl n [] st with
    | some (as, st') => .inr (.inr (.inr (.inl (j, as, (ls, st', w, b)))))
    | none => ykbad
def yks33 (j n : Nat) : List (Int × Nat) → ykS → ykO
  | (_, mc) :: (_, ms) :: _, (ls, st, w, bc, bs) => match zspl n [] st with
    | some ((u, r) :: as, st') => if u = 2 ∧ 0 ≤ r ∧ mc ≤ bc ∧ ms ≤ bs then .inr (.inr (.inr (.inl (j, (u, r) :: as, (ls, st', w, bc - mc, bs - ms))))) else ykbad
    | _ => ykbad
  | _, _ => ykbad
section
variable {P : zP}
theorem yk0 {t : Nat} {v : Int} (x : ykS) : yks0 t v x = ykbad ∨ zs0 t v (ykaS P x) = ykaO P (yks0 t v x) := Or.inr rfl
theorem yk1 {k t : Nat} : ∀ x : ykS, yks1 k t x = ykbad ∨ zs1 k t (ykaS P x) = ykaO P (yks1 k t x)
  | (ls, st, w, b) => by
    by_cases h : (znth ls k).1 = t ∧ t ≠ 3
    · right
      have e : yks1 k t (ls, st, w, b) = .inl (ls, znth ls k :: st, w, b) := if_pos h
      rw [e]
      exact if_pos h
    · exact Or.inl (if_neg h)
theorem yk2 {k t : Nat} : ∀ x : ykS, yks2 k t x = ykbad ∨ zs2 k t (ykaS P x) = ykaO P (yks2 k t x)
  | (ls, (u, v) :: st, w, b) => by
    by_cases h : u = t ∧ k < ls.length
    · right
      have e : yks2 k t (ls, (u, v) :: st, w, b) = .inl (zst1 ls k (t, v), st, w, b) := if_pos h
      rw [e]
      exact if_pos h
    · exact Or.inl (if_neg h)
  | (_, [], _, _) => Or.inl rfl
theorem yk4 {k : Nat} {n : Int} : ∀ x : ykS, yks4 k n x = ykbad ∨ zs4 k n (ykaS P x) = ykaO P (yks4 k n x)
  | (ls, st, w, b) => by
    by_cases h : (znth ls k).1 = 0
    · right
      have e : yks4 k n (ls, st, w, b) = .inl (zst1 ls k (0, (znth ls k).2 + n), st, w, b) := if_pos h
      rw [e]
      exact if_pos h
    · exact Or.inl (if_neg h)
theorem yk13 : ∀ x : ykS, yks13 x = ykbad ∨ zs13 (ykaS P x) = ykaO P (yks13 x)
  | (ls, (t, x) :: st, w, b) => by
    by_cases h : t = 0 ∨ t = 2
    · right
      have e : yks13 (ls, (t, x) :: st, w, b) = .inl (ls, (t, x) :: (t, x) :: st, w, b) := if_pos h
      rw [e]
      exact if_pos h
    · exact Or.inl (if_neg h)
  | (_, [], _, _) => Or.inl rfl
theorem yk17 {f t : Nat} : ∀ x : ykS, yks17 f t x = ykbad ∨ zs17 f t (ykaS P x) = ykaO P (yks17 f t x)
  | (ls, (u, y) :: (v, x) :: st, w, b) => by
    by_cases h : u = 0 ∧ v = 0
    · right
      have e : yks17 f t (ls, (u, y) :: (v, x) :: st, w, b) = if zcond f x y then .inr (.inl (t, (ls, st, w, b))) else .inl (ls, st, w, b) := if_pos h
      rw [e]
      obtain ⟨rfl, rfl⟩ := h
      show (if zcond f x y then (Sum.inr (.inl (t, (ls, st, ykw P w, b))) : zO) else .inl (ls, st, ykw P w, b)) = _
      cases zcond f x y <;> rfl
    · exact Or.inl (if_neg h)
  | (_, [], _, _) => Or.inl rfl
  | (_, [_], _, _) => Or.inl rfl
theorem yk18 {t : Nat} (x : ykS) : yks18 t x = ykbad ∨ zs18 t (ykaS P x) = ykaO P (yks18 t x) := Or.inr rfl
theorem yk20 : ∀ x : ykS, yks20 x = ykbad ∨ zs20 (ykaS P x) = ykaO P (yks20 x)
  | (_, [], _, _) => Or.inr rfl
  | (_, _ :: _, _, _) => Or.inl rfl
theorem yk21 {k t : Nat} {c : Int} : ∀ x : ykS, yks21 k t c x = ykbad ∨ zs21 k t c (ykaS P x) = ykaO P (yks21 k t c x)
  | (ls, (u, r) :: st, w, b) => by
    by_cases h : u = 2 ∧ 10 ≤ r ∧ ((ykg w r).1 : Int) = c
    · right
      have e : yks21 k t c (ls, (u, r) :: st, w, b) = .inl (ls, (t, ykf (ykg w r) k) :: st, w, b) := if_pos h
      rw [e]
      obtain ⟨rfl, h1, h2⟩ := h
      show (if 0 ≤ r ∧ ((ykw P w r.toNat).1 : Int) = c then (Sum.inl (ls, (t, (ykw P w r.toNat).2.2 k) :: st, ykw P w, b) : zO) else zbad) = _
      rw [ykw_get h1, if_pos ⟨by omega, h2⟩]
      rfl
    · exact Or.inl (if_neg h)
  | (_, [], _, _) => Or.inl rfl
theorem yk22 {k t : Nat} {c : Int} : ∀ x : ykS, yks22 k t c x = ykbad ∨ zs22 k t c (ykaS P x) = ykaO P (yks22 k t c x)
  | (ls, (u, x) :: (v, r) :: st, w, b) => by
    by_cases h : v = 2 ∧ 10 ≤ r ∧ r.toNat - 10 < w.length ∧ ((ykg w r).1 : Int) = c ∧ ((u = t ∧ u < 3) ∨ (u = 0 ∧ t = 5 ∧ (x = 0 ∨ x = 1)))
    · right
      have e : yks22 k t c (ls, (u, x) :: (v, r) :: st, w, b) = .inl (ls, st, ykput w r k x, b) := if_pos h
      rw [e]
      obtain ⟨rfl, h1, h2, h3, h4⟩ := h
      show (if 0 ≤ r ∧ ((ykw P w r.toNat).1 : Int) = c ∧ ((u = t ∧ u < 3) ∨ (u = 0 ∧ t = 5 ∧ (x = 0 ∨ x = 1))) then (Sum.inl (ls, st, zup (ykw P w) r.toNat ((ykw P w r.toNat).1, (ykw P w r.toNat).2.1, zfu (ykw P w r.toNat).2.2 k x), b) : zO) else zbad) = _
      rw [ykw_get h1, if_pos ⟨by omega, h3, h4⟩]
      show (Sum.inl (ls, st, zup (ykw P w) r.toNat ((ykg w r).1, (ykg w r).2.1, zfu (ykf (ykg w r)) k x), b) : zO) = Sum.inl (ls, st, ykw P (ykput w r k x), b)
      rw [ykw_put h1 h2]
    · exact Or.inl (if_neg h)
  | (_, [], _, _) => Or.inl rfl
  | (_, [_], _, _) => Or.inl rfl
theorem yk24 {k : Nat} : ∀ x : ykS, yks24 k x = ykbad ∨ zs24 k (ykaS P x) = ykaO P (yks24 k x)
  | (ls, (u, i) :: (v, r) :: st, w, b) => by
    by_cases h : u = 0 ∧ v = 2 ∧ 10 ≤ r ∧ (ykg w r).1 = k ∧ zin i (ykg w r).2.1
    · right
      have e : yks24 k (ls, (u, i) :: (v, r) :: st, w, b) = .inl (ls, (zet k, ykf (ykg w r) (zix i)) :: st, w, b) := if_pos h
      rw [e]
      obtain ⟨rfl, rfl, h1, h2, h3⟩ := h
      show (if 0 ≤ r ∧ ((ykw P w r.toNat).1 = k ∨ ((ykw P w r.toNat).1 = 30 ∧ k = 20)) ∧ zin i (ykw P w r.toNat).2.1 then (Sum.inl (ls, (zet k, (ykw P w r.toNat).2.2 (zix i)) :: st, ykw P w, b) : zO) else zbad) = _
      rw [ykw_get h1, if_pos ⟨by omega, Or.inl h2, h3⟩]
      rfl
    · exact Or.inl (if_neg h)
  | (_, [], _, _) => Or.inl rfl
  | (_, [_], _, _) => Or.inl rfl
theorem yk25 {k : Nat} : ∀ x : ykS, yks25 k x = ykbad ∨ zs25 k (ykaS P x) = ykaO P (yks25 k x)
  | (ls, (u, x) :: (t, i) :: (v, r) :: st, w, b) => by
    by_cases h : t = 0 ∧ v = 2 ∧ 10 ≤ r ∧ r.toNat - 10 < w.length ∧ (ykg w r).1 = k ∧ zin i (ykg w r).2.1 ∧ u = zet k ∧ k ≠ 22
    · right
      have e : yks25 k (ls, (u, x) :: (t, i) :: (v, r) :: st, w, b) = .inl (ls, st, ykput w r (zix i) x, b) := if_pos h
      rw [e]
      obtain ⟨rfl, rfl, h1, h2, h3, h4, h5, h6⟩ := h
      show (if 0 ≤ r ∧ (ykw P w r.toNat).1 = k ∧ zin i (ykw P w r.toNat).2.1 ∧ u = zet k then (Sum.inl (ls, st, zup (ykw P w) r.toNat (k, (ykw P w r.toNat).2.1, zfu (ykw P w r.toNat).2.2 (zix i) (if k = 22 then zby x else x)), b) : zO) else zbad) = _
      rw [ykw_get h1, if_pos ⟨by omega, h3, h4, h5⟩, if_neg h6]
      show (Sum.inl (ls, st, zup (ykw P w) r.toNat (k, (ykg w r).2.1, zfu (ykf (ykg w r)) (zix i) x), b) : zO) = Sum.inl (ls, st, ykw P (ykput w r (zix i) x), b)
      rw [← ykw_put h1 h2, h3]
    · exact Or.inl (if_neg h)
  | (_, [], _, _) => Or.inl rfl
  | (_, [_], _, _) => Or.inl rfl
  | (_, [_, _], _, _) => Or.inl rfl
theorem yk26 : ∀ x : ykS, yks26 x = ykbad ∨ zs26 (ykaS P x) = ykaO P (yks26 x)
  | (ls, (u, r) :: st, w, b) => by
    by_cases h : u = 2 ∧ 10 ≤ r ∧ 20 ≤ (ykg w r).1 ∧ (ykg w r).1 ≤ 24
    · right
      have e : yks26 (ls, (u, r) :: st, w, b) = .inl (ls, (0, ((ykg w r).2.1 : Int)) :: st, w, b) := if_pos h
      rw [e]
      obtain ⟨rfl, h1, h2, h3⟩ := h
      show (if 0 ≤ r ∧ ((20 ≤ (ykw P w r.toNat).1 ∧ (ykw P w r.toNat).1 ≤ 24) ∨ (ykw P w r.toNat).1 = 30) then (Sum.inl (ls, (0, ((ykw P w r.toNat).2.1 : Int)) :: st, ykw P w, b) : zO) else zbad) = _
      rw [ykw_get h1, if_pos ⟨by omega, Or.inl ⟨h2, h3⟩⟩]
      rfl
    · exact Or.inl (if_neg h)
  | (_, [], _, _) => Or.inl rfl
theorem yk27 {ci n : Nat} {l : List (Int × Nat)} : ∀ x : ykS, yks27 ci n l x = ykbad ∨ zs27 ci n l (ykaS P x) = ykaO P (yks27 ci n l x)
  | (ls, st, w, bc, bs) => by
    by_cases h : 1 ≤ bc ∧ n ≤ bs
    · right
      have e : yks27 ci n l (ls, st, w, bc, bs) = .inl (ls, (2, (w.length + 10 : Nat)) :: st, w ++ [(ci, n, 0, l, [])], bc - 1, bs - n) := if_pos h
      rw [e]
      refine Eq.trans (b := (Sum.inl (ls, (2, ((ykw P w 0).2.1 + 10 : Nat)) :: st, zup (zup (ykw P w) ((ykw P w 0).2.1 + 10) (ci, n, fun k => (l.getD k (0, 0)).1)) 0 (98, (ykw P w 0).2.1 + 1, fun _ => 0), bc - 1, bs - n) : zO)) (if_pos h) ?_
      show (Sum.inl (ls, (2, (w.length + 10 : Nat)) :: st, zup (zup (ykw P w) (w.length + 10) (ykce (ci, n, 0, l, []))) 0 (98, w.length + 1, fun _ => 0), bc - 1, bs - n) : zO) = (Sum.inl (ls, (2, (w.length + 10 : Nat)) :: st, ykw P (w ++ [(ci, n, 0, l, [])]), bc - 1, bs - n) : zO)
      rw [ykw_push]
    · exact Or.inl (if_neg h)
theorem yk28 {k : Nat} : ∀ x : ykS, yks28 k x = ykbad ∨ zs28 k (ykaS P x) = ykaO P (yks28 k x)
  | (ls, (u, n) :: st, w, bc, bs) => by
    by_cases h : u = 0 ∧ 0 ≤ wr n ∧ wr n ≤ 20000 ∧ 1 ≤ bc ∧ zix n ≤ bs
    · right
      have e : yks28 k (ls, (u, n) :: st, w, bc, bs) = .inl (ls, (2, (w.length + 10 : Nat)) :: st, w ++ [(k, zix n, 0, [], [])], bc - 1, bs - zix n) := if_pos h
      rw [e]
      obtain ⟨rfl, h1⟩ := h
      refine Eq.trans (b := (Sum.inl (ls, (2, ((ykw P w 0).2.1 + 10 : Nat)) :: st, zup (zup (ykw P w) ((ykw P w 0).2.1 + 10) (k, zix n, fun _ => 0)) 0 (98, (ykw P w 0).2.1 + 1, fun _ => 0), bc - 1, bs - zix n) : zO)) (if_pos h1) ?_
      show (Sum.inl (ls, (2, (w.length + 10 : Nat)) :: st, zup (zup (ykw P w) (w.length + 10) (ykce (k, zix n, 0, [], []))) 0 (98, w.length + 1, fun _ => 0), bc - 1, bs - zix n) : zO) = (Sum.inl (ls, (2, (w.length + 10 : Nat)) :: st, ykw P (w ++ [(k, zix n, 0, [], [])]), bc - 1, bs - zix n) : zO)
      rw [ykw_push]
    · exact Or.inl (if_neg h)
  | (_, [], _, _, _) => Or.inl rfl
theorem zup_sw {w : zW} {a b : Nat} {x y : zC} (h : a ≠ b) : zup (zup w a x) b y = zup (zup w b y) a x := by
  funext j
  unfold zup
  by_cases e : j = b
  · rw [if_pos e, if_neg (by omega), if_pos e]
  · rw [if_neg e, if_neg e]
theorem zup_zup {w : zW} {a : Nat} {x y : zC} : zup (zup w a x) a y = zup w a y := by
  funext j
  unfold zup
  by_cases e : j = a
  · rw [if_pos e, if_pos e]
  · rw [if_neg e, if_neg e, if_neg e]
theorem ykw_push3 {cs : List ykC} {a b c : ykC} : zup (zup (zup (zup (ykw P cs) (cs.length + 10) (ykce a)) (cs.length + 11) (ykce b)) (cs.length + 12) (ykce c)) 0 (98, cs.length + 3, fun _ => 0) = ykw P (((cs ++ [a]) ++ [b]) ++ [c]) := by
  have l1 : (cs ++ [a]).length = cs.length + 1 := List.length_append
  have l2 : ((cs ++ [a]) ++ [b]).length = cs.length + 2 := by rw [List.length_append, l1]; rfl
  rw [← ykw_push, ← ykw_push, ← ykw_push, l1, l2]
  funext j
  unfold zup
  by_cases e0 : j = 0
  · rw [if_pos e0, if_pos e0]
  · rw [if_neg e0, if_neg e0, if_neg e0, if_neg e0]
theorem yk29 {k : Nat} : ∀ x : ykS, yks29 k x = ykbad ∨ zs29 k (ykaS P x) = ykaO P (yks29 k x)
  | (ls, (u, m) :: (v, n) :: st, w, bc, bs) => by
    by_cases h : u = 0 ∧ v = 0 ∧ wr n = 2 ∧ 0 ≤ wr m ∧ wr m ≤ 20000 ∧ 3 ≤ bc ∧ 2 + 2 * zix m ≤ bs
    · right
      have e : yks29 k (ls, (u, m) :: (v, n) :: st, w, bc, bs) = .inl (ls, (2, (w.length + 10 : Nat)) :: st, ((w ++ [(k, 2, w.length + 12, [], [])]) ++ [(k - 3, zix m, 0, [], [])]) ++ [(k - 3, zix m, 0, [], [])], bc - 3, bs - (2 + 2 * zix m)) := if_pos h
      rw [e]
      obtain ⟨rfl, rfl, h1⟩ := h
      refine Eq.trans (b := (Sum.inl (ls, (2, ((ykw P w 0).2.1 + 10 : Nat)) :: st, zup (zup (zup (zup (ykw P w) ((ykw P w 0).2.1 + 10) (k, 2, fun i => ((ykw P w 0).2.1 + 11 + i : Nat))) ((ykw P w 0).2.1 + 11) (k - 3, zix m, fun _ => 0)) ((ykw P w 0).2.1 + 12) (k - 3, zix m, fun _ => 0)) 0 (98, (ykw P w 0).2.1 + 3, fun _ => 0), bc - 3, bs - (2 + 2 * zix m)) : zO)) (if_pos h1) ?_
      have ek : ykce (k, 2, w.length + 12, [], []) = (k, 2, fun i => ((w.length + 11 + i : Nat) : Int)) := by
        have e0 : ykba (w.length + 12) [] = fun i => ((w.length + 12 - 1 + i : Nat) : Int) := if_neg (by omega)
        show (k, 2, ykba (w.length + 12) []) = _
        rw [e0]
        rfl
      show (Sum.inl (ls, (2, (w.length + 10 : Nat)) :: st, zup (zup (zup (zup (ykw P w) (w.length + 10) (k, 2, fun i => ((w.length + 11 + i : Nat) : Int))) (w.length + 11) (ykce (k - 3, zix m, 0, [], []))) (w.length + 12) (ykce (k - 3, zix m, 0, [], []))) 0 (98, w.length + 3, fun _ => 0), bc - 3, bs - (2 + 2 * zix m)) : zO) = (Sum.inl (ls, (2, (w.length + 10 : Nat)) :: st, ykw P (((w ++ [(k, 2, w.length + 12, [], [])]) ++ [(k - 3, zix m, 0, [], [])]) ++ [(k - 3, zix m, 0, [], [])]), bc - 3, bs - (2 + 2 * zix m)) : zO)
      rw [← ek, ykw_push3]
    · exact Or.inl (if_neg h)
  | (_, [], _, _, _) => Or.inl rfl
  | (_, [_], _, _, _) => Or.inl rfl
theorem yk30 : ∀ x : ykS, yks30 x = ykbad ∨ zs30 (ykaS P x) = ykaO P (yks30 x)
  | (ls, (u, r) :: st, w, b) => by
    by_cases h : u = 2 ∧ 10 ≤ r ∧ zsh st = true
    · right
      have e : yks30 (ls, (u, r) :: st, w, b) = .inl (ls, st, w, b) := if_pos h
      rw [e]
      obtain ⟨rfl, h1⟩ := h
      exact if_pos h1
    · exact Or.inl (if_neg h)
  | (_, [], _, _) => Or.inl rfl
theorem yk34 {j n : Nat} : ∀ x : ykS, yks34 j n x = ykbad ∨ zs34 j n (ykaS P x) = ykaO P (yks34 j n x)
  | (ls, st, w, b) => by
    right
    unfold yks34 zs34 ykaS
    (try dsimp only)
    cases zspl n [] st with
    | none => rfl
    | some q => rfl
theorem yk33 {j n mc ms : Nat} {c1 c2 : Int} {l : List (Int × Nat)} : ∀ x : ykS, yks33 j n ((c1, mc) :: (c2, ms) :: l) x = ykbad ∨ zs33 j n mc ms (ykaS P x) = ykaO P (yks33 j n ((c1, mc) :: (c2, ms) :: l) x)
  | (ls, st, w, bc, bs) => by
    unfold yks33 zs33 ykaS
    (try dsimp only)
    cases zspl n [] st with
    | none => exact Or.inl rfl
    | some q =>
      obtain ⟨as, st'⟩ := q
      cases as with
      | nil => exact Or.inl rfl
      | cons a as =>
        obtain ⟨u, r⟩ := a
        (try dsimp only)
        by_cases h : u = 2 ∧ 0 ≤ r ∧ mc ≤ bc ∧ ms ≤ bs
        · right
          rw [if_pos h]
          obtain ⟨rfl, h1⟩ := h
          exact if_pos h1
        · exact Or.inl (if_neg h)
end
def ykstp (i : zI) (s : ykS) : ykO :=
  if i.1 = 0 then yks0 i.2.1 i.2.2.2.1 s else if i.1 = 1 then yks1 i.2.1 i.2.2.1 s else if i.1 = 2 then yks2 i.2.1 i.2.2.1 s
  else if i.1 = 4 then yks4 i.2.1 i.2.2.2.1 s else if i.1 = 13 then yks13 s else if i.1 = 17 then yks17 i.2.1 i.2.2.1 s else if i.1 = 18 then yks18 i.2.1 s
  else if i.1 = 20 ∧ i.2.1 = 0 then yks20 s else if i.1 = 21 then yks21 i.2.1 i.2.2.1 i.2.2.2.1 s else if i.1 = 22 then yks22 i.2.1 i.2.2.1 i.2.2.2.1 s
  else if i.1 = 24 then yks24 i.2.1 s else if i.1 = 25 then yks25 i.2.1 s else if i.1 = 26 then yks26 s else if i.1 = 27 then yks27 i.2.1 i.2.2.1 i.2.2.2.2 s
  else if i.1 = 28 then yks28 i.2.1 s else if i.1 = 29 then yks29 i.2.1 s else if i.1 = 30 then yks30 s else if i.1 = 33 then yks33 i.2.1 i.2.2.1 i.2.2.2.2 s
  else if i.1 = 34 then yks34 i.2.1 i.2.2.1 s else ykbad
theorem yksim {P : zP} (i : zI) (x : ykS) : ykstp i x = ykbad ∨ zstp i (ykaS P x) = ykaO P (ykstp i x) := by
  obtain ⟨op, a, t, v, l⟩ := i
  unfold ykstp
  (try dsimp only)
  by_cases h : op = 0
  · rw [if_pos h, h]
    exact yk0 x
  rw [if_neg h]
  clear h
  by_cases h : op = 1
  · rw [if_pos h, h]
    exact yk1 x
  rw [if_neg h]
  clear h
  by_cases h : op = 2
  · rw [if_pos h, h]
    exact yk2 x
  rw [if_neg h]
  clear h
  by_cases h : op = 4
  · rw [if_pos h, h]
    exact yk4 x
  rw [if_neg h]
  clear h
  by_cases h : op = 13
  · rw [if_pos h, h]
    exact yk13 x
  rw [if_neg h]
  clear h
  by_cases h : op = 17
  · rw [if_pos h, h]
    exact yk17 x
  rw [if_neg h]
  clear h
  by_cases h : op = 18
  · rw [if_pos h, h]
    exact yk18 x
  rw [if_neg h]
  clear h
  by_cases h : op = 20 ∧ a = 0
  · rw [if_pos h]
    obtain ⟨rfl, rfl⟩ := h
    exact yk20 x
  rw [if_neg h]
  clear h
  by_cases h : op = 21
  · rw [if_pos h, h]
    exact yk21 x
  rw [if_neg h]
  clear h
  by_cases h : op = 22
  · rw [if_pos h, h]
    exact yk22 x
  rw [if_neg h]
  clear h
  by_cases h : op = 24
  · rw [if_pos h, h]
    exact yk24 x
  rw [if_neg h]
  clear h
  by_cases h : op = 25
  · rw [if_pos h, h]
    exact yk25 x
  rw [if_neg h]
  clear h
  by_cases h : op = 26
  · rw [if_pos h, h]
    exact yk26 x
  rw [if_neg h]
  clear h
  by_cases h : op = 27
  · rw [if_pos h, h]
    exact yk27 x
  rw [if_neg h]
  clear h
  by_cases h : op = 28
  · rw [if_pos h, h]
    exact yk28 x
  rw [if_neg h]
  clear h
  by_cases h : op = 29
  · rw [if_pos h, h]
    exact yk29 x
  rw [if_neg h]
  clear h
  by_cases h : op = 30
  · rw [if_pos h, h]
    exact yk30 x
  rw [if_neg h]
  clear h
  by_cases h : op = 33
  · rw [if_pos h, h]
    match l with
    | [] => exact Or.inl rfl
    | [_] => exact Or.inl rfl
    | (c1, mc) :: (c2, ms) :: l => exact yk33 x
  rw [if_neg h]
  clear h
  by_cases h : op = 34
  · rw [if_pos h, h]
    exact yk34 x
  rw [if_neg h]
  clear h
  exact Or.inl rfl
def ykev : Nat → List zI → List zI → ykS → Option (List zV × List ykC)
  | 0, _, _, _ => none
  | _ + 1, _, [], _ => none
  | f + 1, code, i :: r, s => match ykstp i s with
    | .inl s' => ykev f code r s'
    | .inr (.inl (t, s')) => ykev f code (code.drop t) s'
    | .inr (.inr (.inl v)) => some v
    | .inr (.inr (.inr (.inl (j, as, (ls, st, w, b))))) => if (zarg as).length ≤ (zT j).2.1 then (match ykev f (zT j).1 (zT j).1 (zini (zT j).2.1 as, [], w, (zT j).2.2) with
      | some (v, w') => ykev f code r (ls, v ++ st, w', b)
      | none => none) else none
    | .inr (.inr (.inr (.inr ()))) => none
theorem ykev_ok {P : zP} : ∀ (f : Nat) (code r : List zI) (x : ykS) (v : List zV) (cs : List ykC), ykev f code r x = some (v, cs) → zev zT f code r (ykaS P x) = some (v, ykw P cs)
  | 0, _, _, _, _, _, h => by simp [ykev] at h
  | f + 1, code, [], _, _, _, h => by simp [ykev] at h
  | f + 1, code, i :: r, x, v, cs, h => by
    rw [ykev] at h
    rw [zev]
    rcases yksim (P := P) i x with hb | hs
    · rw [hb] at h
      cases h
    · rw [hs]
      generalize ykstp i x = o at h
      match o, h with
      | .inl x', h => exact ykev_ok f _ _ _ _ _ h
      | .inr (.inl (t, x')), h => exact ykev_ok f _ _ _ _ _ h
      | .inr (.inr (.inl (v', w'))), h =>
        cases h
        rfl
      | .inr (.inr (.inr (.inl (j, as, (ls, st, w, b))))), h =>
        (try dsimp only at h)
        split at h
        · rename_i h0
          split at h
          · rename_i v1 w1 h2
            have a : zev zT f (zT j).1 (zT j).1 (zini (zT j).2.1 as, [], ykw P w, (zT j).2.2) = some (v1, ykw P w1) := ykev_ok f _ _ _ _ _ h2
            show (if (zarg as).length ≤ (zT j).2.1 then (match zev zT f (zT j).1 (zT j).1 (zini (zT j).2.1 as, [], ykw P w, (zT j).2.2) with
              | some (v, w') => zev zT f code r (ls, v ++ st, w', b)
              | none => none) else none) = _
            rw [if_pos h0, a]
            exact ykev_ok f _ _ _ _ _ h
          · cases h
        · cases h
      | .inr (.inr (.inr (.inr ()))), h => cases h
/-- straight on -/
def ykpr : Nat → List zI → ykS → Option (List zI × ykS)
  | 0, r, s => some (r, s)
  | _ + 1, [], _ => none
  | f + 1, i :: r, s => match ykstp i s with
    | .inl s' => ykpr f r s'
    | .inr _ => none
theorem ykpr_ok {P : zP} {code : List zI} : ∀ (f : Nat) (r r' : List zI) (x x' : ykS), ykpr f r x = some (r', x') → zX zT code r (ykaS P x) = zX zT code r' (ykaS P x')
  | 0, _, _, _, _, h => by
    cases h
    rfl
  | f + 1, [], _, _, _, h => by cases h
  | f + 1, i :: r, r', x, x', h => by
    rw [ykpr] at h
    rcases yksim (P := P) i x with hb | hs
    · rw [hb] at h
      cases h
    · generalize ykstp i x = o at h hs
      match o, h, hs with
      | .inl s', h, hs => rw [zX_next zT hs]; exact ykpr_ok f _ _ _ _ h
      | .inr _, h, _ => cases h
theorem ywini_kw {L : Nat} {xs : Nat → Int} : wini L xs = ykw (L, xs) [] := by
  funext r
  unfold ykw
  by_cases h : r < 10
  · rw [if_pos h]
    by_cases h0 : r = 0
    · rw [if_pos h0, h0]
      rfl
    · rw [if_neg h0]
  · rw [if_neg h]
    unfold wini
    rw [if_neg (by omega), if_neg (by omega), if_neg (by omega), if_neg (by omega), if_neg (by omega)]
    rfl
