/-! THE LAW'S OWN CODE: rows. -/
/-- a stretch of the law's code -/
def yseg (h : Nat) (l : List zI) : Bool := @decide ((zc_334.drop h).take l.length = l) (ydI _ l)
theorem yseg_ok {h n : Nat} {l : List zI} (e : yseg h l = true) (hn : h + l.length = n) : zc_334.drop h = l ++ zc_334.drop n := by
  rw [← hn]
  have e : (zc_334.drop h).take l.length = l := @of_decide_eq_true _ (ydI _ l) e
  have q := List.take_append_drop l.length (zc_334.drop h)
  rw [e, List.drop_drop] at q
  exact q.symm
def yL (i : Int) : List zV := [(2, 4), (2, 10), (2, 132), (0, i)]
noncomputable def yZ (P : zP) (r : List zI) (i : Int) (st : List zV) (d : zD P) (b : Nat × Nat) : Option zR := zX zT zc_334 r (yL i, st, zmk P d, b)
section
variable {P : zP} {d : zD P} {st st' as : List zV} {i x v : Int} {b : Nat × Nat} {r : List zI} {l : List (Int × Nat)} {j n : Nat}
theorem y_s1 {k t : Nat} {n : Int} {ls : List zV} {w : zW} (hk : znth ls k = (t, v)) (ht : t ≠ 3) : zstp (1, k, t, n, l) (ls, st, w, b) = .inl (ls, (t, v) :: st, w, b) := by
  show (if (znth ls k).1 = t ∧ t ≠ 3 then (Sum.inl (ls, znth ls k :: st, w, b) : zO) else zbad) = _
  rw [hk, if_pos ⟨rfl, ht⟩]
theorem y_s2 {k t : Nat} {n : Int} {ls ls' : List zV} {w : zW} (hk : k < ls.length) (hl : zst1 ls k (t, v) = ls') : zstp (2, k, t, n, l) (ls, (t, v) :: st, w, b) = .inl (ls', st, w, b) := by
  show (if t = t ∧ k < ls.length then (Sum.inl (zst1 ls k (t, v), st, w, b) : zO) else zbad) = _
  rw [if_pos ⟨rfl, hk⟩, hl]
theorem y_s4 {k t : Nat} {n : Int} {ls ls' : List zV} {w : zW} (hk : znth ls k = (0, v)) (hl : zst1 ls k (0, v + n) = ls') : zstp (4, k, t, n, l) (ls, st, w, b) = .inl (ls', st, w, b) := by
  show (if (znth ls k).1 = 0 then (Sum.inl (zst1 ls k (0, (znth ls k).2 + n), st, w, b) : zO) else zbad) = _
  rw [hk, if_pos rfl, hl]
theorem l_x : yZ P ((1, 1, 2, 0, []) :: r) i st d b = yZ P r i ((2, 10) :: st) d b := zX_next zT (y_s1 rfl (by decide))
theorem l_m : yZ P ((1, 2, 2, 0, []) :: r) i st d b = yZ P r i ((2, 132) :: st) d b := zX_next zT (y_s1 rfl (by decide))
theorem l_load (h : zin x P.1) : yZ P ((24, 20, 0, 0, []) :: r) i ((0, x) :: (2, 4) :: st) d b = yZ P r i ((0, P.2 (zix x)) :: st) d b := by
  refine zX_next zT ?_
  show (if 0 ≤ (4 : Int) ∧ ((zmk P d (4 : Int).toNat).1 = 20 ∨ ((zmk P d (4 : Int).toNat).1 = 30 ∧ 20 = 20)) ∧ zin x (zmk P d (4 : Int).toNat).2.1 then (Sum.inl (yL i, (zet 20, (zmk P d (4 : Int).toNat).2.2 (zix x)) :: st, zmk P d, b) : zO) else zbad) = _
  refine (if_pos ⟨by decide, Or.inr ⟨rfl, rfl⟩, h⟩).trans ?_
  show (Sum.inl (yL i, (0, d.m 4 (zix x)) :: st, zmk P d, b) : zO) = _
  rw [d.ok 4 (zix x) (P.2 (zix x)) rfl]
theorem l_arg {k : Int} (h : zin (i + k) P.1) : yZ P ((1, 0, 2, 0, []) :: (1, 3, 0, 0, []) :: (0, 0, 0, k, []) :: (5, 0, 0, 0, []) :: (24, 20, 0, 0, []) :: r) i st d b = yZ P r i ((0, P.2 (zix (i + k))) :: st) d b := by
  refine (zX_next zT (s' := (yL i, (2, 4) :: st, zmk P d, b)) (y_s1 rfl (by decide))).trans ?_
  refine (zX_next zT (s' := (yL i, (0, i) :: (2, 4) :: st, zmk P d, b)) (y_s1 rfl (by decide))).trans ?_
  refine (zX_next zT (s' := (yL i, (0, k) :: (0, i) :: (2, 4) :: st, zmk P d, b)) rfl).trans ?_
  refine (zX_next zT (s' := (yL i, (0, i + k) :: (2, 4) :: st, zmk P d, b)) rfl).trans ?_
  exact l_load h
theorem l_callX (hj : zsm j = true) (hr : (zme j).2.1 = 1 ∨ (zme j).2.1 = 3) (hp : zspl n [] st = some ((2, 10) :: as, st')) : yZ P ((31, j, n, 11, l) :: r) i st d b = (MM P j ((2, 10) :: as) d).bind (fun q => yZ P r i ((0, q.1) :: st') q.2 b) := by
  have e : zstp (31, j, n, 11, l) (yL i, st, zmk P d, b) = .inr (.inr (.inr (.inl (j, (2, 10) :: as, (yL i, st', zmk P d, b))))) := by
    show (match zspl n [] st with
      | some ((2, r) :: as, st') => if 0 ≤ r ∧ ((zmk P d r.toNat).1 : Int) = 11 then (Sum.inr (.inr (.inr (.inl (j, (2, r) :: as, (yL i, st', zmk P d, b))))) : zO) else zbad
      | _ => zbad) = _
    rw [hp]
    exact if_pos ⟨by decide, rfl⟩
  unfold yZ
  rw [zX_call zT e, zF_MM hj]
  cases MM P j ((2, 10) :: as) d with
  | none => rfl
  | some q =>
    show zX zT zc_334 r (yL i, zrv (zme j).2.1 q.1 ++ st', zmk P q.2, b) = zX zT zc_334 r (yL i, (0, q.1) :: st', zmk P q.2, b)
    rcases hr with hr | hr <;> rw [hr] <;> rfl
theorem l_callM (hj : zsm j = true) (hr : (zme j).2.1 = 1 ∨ (zme j).2.1 = 3) (hp : zspl n [] st = some ((2, 132) :: as, st')) : yZ P ((31, j, n, 12, l) :: r) i st d b = (MM P j ((2, 132) :: as) d).bind (fun q => yZ P r i ((0, q.1) :: st') q.2 b) := by
  have e : zstp (31, j, n, 12, l) (yL i, st, zmk P d, b) = .inr (.inr (.inr (.inl (j, (2, 132) :: as, (yL i, st', zmk P d, b))))) := by
    show (match zspl n [] st with
      | some ((2, r) :: as, st') => if 0 ≤ r ∧ ((zmk P d r.toNat).1 : Int) = 12 then (Sum.inr (.inr (.inr (.inl (j, (2, r) :: as, (yL i, st', zmk P d, b))))) : zO) else zbad
      | _ => zbad) = _
    rw [hp]
    exact if_pos ⟨by decide, rfl⟩
  unfold yZ
  rw [zX_call zT e, zF_MM hj]
  cases MM P j ((2, 132) :: as) d with
  | none => rfl
  | some q =>
    show zX zT zc_334 r (yL i, zrv (zme j).2.1 q.1 ++ st', zmk P q.2, b) = zX zT zc_334 r (yL i, (0, q.1) :: st', zmk P q.2, b)
    rcases hr with hr | hr <;> rw [hr] <;> rfl
theorem l_longX (hj : zsm j = true) (hr : (zme j).2.1 = 2) (hp : zspl n [] st = some ((2, 10) :: as, st')) : yZ P ((31, j, n, 11, l) :: r) i st d b = (MM P j ((2, 10) :: as) d).bind (fun q => yZ P r i ((1, q.1) :: st') q.2 b) := by
  have e : zstp (31, j, n, 11, l) (yL i, st, zmk P d, b) = .inr (.inr (.inr (.inl (j, (2, 10) :: as, (yL i, st', zmk P d, b))))) := by
    show (match zspl n [] st with
      | some ((2, r) :: as, st') => if 0 ≤ r ∧ ((zmk P d r.toNat).1 : Int) = 11 then (Sum.inr (.inr (.inr (.inl (j, (2, r) :: as, (yL i, st', zmk P d, b))))) : zO) else zbad
      | _ => zbad) = _
    rw [hp]
    exact if_pos ⟨by decide, rfl⟩
  unfold yZ
  rw [zX_call zT e, zF_MM hj]
  cases MM P j ((2, 10) :: as) d with
  | none => rfl
  | some q =>
    show zX zT zc_334 r (yL i, zrv (zme j).2.1 q.1 ++ st', zmk P q.2, b) = zX zT zc_334 r (yL i, (1, q.1) :: st', zmk P q.2, b)
    rw [hr]
    rfl
theorem l_longM (hj : zsm j = true) (hr : (zme j).2.1 = 2) (hp : zspl n [] st = some ((2, 132) :: as, st')) : yZ P ((31, j, n, 12, l) :: r) i st d b = (MM P j ((2, 132) :: as) d).bind (fun q => yZ P r i ((1, q.1) :: st') q.2 b) := by
  have e : zstp (31, j, n, 12, l) (yL i, st, zmk P d, b) = .inr (.inr (.inr (.inl (j, (2, 132) :: as, (yL i, st', zmk P d, b))))) := by
    show (match zspl n [] st with
      | some ((2, r) :: as, st') => if 0 ≤ r ∧ ((zmk P d r.toNat).1 : Int) = 12 then (Sum.inr (.inr (.inr (.inl (j, (2, r) :: as, (yL i, st', zmk P d, b))))) : zO) else zbad
      | _ => zbad) = _
    rw [hp]
    exact if_pos ⟨by decide, rfl⟩
  unfold yZ
  rw [zX_call zT e, zF_MM hj]
  cases MM P j ((2, 132) :: as) d with
  | none => rfl
  | some q =>
    show zX zT zc_334 r (yL i, zrv (zme j).2.1 q.1 ++ st', zmk P q.2, b) = zX zT zc_334 r (yL i, (1, q.1) :: st', zmk P q.2, b)
    rw [hr]
    rfl
theorem l_eq : yZ P ((17, 0, 1061, 0, []) :: r) i ((0, v) :: (0, v) :: st) d b = yZ P (zc_334.drop 1061) i st d b := by
  refine zX_jump zT ?_
  have e : zcond 0 v v = true := by
    unfold zcond
    rw [if_pos rfl]
    exact decide_eq_true rfl
  show (if zcond 0 v v then (Sum.inr (.inl (1061, (yL i, st, zmk P d, b))) : zO) else .inl (yL i, st, zmk P d, b)) = _
  rw [e]
  rfl
theorem l_eql : yZ P ((11, 0, 0, 0, []) :: (16, 0, 1061, 0, []) :: r) i ((1, v) :: (1, v) :: st) d b = yZ P (zc_334.drop 1061) i st d b := by
  refine (zX_next zT rfl).trans (zX_jump zT ?_)
  have e : zcond 0 (zlcmp v v) 0 = true := by
    unfold zcond
    rw [if_pos rfl]
    refine decide_eq_true ?_
    rw [show wr 0 = 0 from rfl, zlcmp_0]
  show (if zcond 0 (zlcmp v v) 0 then (Sum.inr (.inl (1061, (yL i, st, zmk P d, b))) : zO) else .inl (yL i, st, zmk P d, b)) = _
  rw [e]
  rfl
/-- what is 0 as a boolean -/
def ybo (x : Int) : Int := if wr x = 0 then 0 else 1
theorem ybo_01 : ybo x = 0 ∨ ybo x = 1 := by
  unfold ybo
  split
  · exact Or.inl rfl
  · exact Or.inr rfl
theorem l_bool {p q : Nat} (h : zc_334.drop p = (0, 0, 0, 0, []) :: zc_334.drop q) : yZ P ((16, 0, p, 0, []) :: (0, 0, 0, 1, []) :: (18, q, 0, 0, []) :: r) i ((0, x) :: st) d b = yZ P (zc_334.drop q) i ((0, ybo x) :: st) d b := by
  have hs : zstp (16, 0, p, 0, []) (yL i, (0, x) :: st, zmk P d, b) = if zcond 0 x 0 then .inr (.inl (p, (yL i, st, zmk P d, b))) else .inl (yL i, st, zmk P d, b) := rfl
  unfold yZ ybo
  by_cases c : wr x = 0
  · have e : zcond 0 x 0 = true := by
      unfold zcond
      rw [if_pos rfl]
      exact decide_eq_true c
    rw [if_pos c]
    rw [e] at hs
    rw [zX_jump zT hs, h]
    exact zX_next zT rfl
  · have e : zcond 0 x 0 = false := by
      unfold zcond
      rw [if_pos rfl]
      exact decide_eq_false c
    rw [if_neg c]
    rw [e] at hs
    rw [zX_next zT hs]
    exact (zX_next zT rfl).trans (zX_jump zT rfl)
/-- from a place of the law's code both call alike, and go on behind the switch -/
def yNX (P : zP) (i : Int) (b : Nat × Nat) (d : zD P) (a : Nat) : Prop := ∃ (d' : zD P) (F : Nat → Int) (B : Int → Int) (T : Int), INV d' F B T ∧ yZ P (zc_334.drop a) i [] d b = yZ P (zc_334.drop 1061) i [] d' b
end
