/-! THE ABSTRACT MACHINE: a stack machine over whole numbers, without classes, links, addresses. Values: (tag, number): 0 int, 1 long, 2 reference (a cell's number), 3 nothing. Cells: (kind, length, contents). -/
abbrev zV : Type := Nat × Int
abbrev zC : Type := Nat × Nat × (Nat → Int)
abbrev zW : Type := Nat → zC
abbrev zI : Type := Nat × Nat × Nat × Int × List (Int × Nat)
abbrev zS : Type := List zV × List zV × zW × Nat × Nat
abbrev zR : Type := List zV × zW
abbrev zO : Type := zS ⊕ (Nat × zS) ⊕ zR ⊕ (Nat × List zV × zS) ⊕ Unit
def wr (x : Int) : Int := (Int32.ofInt x).toInt
def wrl (x : Int) : Int := (Int64.ofInt x).toInt
def zup (w : zW) (k : Nat) (c : zC) : zW := fun j => if j = k then c else w j
def zfu (f : Nat → Int) (k : Nat) (v : Int) : Nat → Int := fun j => if j = k then v else f j
def zcp (f g : Nat → Int) (sp dp n : Nat) : Nat → Int := fun k => if dp ≤ k ∧ k < dp + n then f (sp + (k - dp)) else g k
def znth : List zV → Nat → zV
  | [], _ => (3, 0)
  | v :: _, 0 => v
  | _ :: l, n + 1 => znth l n
def zst1 : List zV → Nat → zV → List zV
  | [], _, _ => []
  | _ :: l, 0, v => v :: l
  | a :: l, 1, v => (if a.1 = 1 then (3, 0) else a) :: zst1 l 0 v
  | a :: l, n + 2, v => a :: zst1 l (n + 1) v
def zst2 : List zV → Nat → zV → List zV
  | [], _, _ => []
  | _ :: [], 0, _ => [(3, 0)]
  | _ :: _ :: l, 0, v => v :: (3, 0) :: l
  | a :: l, 1, v => (if a.1 = 1 then (3, 0) else a) :: zst2 l 0 v
  | a :: l, n + 2, v => a :: zst2 l (n + 1) v
/-- no more than four values lie below -/
def zsh : List zV → Bool
  | _ :: _ :: _ :: _ :: _ :: _ => false
  | _ => true
/-- what lies on a stack for a call: n values, the last on top; the arguments in order, and the rest -/
def zspl : Nat → List zV → List zV → Option (List zV × List zV)
  | 0, acc, st => if zsh st then some (acc, st) else none
  | _ + 1, _, [] => none
  | n + 1, acc, v :: st => zspl n (v :: acc) st
/-- the locals at a method's entry -/
def zarg : List zV → List zV
  | [] => []
  | v :: l => if v.1 = 1 then v :: (3, 0) :: zarg l else v :: zarg l
def zini (n : Nat) (args : List zV) : List zV := zarg args ++ List.replicate (n - (zarg args).length) (3, 0)
def zbin (f : Nat) (a b : Int) : Int :=
  if f = 0 then a + b else if f = 1 then a - b else if f = 2 then a * b
  else if f = 3 then (Int32.ofInt a &&& Int32.ofInt b).toInt
  else if f = 4 then (Int32.ofInt a ||| Int32.ofInt b).toInt
  else if f = 5 then (Int32.ofInt a ^^^ Int32.ofInt b).toInt
  else if f = 6 then (Int32.ofInt a <<< (Int32.ofInt b &&& 31)).toInt
  else if f = 7 then (Int32.ofInt a >>> (Int32.ofInt b &&& 31)).toInt
  else ((Int32.ofInt a).toUInt32 >>> ((Int32.ofInt b).toUInt32 &&& Int32.toUInt32 31)).toInt32.toInt
def zdiv (f : Nat) (a b : Int) : Int := if f = 0 then (Int32.ofInt a / Int32.ofInt b).toInt else (Int32.ofInt a - Int32.ofInt a / Int32.ofInt b * Int32.ofInt b).toInt
def zlbin (f : Nat) (a b : Int) : Int :=
  if f = 0 then a + b else if f = 1 then a - b else if f = 2 then a * b
  else if f = 3 then (Int64.ofInt a &&& Int64.ofInt b).toInt
  else (Int64.ofInt a ||| Int64.ofInt b).toInt
def zldiv (f : Nat) (a b : Int) : Int := if f = 0 then (Int64.ofInt a / Int64.ofInt b).toInt else (Int64.ofInt a - Int64.ofInt a / Int64.ofInt b * Int64.ofInt b).toInt
def zlsh (f : Nat) (a b : Int) : Int :=
  if f = 0 then (Int64.ofInt a <<< ((Int32.ofInt b).toInt64 &&& 63)).toInt
  else ((Int64.ofInt a).toUInt64 >>> ((Int32.ofInt b).toInt64.toUInt64 &&& Int64.toUInt64 63)).toInt64.toInt
def zcond (f : Nat) (a b : Int) : Bool :=
  if f = 0 then decide (wr a = wr b) else if f = 1 then !decide (wr a = wr b) else if f = 2 then decide (wr a < wr b)
  else if f = 3 then decide (wr b ≤ wr a) else if f = 4 then decide (wr b < wr a) else decide (wr a ≤ wr b)
def zlcmp (a b : Int) : Int := if wrl b < wrl a then 1 else if wrl a = wrl b then 0 else -1
def zsw : List (Int × Nat) → Nat → Int → Nat
  | [], d, _ => d
  | q :: l, d, x => if x = q.1 then q.2 else zsw l d x
abbrev zin (i : Int) (n : Nat) : Prop := 0 ≤ wr i ∧ wr i < n
def zix (i : Int) : Nat := (wr i).toNat
def zby (x : Int) : Int := ((Int32.ofInt x).toInt8).toInt
/-- what an element of an array is, by its kind -/
def zet (kind : Nat) : Nat := if kind = 21 then 1 else if kind = 23 then 2 else if kind = 24 then 2 else 0
/-- nothing that goes on -/
def zbad : zO := .inr (.inr (.inr (.inr ())))
def zs0 (t : Nat) (v : Int) : zS → zO
  | (ls, st, w, b) => .inl (ls, (t, v) :: st, w, b)
def zs1 (k t : Nat) : zS → zO
  | (ls, st, w, b) => if (znth ls k).1 = t ∧ t ≠ 3 then .inl (ls, znth ls k :: st, w, b) else zbad
def zs2 (k t : Nat) : zS → zO
  | (ls, (t', v) :: st, w, b) => if t' = t ∧ k < ls.length then .inl (zst1 ls k (t, v), st, w, b) else zbad
  | _ => zbad
def zs3 (k : Nat) : zS → zO
  | (ls, (1, v) :: st, w, b) => if k + 1 < ls.length then .inl (zst2 ls k (1, v), st, w, b) else zbad
  | _ => zbad
def zs4 (k : Nat) (n : Int) : zS → zO
  | (ls, st, w, b) => if (znth ls k).1 = 0 then .inl (zst1 ls k (0, (znth ls k).2 + n), st, w, b) else zbad
def zs5 (f : Nat) : zS → zO
  | (ls, (0, y) :: (0, x) :: st, w, b) => .inl (ls, (0, zbin f x y) :: st, w, b)
  | _ => zbad
def zs6 (f : Nat) : zS → zO
  | (ls, (0, y) :: (0, x) :: st, w, b) => if wr y = 0 then zbad else .inl (ls, (0, zdiv f x y) :: st, w, b)
  | _ => zbad
def zs7 : zS → zO
  | (ls, (0, x) :: st, w, b) => .inl (ls, (0, -x) :: st, w, b)
  | _ => zbad
def zs8 (f : Nat) : zS → zO
  | (ls, (1, y) :: (1, x) :: st, w, b) => .inl (ls, (1, zlbin f x y) :: st, w, b)
  | _ => zbad
def zs9 (f : Nat) : zS → zO
  | (ls, (1, y) :: (1, x) :: st, w, b) => if wrl y = 0 then zbad else .inl (ls, (1, zldiv f x y) :: st, w, b)
  | _ => zbad
def zs10 (f : Nat) : zS → zO
  | (ls, (0, y) :: (1, x) :: st, w, b) => .inl (ls, (1, zlsh f x y) :: st, w, b)
  | _ => zbad
def zs11 : zS → zO
  | (ls, (1, y) :: (1, x) :: st, w, b) => .inl (ls, (0, zlcmp x y) :: st, w, b)
  | _ => zbad
def zs12 : zS → zO
  | (ls, (0, x) :: st, w, b) => .inl (ls, (1, wr x) :: st, w, b)
  | _ => zbad
def zs121 : zS → zO
  | (ls, (1, x) :: st, w, b) => .inl (ls, (0, x) :: st, w, b)
  | _ => zbad
def zs122 : zS → zO
  | (ls, (0, x) :: st, w, b) => .inl (ls, (0, zby x) :: st, w, b)
  | _ => zbad
def zs13 : zS → zO
  | (ls, (t, x) :: st, w, b) => if t = 0 ∨ t = 2 then .inl (ls, (t, x) :: (t, x) :: st, w, b) else zbad
  | _ => zbad
def zs14 : zS → zO
  | (ls, (t, x) :: (u, y) :: st, w, b) => if (t = 0 ∨ t = 2) ∧ (u = 0 ∨ u = 2) then .inl (ls, (t, x) :: (u, y) :: (t, x) :: (u, y) :: st, w, b) else zbad
  | _ => zbad
def zs15 : zS → zO
  | (ls, (t, _) :: st, w, b) => if t = 0 ∨ t = 2 then .inl (ls, st, w, b) else zbad
  | _ => zbad
def zs16 (f t : Nat) : zS → zO
  | (ls, (0, x) :: st, w, b) => if zcond f x 0 then .inr (.inl (t, (ls, st, w, b))) else .inl (ls, st, w, b)
  | _ => zbad
def zs17 (f t : Nat) : zS → zO
  | (ls, (0, y) :: (0, x) :: st, w, b) => if zcond f x y then .inr (.inl (t, (ls, st, w, b))) else .inl (ls, st, w, b)
  | _ => zbad
def zs18 (t : Nat) : zS → zO
  | (ls, st, w, b) => .inr (.inl (t, (ls, st, w, b)))
def zs19 (d : Nat) (cs : List (Int × Nat)) : zS → zO
  | (ls, (0, x) :: st, w, b) => .inr (.inl (zsw cs d (wr x), (ls, st, w, b)))
  | _ => zbad
def zs20 : zS → zO
  | (_, [], w, _) => .inr (.inr (.inl ([], w)))
  | _ => zbad
def zs201 : zS → zO
  | (_, [(0, v)], w, _) => .inr (.inr (.inl ([(0, v)], w)))
  | _ => zbad
def zs202 : zS → zO
  | (_, [(1, v)], w, _) => .inr (.inr (.inl ([(1, v)], w)))
  | _ => zbad
def zs203 : zS → zO
  | (_, [(0, v)], w, _) => if v = 0 ∨ v = 1 then .inr (.inr (.inl ([(0, v)], w))) else zbad
  | _ => zbad
def zs21 (k t : Nat) (c : Int) : zS → zO
  | (ls, (2, r) :: st, w, b) => if 0 ≤ r ∧ ((w r.toNat).1 : Int) = c then .inl (ls, (t, (w r.toNat).2.2 k) :: st, w, b) else zbad
  | _ => zbad
def zs22 (k t : Nat) (c : Int) : zS → zO
  | (ls, (u, x) :: (2, r) :: st, w, b) => if 0 ≤ r ∧ ((w r.toNat).1 : Int) = c ∧ ((u = t ∧ u < 3) ∨ (u = 0 ∧ t = 5 ∧ (x = 0 ∨ x = 1))) then .inl (ls, st, zup w r.toNat ((w r.toNat).1, (w r.toNat).2.1, zfu (w r.toNat).2.2 k x), b) else zbad
  | _ => zbad
def zs23 (r : Nat) : zS → zO
  | (ls, st, w, b) => .inl (ls, (2, (r : Int)) :: st, w, b)
def zs24 (k : Nat) : zS → zO
  | (ls, (0, i) :: (2, r) :: st, w, b) => if 0 ≤ r ∧ ((w r.toNat).1 = k ∨ ((w r.toNat).1 = 30 ∧ k = 20)) ∧ zin i (w r.toNat).2.1 then .inl (ls, (zet k, (w r.toNat).2.2 (zix i)) :: st, w, b) else zbad
  | _ => zbad
def zs25 (k : Nat) : zS → zO
  | (ls, (u, x) :: (0, i) :: (2, r) :: st, w, b) => if 0 ≤ r ∧ (w r.toNat).1 = k ∧ zin i (w r.toNat).2.1 ∧ u = zet k then .inl (ls, st, zup w r.toNat (k, (w r.toNat).2.1, zfu (w r.toNat).2.2 (zix i) (if k = 22 then zby x else x)), b) else zbad
  | _ => zbad
def zs26 : zS → zO
  | (ls, (2, r) :: st, w, b) => if 0 ≤ r ∧ ((20 ≤ (w r.toNat).1 ∧ (w r.toNat).1 ≤ 24) ∨ (w r.toNat).1 = 30) then .inl (ls, (0, ((w r.toNat).2.1 : Int)) :: st, w, b) else zbad
  | _ => zbad
def zs27 (ci n : Nat) (l : List (Int × Nat)) : zS → zO
  | (ls, st, w, bc, bs) => if 1 ≤ bc ∧ n ≤ bs then .inl (ls, (2, ((w 0).2.1 + 10 : Nat)) :: st, zup (zup w ((w 0).2.1 + 10) (ci, n, fun k => (l.getD k (0, 0)).1)) 0 (98, (w 0).2.1 + 1, fun _ => 0), bc - 1, bs - n) else zbad
def zs28 (k : Nat) : zS → zO
  | (ls, (0, n) :: st, w, bc, bs) => if 0 ≤ wr n ∧ wr n ≤ 20000 ∧ 1 ≤ bc ∧ zix n ≤ bs then .inl (ls, (2, ((w 0).2.1 + 10 : Nat)) :: st, zup (zup w ((w 0).2.1 + 10) (k, zix n, fun _ => 0)) 0 (98, (w 0).2.1 + 1, fun _ => 0), bc - 1, bs - zix n) else zbad
  | _ => zbad
def zs29 (k : Nat) : zS → zO
  | (ls, (0, m) :: (0, n) :: st, w, bc, bs) => if wr n = 2 ∧ 0 ≤ wr m ∧ wr m ≤ 20000 ∧ 3 ≤ bc ∧ 2 + 2 * zix m ≤ bs then .inl (ls, (2, ((w 0).2.1 + 10 : Nat)) :: st, zup (zup (zup (zup w ((w 0).2.1 + 10) (k, 2, fun i => ((w 0).2.1 + 11 + i : Nat))) ((w 0).2.1 + 11) (k - 3, zix m, fun _ => 0)) ((w 0).2.1 + 12) (k - 3, zix m, fun _ => 0)) 0 (98, (w 0).2.1 + 3, fun _ => 0), bc - 3, bs - (2 + 2 * zix m)) else zbad
  | _ => zbad
def zs30 : zS → zO
  | (ls, (2, r) :: st, w, b) => if 10 ≤ r ∧ zsh st then .inl (ls, st, w, b) else zbad
  | _ => zbad
def zs31 (j n : Nat) (c : Int) : zS → zO
  | (ls, st, w, b) => match zspl n [] st with
    | some ((2, r) :: as, st') => if 0 ≤ r ∧ ((w r.toNat).1 : Int) = c then .inr (.inr (.inr (.inl (j, (2, r) :: as, (ls, st', w, b))))) else zbad
    | _ => zbad
def zs34 (j n : Nat) : zS → zO
  | (ls, st, w, b) => match zspl n [] st with
    | some (as, st') => .inr (.inr (.inr (.inl (j, as, (ls, st', w, b)))))
    | none => zbad
def zs33 (j n mc ms : Nat) : zS → zO
  | (ls, st, w, bc, bs) => match zspl n [] st with
    | some ((2, r) :: as, st') => if 0 ≤ r ∧ mc ≤ bc ∧ ms ≤ bs then .inr (.inr (.inr (.inl (j, (2, r) :: as, (ls, st', w, bc - mc, bs - ms))))) else zbad
    | _ => zbad
def zs32 (k : Nat) : zS → zO
  | (ls, (0, n) :: (0, dp) :: (2, d) :: (0, sp) :: (2, r) :: st, w, b) => if 0 ≤ r ∧ 0 ≤ d ∧ (w r.toNat).1 = k ∧ (w d.toNat).1 = k ∧ 0 ≤ wr sp ∧ 0 ≤ wr dp ∧ 0 ≤ wr n ∧ zix sp + zix n ≤ (w r.toNat).2.1 ∧ zix dp + zix n ≤ (w d.toNat).2.1 ∧ zsh st then .inl (ls, st, zup w d.toNat (k, (w d.toNat).2.1, zcp (w r.toNat).2.2 (w d.toNat).2.2 (zix sp) (zix dp) (zix n)), b) else zbad
  | _ => zbad
def zs35 : zS → zO
  | (ls, (0, x) :: st, w, b) => if zsh st then .inl (ls, (0, if wr x < 0 then -x else x) :: st, w, b) else zbad
  | _ => zbad
def zs36 (f : Nat) : zS → zO
  | (ls, (0, y) :: (0, x) :: st, w, b) => if zsh st then .inl (ls, (0, if f = 0 then (if wr x < wr y then y else x) else (if wr y < wr x then y else x)) :: st, w, b) else zbad
  | _ => zbad
/-- one step -/
def zstp : zI → zS → zO
  | (0, t, _, v, _), s => zs0 t v s
  | (1, k, t, _, _), s => zs1 k t s
  | (2, k, t, _, _), s => zs2 k t s
  | (3, k, _, _, _), s => zs3 k s
  | (4, k, _, n, _), s => zs4 k n s
  | (5, f, _, _, _), s => zs5 f s
  | (6, f, _, _, _), s => zs6 f s
  | (7, _, _, _, _), s => zs7 s
  | (8, f, _, _, _), s => zs8 f s
  | (9, f, _, _, _), s => zs9 f s
  | (10, f, _, _, _), s => zs10 f s
  | (11, _, _, _, _), s => zs11 s
  | (12, 0, _, _, _), s => zs12 s
  | (12, 1, _, _, _), s => zs121 s
  | (12, 2, _, _, _), s => zs122 s
  | (13, _, _, _, _), s => zs13 s
  | (14, _, _, _, _), s => zs14 s
  | (15, _, _, _, _), s => zs15 s
  | (16, f, t, _, _), s => zs16 f t s
  | (17, f, t, _, _), s => zs17 f t s
  | (18, t, _, _, _), s => zs18 t s
  | (19, d, _, _, cs), s => zs19 d cs s
  | (20, 0, _, _, _), s => zs20 s
  | (20, 1, _, _, _), s => zs201 s
  | (20, 2, _, _, _), s => zs202 s
  | (20, 3, _, _, _), s => zs203 s
  | (21, k, t, c, _), s => zs21 k t c s
  | (22, k, t, c, _), s => zs22 k t c s
  | (23, r, _, _, _), s => zs23 r s
  | (24, k, _, _, _), s => zs24 k s
  | (25, k, _, _, _), s => zs25 k s
  | (26, _, _, _, _), s => zs26 s
  | (27, ci, n, _, l), s => zs27 ci n l s
  | (28, k, _, _, _), s => zs28 k s
  | (29, k, _, _, _), s => zs29 k s
  | (30, _, _, _, _), s => zs30 s
  | (31, j, n, c, _), s => zs31 j n c s
  | (34, j, n, _, _), s => zs34 j n s
  | (33, j, n, _, (_, mc) :: (_, ms) :: _), s => zs33 j n mc ms s
  | (32, k, _, _, _), s => zs32 k s
  | (35, _, _, _, _), s => zs35 s
  | (36, f, _, _, _), s => zs36 f s
  | _, _ => zbad
section
variable (T : Nat → List zI × Nat × Nat × Nat)
/-- so many steps at most -/
def zev : Nat → List zI → List zI → zS → Option zR
  | 0, _, _, _ => none
  | _ + 1, _, [], _ => none
  | f + 1, code, i :: r, s => match zstp i s with
    | .inl s' => zev f code r s'
    | .inr (.inl (t, s')) => zev f code (code.drop t) s'
    | .inr (.inr (.inl v)) => some v
    | .inr (.inr (.inr (.inl (j, as, (ls, st, w, b))))) => if (zarg as).length ≤ (T j).2.1 then (match zev f (T j).1 (T j).1 (zini (T j).2.1 as, [], w, (T j).2.2) with
      | some (v, w') => zev f code r (ls, v ++ st, w', b)
      | none => none) else none
    | .inr (.inr (.inr (.inr ()))) => none
theorem zev_mono : ∀ (f : Nat) (code r : List zI) (s : zS) (v : zR), zev T f code r s = some v → zev T (f + 1) code r s = some v
  | 0, _, _, _, _, h => by simp [zev] at h
  | f + 1, code, [], s, v, h => by simp [zev] at h
  | f + 1, code, i :: r, s, v, h => by
    rw [zev] at h
    rw [zev]
    split at h
    · exact zev_mono f _ _ _ _ h
    · exact zev_mono f _ _ _ _ h
    · exact h
    · split at h
      · rename_i h0
        rw [if_pos h0]
        split at h
        · rename_i h2
          rw [zev_mono f _ _ _ _ h2]
          exact zev_mono f _ _ _ _ h
        · cases h
      · cases h
    · cases h
theorem zev_le {f g : Nat} (h : f ≤ g) {code r : List zI} {s : zS} {v : zR} (hv : zev T f code r s = some v) : zev T g code r s = some v := by
  induction h with
  | refl => exact hv
  | step _ ih => exact zev_mono T _ _ _ _ _ ih
/-- what comes out, if anything does -/
noncomputable def zX (code r : List zI) (s : zS) : Option zR := by
  classical
  exact if h : ∃ v : zR, ∃ f : Nat, zev T f code r s = some v then some h.choose else none
theorem zX_iff {code r : List zI} {s : zS} {v : zR} : zX T code r s = some v ↔ ∃ f : Nat, zev T f code r s = some v := by
  unfold zX
  constructor
  · intro h
    split at h
    · rename_i h1
      have e := Option.some.inj h
      rw [← e]
      exact h1.choose_spec
    · cases h
  · rintro ⟨f, hf⟩
    have h1 : ∃ v : zR, ∃ f : Nat, zev T f code r s = some v := ⟨v, f, hf⟩
    rw [dif_pos h1]
    obtain ⟨g, hg⟩ := h1.choose_spec
    have a := zev_le T (Nat.le_max_left f g) hf
    have b := zev_le T (Nat.le_max_right f g) hg
    rw [a] at b
    exact b.symm
theorem zX_ext {code r code' r' : List zI} {s s' : zS} (h : ∀ v : zR, (∃ f, zev T f code r s = some v) ↔ ∃ f, zev T f code' r' s' = some v) : zX T code r s = zX T code' r' s' := by
  apply Option.ext
  intro v
  exact (zX_iff T).trans ((h v).trans (zX_iff T).symm)
theorem zX_next {code r : List zI} {i : zI} {s s' : zS} (h : zstp i s = .inl s') : zX T code (i :: r) s = zX T code r s' := by
  refine zX_ext T fun v => ⟨?_, ?_⟩
  · rintro ⟨f, hf⟩
    cases f with
    | zero => simp [zev] at hf
    | succ f => rw [zev, h] at hf; exact ⟨f, hf⟩
  · rintro ⟨f, hf⟩
    exact ⟨f + 1, by rw [zev, h]; exact hf⟩
theorem zX_jump {code r : List zI} {i : zI} {s s' : zS} {t : Nat} (h : zstp i s = .inr (.inl (t, s'))) : zX T code (i :: r) s = zX T code (code.drop t) s' := by
  refine zX_ext T fun v => ⟨?_, ?_⟩
  · rintro ⟨f, hf⟩
    cases f with
    | zero => simp [zev] at hf
    | succ f => rw [zev, h] at hf; exact ⟨f, hf⟩
  · rintro ⟨f, hf⟩
    exact ⟨f + 1, by rw [zev, h]; exact hf⟩
theorem zX_ret {code r : List zI} {i : zI} {s : zS} {v : zR} (h : zstp i s = .inr (.inr (.inl v))) : zX T code (i :: r) s = some v :=
  (zX_iff T).mpr ⟨1, by rw [zev, h]⟩
/-- a method's meaning: its answer and the world behind it -/
noncomputable def zF (j : Nat) (as : List zV) (w : zW) : Option zR := if (zarg as).length ≤ (T j).2.1 then zX T (T j).1 (T j).1 (zini (T j).2.1 as, [], w, (T j).2.2) else none
theorem zX_call {code r : List zI} {i : zI} {s : zS} {j : Nat} {as ls st : List zV} {w : zW} {b : Nat × Nat} (h : zstp i s = .inr (.inr (.inr (.inl (j, as, (ls, st, w, b)))))) : zX T code (i :: r) s = (zF T j as w).bind (fun q => zX T code r (ls, q.1 ++ st, q.2, b)) := by
  apply Option.ext
  intro v
  rw [zX_iff, Option.bind_eq_some_iff]
  unfold zF
  constructor
  · rintro ⟨f, hf⟩
    cases f with
    | zero => simp [zev] at hf
    | succ f =>
      rw [zev, h] at hf
      dsimp only at hf
      split at hf
      · rename_i h0
        split at hf
        · rename_i v1 w1 h2
          exact ⟨(v1, w1), by rw [if_pos h0]; exact (zX_iff T).mpr ⟨f, h2⟩, (zX_iff T).mpr ⟨f, hf⟩⟩
        · cases hf
      · cases hf
  · rintro ⟨⟨v1, w1⟩, h1, h2⟩
    split at h1
    · rename_i h0
      obtain ⟨f, hf⟩ := (zX_iff T).mp h1
      obtain ⟨g, hg⟩ := (zX_iff T).mp h2
      refine ⟨max f g + 1, ?_⟩
      rw [zev, h]
      dsimp only
      rw [if_pos h0, zev_le T (Nat.le_max_left f g) hf]
      exact zev_le T (Nat.le_max_right f g) hg
    · cases h1
end
