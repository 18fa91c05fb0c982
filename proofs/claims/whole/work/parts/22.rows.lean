/-! ROWS: one for each instruction over the layout. -/
theorem zX_bad {T : Nat → List zI × Nat × Nat × Nat} {code r : List zI} {i : zI} {s : zS} (h : zstp i s = zbad) : zX T code (i :: r) s = none := by
  apply Option.ext
  intro v
  rw [zX_iff]
  constructor
  · rintro ⟨f, hf⟩
    cases f with
    | zero => simp [zev] at hf
    | succ f => rw [zev, h] at hf; cases hf
  · intro h; cases h
theorem zcs_ref {P : zP} {r c k o : Nat} (h : zkd r = c) (hc : c < 25) (hk : zof c k = some o) : zcs P r k = some ((r + o : Nat) : Int) := by
  have h10 : 10 ≤ r := zkd_lt (by omega)
  unfold zcs
  rw [if_neg (by omega), h, hk]
  rfl
theorem zlcmp_0 (a b : Int) : (wr (zlcmp a b) = 0) = (wrl a = wrl b) := by
  unfold zlcmp
  apply propext
  split
  · constructor
    · intro h; exact absurd h (by decide)
    · intro h; omega
  · split
    · exact ⟨fun _ => by assumption, fun _ => rfl⟩
    · constructor
      · intro h; exact absurd h (by decide)
      · intro h; contradiction
theorem zlcmp_2 (a b : Int) : (wr (zlcmp a b) < 0) = (wrl a < wrl b) := by
  unfold zlcmp
  apply propext
  split
  · constructor
    · intro h; exact absurd h (by decide)
    · intro h; omega
  · split
    · constructor
      · intro h; exact absurd h (by decide)
      · intro h; omega
    · constructor
      · intro _; omega
      · intro _; decide
theorem zlcmp_4 (a b : Int) : (0 < wr (zlcmp a b)) = (wrl b < wrl a) := by
  unfold zlcmp
  apply propext
  split
  · exact ⟨fun _ => by assumption, fun _ => by decide⟩
  · split
    · constructor
      · intro h; exact absurd h (by decide)
      · intro h; omega
    · constructor
      · intro h; exact absurd h (by decide)
      · intro h; omega
theorem zlcmp_1 (a b : Int) : (wr (zlcmp a b) ≠ 0) = (wrl a ≠ wrl b) := by rw [ne_eq, zlcmp_0]
theorem zlcmp_3 (a b : Int) : (0 ≤ wr (zlcmp a b)) = (wrl b ≤ wrl a) := by
  have h := zlcmp_2 a b
  apply propext
  rw [← Int.not_lt, h, Int.not_lt]
theorem zlcmp_5 (a b : Int) : (wr (zlcmp a b) ≤ 0) = (wrl a ≤ wrl b) := by
  have h := zlcmp_4 a b
  apply propext
  rw [← Int.not_lt, h, Int.not_lt]
section
variable {P : zP} {j h : Nat} {ls st : List zV} {d : zD P} {c : List zI}
theorem zB_none {i : zI} (hi : (zT j).1[h]? = some i) (hs : zstp i (ls, st, zmk P d, (0, 0)) = zbad) : zB P j h ls st d = none := by
  unfold zB
  rw [zdrop hi, zX_bad hs]
  rfl
theorem yB_next {i : zI} (hT : (zT j).1 = c) (hi : c[h]? = some i) {ls' st' : List zV} {d' : zD P} (hs : zstp i (ls, st, zmk P d, (0, 0)) = .inl (ls', st', zmk P d', (0, 0))) : zB P j h ls st d = zB P j (h + 1) ls' st' d' := zB_next (by rw [hT]; exact hi) hs
theorem yB_jump {i : zI} (hT : (zT j).1 = c) (hi : c[h]? = some i) {t : Nat} {ls' st' : List zV} (hs : zstp i (ls, st, zmk P d, (0, 0)) = .inr (.inl (t, (ls', st', zmk P d, (0, 0))))) : zB P j h ls st d = zB P j t ls' st' d := zB_jump (by rw [hT]; exact hi) hs
theorem yB_ret {i : zI} (hT : (zT j).1 = c) (hi : c[h]? = some i) {vs : List zV} (hs : zstp i (ls, st, zmk P d, (0, 0)) = .inr (.inr (.inl (vs, zmk P d)))) : zB P j h ls st d = some ((vs.headD (0, 0)).2, d) := zB_ret (by rw [hT]; exact hi) hs
theorem yB_call {i : zI} (hT : (zT j).1 = c) (hi : c[h]? = some i) {k : Nat} (hk : zsm k = true) {as ls' st' : List zV} (hs : zstp i (ls, st, zmk P d, (0, 0)) = .inr (.inr (.inr (.inl (k, as, (ls', st', zmk P d, (0, 0))))))) : zB P j h ls st d = (MM P k as d).bind (fun q => zB P j (h + 1) ls' (zrv (zme k).2.1 q.1 ++ st') q.2) := zB_call (by rw [hT]; exact hi) hk hs
theorem yB_none {i : zI} (hT : (zT j).1 = c) (hi : c[h]? = some i) (hs : zstp i (ls, st, zmk P d, (0, 0)) = zbad) : zB P j h ls st d = none := zB_none (by rw [hT]; exact hi) hs
theorem x0 {t n : Nat} {v : Int} {l : List (Int × Nat)} (hT : (zT j).1 = c) (hi : c[h]? = some (0, t, n, v, l)) : zB P j h ls st d = zB P j (h + 1) ls ((t, v) :: st) d := yB_next hT hi rfl
theorem x1 {k t : Nat} {n : Int} {l : List (Int × Nat)} {v : Int} (hT : (zT j).1 = c) (hi : c[h]? = some (1, k, t, n, l)) (hk : znth ls k = (t, v)) (ht : t ≠ 3) : zB P j h ls st d = zB P j (h + 1) ls ((t, v) :: st) d := by
  refine yB_next hT hi ?_
  show (if (znth ls k).1 = t ∧ t ≠ 3 then (Sum.inl (ls, znth ls k :: st, zmk P d, (0, 0)) : zO) else zbad) = _
  rw [hk, if_pos ⟨rfl, ht⟩]
theorem x2 {k t : Nat} {n : Int} {l : List (Int × Nat)} {v : Int} {ls' : List zV} (hT : (zT j).1 = c) (hi : c[h]? = some (2, k, t, n, l)) (hk : k < ls.length) (hl : zst1 ls k (t, v) = ls') : zB P j h ls ((t, v) :: st) d = zB P j (h + 1) ls' st d := by
  refine yB_next hT hi ?_
  show (if t = t ∧ k < ls.length then (Sum.inl (zst1 ls k (t, v), st, zmk P d, (0, 0)) : zO) else zbad) = _
  rw [if_pos ⟨rfl, hk⟩, hl]
theorem x3 {k t : Nat} {n : Int} {l : List (Int × Nat)} {v : Int} {ls' : List zV} (hT : (zT j).1 = c) (hi : c[h]? = some (3, k, t, n, l)) (hk : k + 1 < ls.length) (hl : zst2 ls k (1, v) = ls') : zB P j h ls ((1, v) :: st) d = zB P j (h + 1) ls' st d := by
  refine yB_next hT hi ?_
  show (if k + 1 < ls.length then (Sum.inl (zst2 ls k (1, v), st, zmk P d, (0, 0)) : zO) else zbad) = _
  rw [if_pos hk, hl]
theorem x4 {k t : Nat} {n : Int} {l : List (Int × Nat)} {v : Int} {ls' : List zV} (hT : (zT j).1 = c) (hi : c[h]? = some (4, k, t, n, l)) (hk : znth ls k = (0, v)) (hl : zst1 ls k (0, v + n) = ls') : zB P j h ls st d = zB P j (h + 1) ls' st d := by
  refine yB_next hT hi ?_
  show (if (znth ls k).1 = 0 then (Sum.inl (zst1 ls k (0, (znth ls k).2 + n), st, zmk P d, (0, 0)) : zO) else zbad) = _
  rw [hk, if_pos rfl, hl]
theorem x5 {f t : Nat} {n : Int} {l : List (Int × Nat)} {x y v : Int} (hT : (zT j).1 = c) (hi : c[h]? = some (5, f, t, n, l)) (hv : zbin f x y = v) : zB P j h ls ((0, y) :: (0, x) :: st) d = zB P j (h + 1) ls ((0, v) :: st) d := yB_next hT hi (by rw [← hv]; rfl)
theorem x6 {f t : Nat} {n : Int} {l : List (Int × Nat)} {x y : Int} (hT : (zT j).1 = c) (hi : c[h]? = some (6, f, t, n, l)) : zB P j h ls ((0, y) :: (0, x) :: st) d = if wr y ≠ 0 then zB P j (h + 1) ls ((0, zdiv f x y) :: st) d else none := by
  by_cases hy : wr y = 0
  · rw [if_neg (by simpa using hy)]
    exact yB_none hT hi (if_pos hy)
  · rw [if_pos hy]
    exact yB_next hT hi (if_neg hy)
theorem x6c {f t : Nat} {n : Int} {l : List (Int × Nat)} {x y : Int} (hT : (zT j).1 = c) (hi : c[h]? = some (6, f, t, n, l)) (hy : wr y ≠ 0) : zB P j h ls ((0, y) :: (0, x) :: st) d = zB P j (h + 1) ls ((0, zdiv f x y) :: st) d := yB_next hT hi (if_neg hy)
theorem x7 {f t : Nat} {n : Int} {l : List (Int × Nat)} {x : Int} (hT : (zT j).1 = c) (hi : c[h]? = some (7, f, t, n, l)) : zB P j h ls ((0, x) :: st) d = zB P j (h + 1) ls ((0, -x) :: st) d := yB_next hT hi rfl
theorem x8 {f t : Nat} {n : Int} {l : List (Int × Nat)} {x y v : Int} (hT : (zT j).1 = c) (hi : c[h]? = some (8, f, t, n, l)) (hv : zlbin f x y = v) : zB P j h ls ((1, y) :: (1, x) :: st) d = zB P j (h + 1) ls ((1, v) :: st) d := yB_next hT hi (by rw [← hv]; rfl)
theorem x9 {f t : Nat} {n : Int} {l : List (Int × Nat)} {x y : Int} (hT : (zT j).1 = c) (hi : c[h]? = some (9, f, t, n, l)) : zB P j h ls ((1, y) :: (1, x) :: st) d = if wrl y ≠ 0 then zB P j (h + 1) ls ((1, zldiv f x y) :: st) d else none := by
  by_cases hy : wrl y = 0
  · rw [if_neg (by simpa using hy)]
    exact yB_none hT hi (if_pos hy)
  · rw [if_pos hy]
    exact yB_next hT hi (if_neg hy)
theorem x9c {f t : Nat} {n : Int} {l : List (Int × Nat)} {x y : Int} (hT : (zT j).1 = c) (hi : c[h]? = some (9, f, t, n, l)) (hy : wrl y ≠ 0) : zB P j h ls ((1, y) :: (1, x) :: st) d = zB P j (h + 1) ls ((1, zldiv f x y) :: st) d := yB_next hT hi (if_neg hy)
theorem x10 {f t : Nat} {n : Int} {l : List (Int × Nat)} {x y : Int} (hT : (zT j).1 = c) (hi : c[h]? = some (10, f, t, n, l)) : zB P j h ls ((0, y) :: (1, x) :: st) d = zB P j (h + 1) ls ((1, zlsh f x y) :: st) d := yB_next hT hi rfl
theorem x11 {f t : Nat} {n : Int} {l : List (Int × Nat)} {x y : Int} (hT : (zT j).1 = c) (hi : c[h]? = some (11, f, t, n, l)) : zB P j h ls ((1, y) :: (1, x) :: st) d = zB P j (h + 1) ls ((0, zlcmp x y) :: st) d := yB_next hT hi rfl
theorem x12 {t : Nat} {n : Int} {l : List (Int × Nat)} {x : Int} (hT : (zT j).1 = c) (hi : c[h]? = some (12, 0, t, n, l)) : zB P j h ls ((0, x) :: st) d = zB P j (h + 1) ls ((1, wr x) :: st) d := yB_next hT hi rfl
theorem x121 {t : Nat} {n : Int} {l : List (Int × Nat)} {x : Int} (hT : (zT j).1 = c) (hi : c[h]? = some (12, 1, t, n, l)) : zB P j h ls ((1, x) :: st) d = zB P j (h + 1) ls ((0, x) :: st) d := yB_next hT hi rfl
theorem x122 {t : Nat} {n : Int} {l : List (Int × Nat)} {x : Int} (hT : (zT j).1 = c) (hi : c[h]? = some (12, 2, t, n, l)) : zB P j h ls ((0, x) :: st) d = zB P j (h + 1) ls ((0, zby x) :: st) d := yB_next hT hi rfl
theorem x13 {f t u : Nat} {n : Int} {l : List (Int × Nat)} {x : Int} (hT : (zT j).1 = c) (hi : c[h]? = some (13, f, t, n, l)) (hu : u = 0 ∨ u = 2) : zB P j h ls ((u, x) :: st) d = zB P j (h + 1) ls ((u, x) :: (u, x) :: st) d := yB_next hT hi (if_pos hu)
theorem x14 {f t u u2 : Nat} {n : Int} {l : List (Int × Nat)} {x y : Int} (hT : (zT j).1 = c) (hi : c[h]? = some (14, f, t, n, l)) (hu : (u = 0 ∨ u = 2) ∧ (u2 = 0 ∨ u2 = 2)) : zB P j h ls ((u, x) :: (u2, y) :: st) d = zB P j (h + 1) ls ((u, x) :: (u2, y) :: (u, x) :: (u2, y) :: st) d := yB_next hT hi (if_pos hu)
theorem x15 {f t u : Nat} {n : Int} {l : List (Int × Nat)} {x : Int} (hT : (zT j).1 = c) (hi : c[h]? = some (15, f, t, n, l)) (hu : u = 0 ∨ u = 2) : zB P j h ls ((u, x) :: st) d = zB P j (h + 1) ls st d := yB_next hT hi (if_pos hu)
theorem xcond {q : Prop} [Decidable q] {i : zI} {t : Nat} {st0 : List zV} {bb : Bool} (hT : (zT j).1 = c) (hi : c[h]? = some i) (hs : zstp i (ls, st0, zmk P d, (0, 0)) = if bb then .inr (.inl (t, (ls, st, zmk P d, (0, 0)))) else .inl (ls, st, zmk P d, (0, 0))) (hq : bb = true ↔ q) : zB P j h ls st0 d = if q then zB P j t ls st d else zB P j (h + 1) ls st d := by
  by_cases h1 : q
  · rw [if_pos h1]
    rw [if_pos (hq.mpr h1)] at hs
    exact yB_jump hT hi hs
  · rw [if_neg h1]
    rw [if_neg (fun e => h1 (hq.mp e))] at hs
    exact yB_next hT hi hs
theorem x17_0 {t : Nat} {n : Int} {l : List (Int × Nat)} {x y : Int} (hT : (zT j).1 = c) (hi : c[h]? = some (17, 0, t, n, l)) : zB P j h ls ((0, y) :: (0, x) :: st) d = if wr x = wr y then zB P j t ls st d else zB P j (h + 1) ls st d := xcond (bb := zcond 0 x y) hT hi rfl (by simp [zcond])
theorem x16_0 {t : Nat} {n : Int} {l : List (Int × Nat)} {x : Int} (hT : (zT j).1 = c) (hi : c[h]? = some (16, 0, t, n, l)) : zB P j h ls ((0, x) :: st) d = if wr x = 0 then zB P j t ls st d else zB P j (h + 1) ls st d := xcond (bb := zcond 0 x 0) hT hi rfl (by simp [zcond, show wr 0 = 0 from rfl])
theorem x116_0 {t t1 t2 : Nat} {n n1 : Int} {l l1 : List (Int × Nat)} {x y : Int} (hT : (zT j).1 = c) (hi : c[h]? = some (11, t1, t2, n1, l1)) (hi2 : c[h + 1]? = some (16, 0, t, n, l)) : zB P j h ls ((1, y) :: (1, x) :: st) d = if wrl x = wrl y then zB P j t ls st d else zB P j (h + 2) ls st d := by
  rw [x11 hT hi, x16_0 hT hi2]
  simp only [zlcmp_0]
theorem x17_1 {t : Nat} {n : Int} {l : List (Int × Nat)} {x y : Int} (hT : (zT j).1 = c) (hi : c[h]? = some (17, 1, t, n, l)) : zB P j h ls ((0, y) :: (0, x) :: st) d = if wr x ≠ wr y then zB P j t ls st d else zB P j (h + 1) ls st d := xcond (bb := zcond 1 x y) hT hi rfl (by simp [zcond])
theorem x16_1 {t : Nat} {n : Int} {l : List (Int × Nat)} {x : Int} (hT : (zT j).1 = c) (hi : c[h]? = some (16, 1, t, n, l)) : zB P j h ls ((0, x) :: st) d = if wr x ≠ 0 then zB P j t ls st d else zB P j (h + 1) ls st d := xcond (bb := zcond 1 x 0) hT hi rfl (by simp [zcond, show wr 0 = 0 from rfl])
theorem x116_1 {t t1 t2 : Nat} {n n1 : Int} {l l1 : List (Int × Nat)} {x y : Int} (hT : (zT j).1 = c) (hi : c[h]? = some (11, t1, t2, n1, l1)) (hi2 : c[h + 1]? = some (16, 1, t, n, l)) : zB P j h ls ((1, y) :: (1, x) :: st) d = if wrl x ≠ wrl y then zB P j t ls st d else zB P j (h + 2) ls st d := by
  rw [x11 hT hi, x16_1 hT hi2]
  simp only [zlcmp_1]
theorem x17_2 {t : Nat} {n : Int} {l : List (Int × Nat)} {x y : Int} (hT : (zT j).1 = c) (hi : c[h]? = some (17, 2, t, n, l)) : zB P j h ls ((0, y) :: (0, x) :: st) d = if wr x < wr y then zB P j t ls st d else zB P j (h + 1) ls st d := xcond (bb := zcond 2 x y) hT hi rfl (by simp [zcond])
theorem x16_2 {t : Nat} {n : Int} {l : List (Int × Nat)} {x : Int} (hT : (zT j).1 = c) (hi : c[h]? = some (16, 2, t, n, l)) : zB P j h ls ((0, x) :: st) d = if wr x < 0 then zB P j t ls st d else zB P j (h + 1) ls st d := xcond (bb := zcond 2 x 0) hT hi rfl (by simp [zcond, show wr 0 = 0 from rfl])
theorem x116_2 {t t1 t2 : Nat} {n n1 : Int} {l l1 : List (Int × Nat)} {x y : Int} (hT : (zT j).1 = c) (hi : c[h]? = some (11, t1, t2, n1, l1)) (hi2 : c[h + 1]? = some (16, 2, t, n, l)) : zB P j h ls ((1, y) :: (1, x) :: st) d = if wrl x < wrl y then zB P j t ls st d else zB P j (h + 2) ls st d := by
  rw [x11 hT hi, x16_2 hT hi2]
  simp only [zlcmp_2]
theorem x17_3 {t : Nat} {n : Int} {l : List (Int × Nat)} {x y : Int} (hT : (zT j).1 = c) (hi : c[h]? = some (17, 3, t, n, l)) : zB P j h ls ((0, y) :: (0, x) :: st) d = if wr y ≤ wr x then zB P j t ls st d else zB P j (h + 1) ls st d := xcond (bb := zcond 3 x y) hT hi rfl (by simp [zcond])
theorem x16_3 {t : Nat} {n : Int} {l : List (Int × Nat)} {x : Int} (hT : (zT j).1 = c) (hi : c[h]? = some (16, 3, t, n, l)) : zB P j h ls ((0, x) :: st) d = if 0 ≤ wr x then zB P j t ls st d else zB P j (h + 1) ls st d := xcond (bb := zcond 3 x 0) hT hi rfl (by simp [zcond, show wr 0 = 0 from rfl])
theorem x116_3 {t t1 t2 : Nat} {n n1 : Int} {l l1 : List (Int × Nat)} {x y : Int} (hT : (zT j).1 = c) (hi : c[h]? = some (11, t1, t2, n1, l1)) (hi2 : c[h + 1]? = some (16, 3, t, n, l)) : zB P j h ls ((1, y) :: (1, x) :: st) d = if wrl y ≤ wrl x then zB P j t ls st d else zB P j (h + 2) ls st d := by
  rw [x11 hT hi, x16_3 hT hi2]
  simp only [zlcmp_3]
theorem x17_4 {t : Nat} {n : Int} {l : List (Int × Nat)} {x y : Int} (hT : (zT j).1 = c) (hi : c[h]? = some (17, 4, t, n, l)) : zB P j h ls ((0, y) :: (0, x) :: st) d = if wr y < wr x then zB P j t ls st d else zB P j (h + 1) ls st d := xcond (bb := zcond 4 x y) hT hi rfl (by simp [zcond])
theorem x16_4 {t : Nat} {n : Int} {l : List (Int × Nat)} {x : Int} (hT : (zT j).1 = c) (hi : c[h]? = some (16, 4, t, n, l)) : zB P j h ls ((0, x) :: st) d = if 0 < wr x then zB P j t ls st d else zB P j (h + 1) ls st d := xcond (bb := zcond 4 x 0) hT hi rfl (by simp [zcond, show wr 0 = 0 from rfl])
theorem x116_4 {t t1 t2 : Nat} {n n1 : Int} {l l1 : List (Int × Nat)} {x y : Int} (hT : (zT j).1 = c) (hi : c[h]? = some (11, t1, t2, n1, l1)) (hi2 : c[h + 1]? = some (16, 4, t, n, l)) : zB P j h ls ((1, y) :: (1, x) :: st) d = if wrl y < wrl x then zB P j t ls st d else zB P j (h + 2) ls st d := by
  rw [x11 hT hi, x16_4 hT hi2]
  simp only [zlcmp_4]
theorem x17_5 {t : Nat} {n : Int} {l : List (Int × Nat)} {x y : Int} (hT : (zT j).1 = c) (hi : c[h]? = some (17, 5, t, n, l)) : zB P j h ls ((0, y) :: (0, x) :: st) d = if wr x ≤ wr y then zB P j t ls st d else zB P j (h + 1) ls st d := xcond (bb := zcond 5 x y) hT hi rfl (by simp [zcond])
theorem x16_5 {t : Nat} {n : Int} {l : List (Int × Nat)} {x : Int} (hT : (zT j).1 = c) (hi : c[h]? = some (16, 5, t, n, l)) : zB P j h ls ((0, x) :: st) d = if wr x ≤ 0 then zB P j t ls st d else zB P j (h + 1) ls st d := xcond (bb := zcond 5 x 0) hT hi rfl (by simp [zcond, show wr 0 = 0 from rfl])
theorem x116_5 {t t1 t2 : Nat} {n n1 : Int} {l l1 : List (Int × Nat)} {x y : Int} (hT : (zT j).1 = c) (hi : c[h]? = some (11, t1, t2, n1, l1)) (hi2 : c[h + 1]? = some (16, 5, t, n, l)) : zB P j h ls ((1, y) :: (1, x) :: st) d = if wrl x ≤ wrl y then zB P j t ls st d else zB P j (h + 2) ls st d := by
  rw [x11 hT hi, x16_5 hT hi2]
  simp only [zlcmp_5]
theorem x18 {t t2 : Nat} {n : Int} {l : List (Int × Nat)} (hT : (zT j).1 = c) (hi : c[h]? = some (18, t, t2, n, l)) : zB P j h ls st d = zB P j t ls st d := yB_jump hT hi rfl
theorem x19 {f t : Nat} {n : Int} {l : List (Int × Nat)} {x : Int} (hT : (zT j).1 = c) (hi : c[h]? = some (19, f, t, n, l)) : zB P j h ls ((0, x) :: st) d = zB P j (zsw l f (wr x)) ls st d := yB_jump hT hi rfl
theorem x19c {f t : Nat} {q v : Int} {l : List (Int × Nat)} : zB P j (zsw ((q, t) :: l) f v) ls st d = if v = q then zB P j t ls st d else zB P j (zsw l f v) ls st d := by
  show zB P j (if v = q then t else zsw l f v) ls st d = _
  split <;> rfl
theorem x20 {t : Nat} {n : Int} {l : List (Int × Nat)} (hT : (zT j).1 = c) (hi : c[h]? = some (20, 0, t, n, l)) : zB P j h ls [] d = some (0, d) := yB_ret (ls := ls) (st := []) (d := d) (vs := []) hT hi rfl
theorem x201 {t : Nat} {n : Int} {l : List (Int × Nat)} {v : Int} (hT : (zT j).1 = c) (hi : c[h]? = some (20, 1, t, n, l)) : zB P j h ls [(0, v)] d = some (v, d) := yB_ret (ls := ls) (d := d) (vs := [(0, v)]) hT hi rfl
theorem x202 {t : Nat} {n : Int} {l : List (Int × Nat)} {v : Int} (hT : (zT j).1 = c) (hi : c[h]? = some (20, 2, t, n, l)) : zB P j h ls [(1, v)] d = some (v, d) := yB_ret (ls := ls) (d := d) (vs := [(1, v)]) hT hi rfl
theorem x203 {t : Nat} {n : Int} {l : List (Int × Nat)} {v : Int} (hT : (zT j).1 = c) (hi : c[h]? = some (20, 3, t, n, l)) : zB P j h ls [(0, v)] d = if v = 0 ∨ v = 1 then some (v, d) else none := by
  by_cases hv : v = 0 ∨ v = 1
  · rw [if_pos hv]; exact yB_ret (ls := ls) (d := d) (vs := [(0, v)]) hT hi (if_pos hv)
  · rw [if_neg hv]; exact yB_none hT hi (if_neg hv)
theorem x203c {t : Nat} {n : Int} {l : List (Int × Nat)} {v : Int} (hT : (zT j).1 = c) (hi : c[h]? = some (20, 3, t, n, l)) (hv : v = 0 ∨ v = 1) : zB P j h ls [(0, v)] d = some (v, d) := by rw [x203 hT hi, if_pos hv]
theorem x21 {k t cl r : Nat} {l : List (Int × Nat)} (hT : (zT j).1 = c) (hi : c[h]? = some (21, k, t, (cl : Int), l)) (hk : zkd r = cl) : zB P j h ls ((2, (r : Int)) :: st) d = zB P j (h + 1) ls ((t, d.m r k) :: st) d := by
  refine yB_next hT hi ?_
  show (if 0 ≤ (r : Int) ∧ ((zkd r : Nat) : Int) = (cl : Int) then (Sum.inl (ls, (t, d.m r k) :: st, zmk P d, (0, 0)) : zO) else zbad) = _
  rw [if_pos ⟨Int.natCast_nonneg r, by rw [hk]⟩]
theorem x21r {k cl r o : Nat} {l : List (Int × Nat)} (hT : (zT j).1 = c) (hi : c[h]? = some (21, k, 2, (cl : Int), l)) (hk : zkd r = cl) (hc : cl < 25) (ho : zof cl k = some o) : zB P j h ls ((2, (r : Int)) :: st) d = zB P j (h + 1) ls ((2, ((r + o : Nat) : Int)) :: st) d := by
  rw [x21 hT hi hk, d.ok r k _ (zcs_ref hk hc ho)]
theorem x22 {k t cl r : Nat} {l : List (Int × Nat)} {x : Int} (hT : (zT j).1 = c) (hi : c[h]? = some (22, k, t, (cl : Int), l)) (hk : zkd r = cl) (hc : cl < 13) (ho : (zol.getD cl []).getD k none = none) (ht : t < 3) : zB P j h ls ((t, x) :: (2, (r : Int)) :: st) d = zB P j (h + 1) ls st (d.up r k x) := by
  refine yB_next hT hi ?_
  show (if 0 ≤ (r : Int) ∧ ((zkd r : Nat) : Int) = (cl : Int) ∧ ((t = t ∧ t < 3) ∨ (t = 0 ∧ t = 5 ∧ (x = 0 ∨ x = 1))) then (Sum.inl (ls, st, zup (zmk P d) r (zkd r, zln P r, zfu (d.m r) k x), (0, 0)) : zO) else zbad) = _
  rw [if_pos ⟨Int.natCast_nonneg r, by rw [hk], Or.inl ⟨rfl, ht⟩⟩, zmk_up (zcs_obj hk hc ho)]
theorem x22b {k cl r : Nat} {l : List (Int × Nat)} {x : Int} (hT : (zT j).1 = c) (hi : c[h]? = some (22, k, 5, (cl : Int), l)) (hk : zkd r = cl) (hc : cl < 13) (ho : (zol.getD cl []).getD k none = none) : zB P j h ls ((0, x) :: (2, (r : Int)) :: st) d = if x = 0 ∨ x = 1 then zB P j (h + 1) ls st (d.up r k x) else none := by
  have e : zstp (22, k, 5, (cl : Int), l) (ls, (0, x) :: (2, (r : Int)) :: st, zmk P d, (0, 0)) = if 0 ≤ (r : Int) ∧ ((zkd r : Nat) : Int) = (cl : Int) ∧ ((0 = 5 ∧ 0 < 3) ∨ (0 = 0 ∧ 5 = 5 ∧ (x = 0 ∨ x = 1))) then (Sum.inl (ls, st, zup (zmk P d) r (zkd r, zln P r, zfu (d.m r) k x), (0, 0)) : zO) else zbad := rfl
  by_cases hx : x = 0 ∨ x = 1
  · rw [if_pos hx]
    refine yB_next hT hi ?_
    rw [e, if_pos ⟨Int.natCast_nonneg r, by rw [hk], Or.inr ⟨rfl, rfl, hx⟩⟩, zmk_up (zcs_obj hk hc ho)]
  · rw [if_neg hx]
    refine yB_none hT hi ?_
    rw [e, if_neg]
    rintro ⟨-, -, h | h⟩
    · omega
    · exact hx h.2.2
theorem x23 {r t : Nat} {n : Int} {l : List (Int × Nat)} (hT : (zT j).1 = c) (hi : c[h]? = some (23, r, t, n, l)) : zB P j h ls st d = zB P j (h + 1) ls ((2, (r : Int)) :: st) d := yB_next hT hi rfl
theorem x24 {k t r n : Nat} {n2 : Int} {l : List (Int × Nat)} {i : Int} (hT : (zT j).1 = c) (hi : c[h]? = some (24, k, t, n2, l)) (hk : zkd r = k ∨ (zkd r = 30 ∧ k = 20)) (hn : zln P r = n) : zB P j h ls ((0, i) :: (2, (r : Int)) :: st) d = if zin i n then zB P j (h + 1) ls ((zet k, d.m r (zix i)) :: st) d else none := by
  have e : zstp (24, k, t, n2, l) (ls, (0, i) :: (2, (r : Int)) :: st, zmk P d, (0, 0)) = if 0 ≤ (r : Int) ∧ (zkd r = k ∨ (zkd r = 30 ∧ k = 20)) ∧ zin i (zln P r) then (Sum.inl (ls, (zet k, d.m r (zix i)) :: st, zmk P d, (0, 0)) : zO) else zbad := rfl
  subst hn
  by_cases hx : zin i (zln P r)
  · rw [if_pos hx]
    exact yB_next hT hi (by rw [e, if_pos ⟨Int.natCast_nonneg r, hk, hx⟩])
  · rw [if_neg hx]
    exact yB_none hT hi (by rw [e, if_neg (fun q => hx q.2.2)])
theorem x24r {k t r n : Nat} {n2 : Int} {l : List (Int × Nat)} {i : Int} (hT : (zT j).1 = c) (hi : c[h]? = some (24, k, t, n2, l)) (hk : zkd r = k) (hn : zln P r = n) (h2 : k = 23 ∨ k = 24) : zB P j h ls ((0, i) :: (2, (r : Int)) :: st) d = if zin i n then zB P j (h + 1) ls ((2, ((r + (1 + zix i) : Nat) : Int)) :: st) d else none := by
  rw [x24 hT hi (Or.inl hk) hn, d.ok r (zix i) _ (zcs_ref hk (by omega) (by unfold zof; rw [if_pos h2]))]
  rcases h2 with rfl | rfl <;> rfl
theorem x25 {k t u r n : Nat} {n2 : Int} {l : List (Int × Nat)} {i x v : Int} (hT : (zT j).1 = c) (hi : c[h]? = some (25, k, t, n2, l)) (hk : zkd r = k) (hn : zln P r = n) (h2 : k = 20 ∨ k = 21 ∨ k = 22) (hu : zet k = u) (hv : (if k = 22 then zby x else x) = v) : zB P j h ls ((u, x) :: (0, i) :: (2, (r : Int)) :: st) d = if zin i n then zB P j (h + 1) ls st (d.up r (zix i) v) else none := by
  have e : zstp (25, k, t, n2, l) (ls, (u, x) :: (0, i) :: (2, (r : Int)) :: st, zmk P d, (0, 0)) = if 0 ≤ (r : Int) ∧ zkd r = k ∧ zin i (zln P r) ∧ u = zet k then (Sum.inl (ls, st, zup (zmk P d) r (k, zln P r, zfu (d.m r) (zix i) (if k = 22 then zby x else x)), (0, 0)) : zO) else zbad := rfl
  subst hn
  subst hv
  by_cases hx : zin i (zln P r)
  · rw [if_pos hx]
    refine yB_next hT hi ?_
    rw [e, if_pos ⟨Int.natCast_nonneg r, hk, hx, hu.symm⟩]
    have e2 := zmk_up (d := d) (zcs_arr (P := P) (r := r) (by rw [hk]; exact h2) (zix i)) (if k = 22 then zby x else x)
    rw [hk] at e2
    rw [e2]
  · rw [if_neg hx]
    exact yB_none hT hi (by rw [e, if_neg (fun q => hx q.2.2.1)])
theorem x25a {k t u r n : Nat} {n2 : Int} {l : List (Int × Nat)} {i x : Int} (hT : (zT j).1 = c) (hi : c[h]? = some (25, k, t, n2, l)) (hk : zkd r = k) (hn : zln P r = n) (h2 : k = 20 ∨ k = 21) (hu : zet k = u) : zB P j h ls ((u, x) :: (0, i) :: (2, (r : Int)) :: st) d = if zin i n then zB P j (h + 1) ls st (d.up r (zix i) x) else none := x25 hT hi hk hn (by omega) hu (if_neg (by omega))
theorem x25b {t r n : Nat} {n2 : Int} {l : List (Int × Nat)} {i x : Int} (hT : (zT j).1 = c) (hi : c[h]? = some (25, 22, t, n2, l)) (hk : zkd r = 22) (hn : zln P r = n) : zB P j h ls ((0, x) :: (0, i) :: (2, (r : Int)) :: st) d = if zin i n then zB P j (h + 1) ls st (d.up r (zix i) (zby x)) else none := x25 hT hi hk hn (by omega) rfl (if_pos rfl)
theorem x5_0 {t : Nat} {n : Int} {l : List (Int × Nat)} {x y : Int} (hT : (zT j).1 = c) (hi : c[h]? = some (5, 0, t, n, l)) : zB P j h ls ((0, y) :: (0, x) :: st) d = zB P j (h + 1) ls ((0, x + y) :: st) d := x5 hT hi rfl
theorem x5_1 {t : Nat} {n : Int} {l : List (Int × Nat)} {x y : Int} (hT : (zT j).1 = c) (hi : c[h]? = some (5, 1, t, n, l)) : zB P j h ls ((0, y) :: (0, x) :: st) d = zB P j (h + 1) ls ((0, x - y) :: st) d := x5 hT hi rfl
theorem x5_2 {t : Nat} {n : Int} {l : List (Int × Nat)} {x y : Int} (hT : (zT j).1 = c) (hi : c[h]? = some (5, 2, t, n, l)) : zB P j h ls ((0, y) :: (0, x) :: st) d = zB P j (h + 1) ls ((0, x * y) :: st) d := x5 hT hi rfl
theorem x5n {f t : Nat} {n : Int} {l : List (Int × Nat)} {x y : Int} (hT : (zT j).1 = c) (hi : c[h]? = some (5, f, t, n, l)) : zB P j h ls ((0, y) :: (0, x) :: st) d = zB P j (h + 1) ls ((0, zbin f x y) :: st) d := x5 hT hi rfl
theorem x8_0 {t : Nat} {n : Int} {l : List (Int × Nat)} {x y : Int} (hT : (zT j).1 = c) (hi : c[h]? = some (8, 0, t, n, l)) : zB P j h ls ((1, y) :: (1, x) :: st) d = zB P j (h + 1) ls ((1, x + y) :: st) d := x8 hT hi rfl
theorem x8_1 {t : Nat} {n : Int} {l : List (Int × Nat)} {x y : Int} (hT : (zT j).1 = c) (hi : c[h]? = some (8, 1, t, n, l)) : zB P j h ls ((1, y) :: (1, x) :: st) d = zB P j (h + 1) ls ((1, x - y) :: st) d := x8 hT hi rfl
theorem x8_2 {t : Nat} {n : Int} {l : List (Int × Nat)} {x y : Int} (hT : (zT j).1 = c) (hi : c[h]? = some (8, 2, t, n, l)) : zB P j h ls ((1, y) :: (1, x) :: st) d = zB P j (h + 1) ls ((1, x * y) :: st) d := x8 hT hi rfl
theorem x8n {f t : Nat} {n : Int} {l : List (Int × Nat)} {x y : Int} (hT : (zT j).1 = c) (hi : c[h]? = some (8, f, t, n, l)) : zB P j h ls ((1, y) :: (1, x) :: st) d = zB P j (h + 1) ls ((1, zlbin f x y) :: st) d := x8 hT hi rfl
theorem x26 {f t r n : Nat} {n2 : Int} {l : List (Int × Nat)} (hT : (zT j).1 = c) (hi : c[h]? = some (26, f, t, n2, l)) (hk : (20 ≤ zkd r ∧ zkd r ≤ 24) ∨ zkd r = 30) (hn : zln P r = n) : zB P j h ls ((2, (r : Int)) :: st) d = zB P j (h + 1) ls ((0, (n : Int)) :: st) d := by
  subst hn
  exact yB_next hT hi (if_pos ⟨Int.natCast_nonneg r, hk⟩)
theorem x31 {k n r cl : Nat} {l : List (Int × Nat)} {as st' : List zV} (hT : (zT j).1 = c) (hi : c[h]? = some (31, k, n, (cl : Int), l)) (hs : zsm k = true) (hp : zspl n [] st = some ((2, (r : Int)) :: as, st')) (hk : zkd r = cl) : zB P j h ls st d = (MM P k ((2, (r : Int)) :: as) d).bind (fun q => zB P j (h + 1) ls (zrv (zme k).2.1 q.1 ++ st') q.2) := by
  refine yB_call hT hi hs ?_
  show (match zspl n [] st with
    | some ((2, r) :: as, st') => if 0 ≤ r ∧ ((zmk P d r.toNat).1 : Int) = (cl : Int) then (Sum.inr (.inr (.inr (.inl (k, (2, r) :: as, (ls, st', zmk P d, (0, 0)))))) : zO) else zbad
    | _ => zbad) = _
  rw [hp]
  show (if 0 ≤ (r : Int) ∧ ((zkd r : Nat) : Int) = (cl : Int) then (Sum.inr (.inr (.inr (.inl (k, (2, (r : Int)) :: as, (ls, st', zmk P d, (0, 0)))))) : zO) else zbad) = _
  rw [if_pos ⟨Int.natCast_nonneg r, by rw [hk]⟩]
theorem x34 {k n : Nat} {n2 : Int} {l : List (Int × Nat)} {as st' : List zV} (hT : (zT j).1 = c) (hi : c[h]? = some (34, k, n, n2, l)) (hs : zsm k = true) (hp : zspl n [] st = some (as, st')) : zB P j h ls st d = (MM P k as d).bind (fun q => zB P j (h + 1) ls (zrv (zme k).2.1 q.1 ++ st') q.2) := by
  refine yB_call hT hi hs ?_
  show (match zspl n [] st with
    | some (as, st') => (Sum.inr (.inr (.inr (.inl (k, as, (ls, st', zmk P d, (0, 0)))))) : zO)
    | none => zbad) = _
  rw [hp]
theorem x32 {k t r1 r2 n1 n2 : Nat} {n3 : Int} {l : List (Int × Nat)} {sp dp n : Int} (hT : (zT j).1 = c) (hi : c[h]? = some (32, k, t, n3, l)) (hk : zkd r1 = k) (hk2 : zkd r2 = k) (h2 : k = 20 ∨ k = 21 ∨ k = 22) (hn : zln P r1 = n1) (hn2 : zln P r2 = n2) (hsh : zsh st = true) : zB P j h ls ((0, n) :: (0, dp) :: (2, (r2 : Int)) :: (0, sp) :: (2, (r1 : Int)) :: st) d = if 0 ≤ wr sp ∧ 0 ≤ wr dp ∧ 0 ≤ wr n ∧ zix sp + zix n ≤ n1 ∧ zix dp + zix n ≤ n2 then zB P j (h + 1) ls st (d.cp r1 r2 (zix sp) (zix dp) (zix n)) else none := by
  have e : zstp (32, k, t, n3, l) (ls, (0, n) :: (0, dp) :: (2, (r2 : Int)) :: (0, sp) :: (2, (r1 : Int)) :: st, zmk P d, (0, 0)) = if 0 ≤ (r1 : Int) ∧ 0 ≤ (r2 : Int) ∧ zkd r1 = k ∧ zkd r2 = k ∧ 0 ≤ wr sp ∧ 0 ≤ wr dp ∧ 0 ≤ wr n ∧ zix sp + zix n ≤ zln P r1 ∧ zix dp + zix n ≤ zln P r2 ∧ zsh st then (Sum.inl (ls, st, zup (zmk P d) r2 (k, zln P r2, zcp (d.m r1) (d.m r2) (zix sp) (zix dp) (zix n)), (0, 0)) : zO) else zbad := rfl
  subst hn
  subst hn2
  by_cases hx : 0 ≤ wr sp ∧ 0 ≤ wr dp ∧ 0 ≤ wr n ∧ zix sp + zix n ≤ zln P r1 ∧ zix dp + zix n ≤ zln P r2
  · rw [if_pos hx]
    refine yB_next hT hi ?_
    rw [e, if_pos ⟨Int.natCast_nonneg r1, Int.natCast_nonneg r2, hk, hk2, hx.1, hx.2.1, hx.2.2.1, hx.2.2.2.1, hx.2.2.2.2, hsh⟩]
    have e2 := zmk_cp (d := d) (r1 := r1) (sp := zix sp) (dp := zix dp) (n := zix n) (zcs_arr (P := P) (r := r2) (by rw [hk2]; exact h2))
    rw [hk2] at e2
    rw [e2]
  · rw [if_neg hx]
    exact yB_none hT hi (by rw [e, if_neg (fun q => hx ⟨q.2.2.2.2.1, q.2.2.2.2.2.1, q.2.2.2.2.2.2.1, q.2.2.2.2.2.2.2.1, q.2.2.2.2.2.2.2.2.1⟩)])
theorem x35 {f t : Nat} {n : Int} {l : List (Int × Nat)} {x : Int} (hT : (zT j).1 = c) (hi : c[h]? = some (35, f, t, n, l)) (hsh : zsh st = true) : zB P j h ls ((0, x) :: st) d = zB P j (h + 1) ls ((0, if wr x < 0 then -x else x) :: st) d := yB_next hT hi (if_pos hsh)
theorem x36 {t : Nat} {n : Int} {l : List (Int × Nat)} {x y : Int} (hT : (zT j).1 = c) (hi : c[h]? = some (36, 0, t, n, l)) (hsh : zsh st = true) : zB P j h ls ((0, y) :: (0, x) :: st) d = zB P j (h + 1) ls ((0, if wr x < wr y then y else x) :: st) d := yB_next hT hi (if_pos hsh)
theorem x361 {t : Nat} {n : Int} {l : List (Int × Nat)} {x y : Int} (hT : (zT j).1 = c) (hi : c[h]? = some (36, 1, t, n, l)) (hsh : zsh st = true) : zB P j h ls ((0, y) :: (0, x) :: st) d = zB P j (h + 1) ls ((0, if wr y < wr x then y else x) :: st) d := yB_next hT hi (if_pos hsh)
theorem xit {α : Type} {q : Prop} [Decidable q] {a b a' b' : α} (h1 : q → a = a') (h2 : ¬ q → b = b') : (if q then a else b) = if q then a' else b' := by
  split
  · exact h1 (by assumption)
  · exact h2 (by assumption)
theorem xig {α : Type} {q : Prop} [Decidable q] {a a' b : α} (h1 : q → a = a') : (if q then a else b) = if q then a' else b := xit h1 (fun _ => rfl)
theorem xbd {α β : Type} {o : Option α} {f g : α → Option β} (h : ∀ q, f q = g q) : o.bind f = o.bind g := by rw [funext h]
end
