/-! THE LAYOUT: behind the two constructors no cell comes or goes: kinds, lengths and references stand fast; the rest is numbers. -/
def zkl : List (Nat × Nat) := [(11, 13), (10, 5), (20, 240), (9, 8), (0, 7), (20, 2), (24, 2), (21, 40), (21, 40), (24, 2), (21, 40), (21, 40), (23, 2), (20, 24), (20, 24), (23, 2), (20, 144), (20, 144), (20, 144), (7, 3), (20, 12), (21, 96), (7, 3), (20, 12), (21, 96), (23, 2), (20, 1600), (20, 1600), (23, 2), (20, 8), (20, 8), (9, 8), (0, 7), (20, 2), (24, 2), (21, 40), (21, 40), (24, 2), (21, 40), (21, 40), (23, 2), (20, 24), (20, 24), (23, 2), (20, 144), (20, 144), (20, 144), (7, 3), (20, 12), (21, 96), (7, 3), (20, 12), (21, 96), (23, 2), (20, 1600), (20, 1600), (23, 2), (20, 8), (20, 8), (9, 8), (0, 7), (20, 2), (24, 2), (21, 40), (21, 40), (24, 2), (21, 40), (21, 40), (23, 2), (20, 24), (20, 24), (23, 2), (20, 144), (20, 144), (20, 144), (7, 3), (20, 12), (21, 96), (7, 3), (20, 12), (21, 96), (23, 2), (20, 1600), (20, 1600), (23, 2), (20, 8), (20, 8), (7, 3), (20, 12), (21, 96), (7, 3), (20, 12), (21, 96), (2, 7), (20, 81), (20, 16), (20, 9), (20, 9), (6, 3), (3, 4), (21, 40), (21, 40), (20, 40), (20, 1600), (20, 8), (1, 6), (20, 6), (20, 6), (20, 6), (20, 6), (8, 4), (21, 2401), (4, 3), (21, 5400), (20, 5400), (5, 9), (20, 8), (20, 9), (20, 9), (20, 8), (20, 8), (20, 24), (12, 36), (20, 18180), (22, 240), (20, 8), (20, 16), (20, 16), (20, 16), (20, 16), (20, 2), (20, 81), (20, 81), (21, 40), (21, 40), (20, 40), (20, 64), (20, 1600), (20, 8), (20, 6), (20, 6), (20, 6), (21, 1296), (21, 5400), (20, 5400), (20, 8), (20, 9), (20, 9), (20, 9)]
def zol : List (List (Option Nat)) := [[some 1, some 2, some 5, some 8, some 11, some 14, none], [some 1, some 2, some 3, some 4, none, none], [some 1, some 2, some 3, some 4, none, none, none], [some 1, some 2, some 3, none], [some 1, some 2, none], [some 1, some 2, some 3, some 4, some 5, some 6, none, none, none], [some 1, some 5, some 6], [some 1, some 2, none], [some 1, none, none, none], [some 1, some 16, some 19, some 22, some 25, none, none, none], [some 1, none, none, none, none], [some 1, some 3, some 31, some 59, some 87, some 90, some 93, some 98, some 105, some 110, some 112, some 115, none], [some 1, none, some 2, none, none, none, none, none, none, some 3, none, some 4, some 5, some 6, some 7, some 8, some 9, some 10, some 11, some 12, some 13, some 14, some 15, some 16, some 17, some 18, some 19, some 20, some 21, some 22, none, some 23, some 24, some 25, some 26, none]]
abbrev zP : Type := Nat × (Nat → Int)
def zkd (r : Nat) : Nat := if r < 10 then (if r = 0 then 98 else if r ≤ 4 then 30 else 99) else (zkl.getD (r - 10) (99, 0)).1
def zln (P : zP) (r : Nat) : Nat := if r < 10 then (if r = 0 then 149 else if r = 4 then P.1 else if r ≤ 3 then 5 else 0) else (zkl.getD (r - 10) (99, 0)).2
def zof (c k : Nat) : Option Nat := if c = 23 ∨ c = 24 then some (1 + k) else (zol.getD c []).getD k none
def zcs (P : zP) (r k : Nat) : Option Int := if r < 10 then some (if r = 1 then zt0 k else if r = 2 then zt1 k else if r = 3 then zt2 k else if r = 4 then P.2 k else 0) else (zof (zkd r) k).map (fun o => ((r + o : Nat) : Int))
/-- the numbers of a world of this layout -/
def zD (P : zP) : Type := {m : Nat → Nat → Int // ∀ r k v, zcs P r k = some v → m r k = v}
def zD.mk0 {P : zP} (m : Nat → Nat → Int) (h : ∀ r k v, zcs P r k = some v → m r k = v) : zD P := ⟨m, h⟩
def zD.m {P : zP} (d : zD P) : Nat → Nat → Int := d.1
theorem zD.ok {P : zP} (d : zD P) : ∀ r k v, zcs P r k = some v → d.m r k = v := d.2
theorem zD.ext {P : zP} {d e : zD P} (h : ∀ r k, d.m r k = e.m r k) : d = e := by
  obtain ⟨a, ha⟩ := d
  obtain ⟨b, hb⟩ := e
  exact Subtype.ext (funext fun r => funext fun k => h r k)
def zmk (P : zP) (d : zD P) : zW := fun r => (zkd r, zln P r, d.m r)
theorem zmk_inj {P : zP} {d e : zD P} (h : zmk P d = zmk P e) : d = e := zD.ext fun r k => by
  have := congrFun h r
  exact congrFun (congrArg (fun c : zC => c.2.2) this) k
noncomputable def zD.up {P : zP} (d : zD P) (r k : Nat) (x : Int) : zD P := by
  classical
  exact if h : zcs P r k = none then zD.mk0 (fun r' k' => if r' = r ∧ k' = k then x else d.m r' k') (fun r' k' v h' => by
    by_cases e : r' = r ∧ k' = k
    · rw [e.1, e.2, h] at h'; cases h'
    · simp only [if_neg e]; exact d.ok r' k' v h') else d
theorem zD.up_m {P : zP} (d : zD P) {r k : Nat} (h : zcs P r k = none) (x : Int) (r' k' : Nat) : (d.up r k x).m r' k' = if r' = r ∧ k' = k then x else d.m r' k' := by
  unfold zD.up
  rw [dif_pos h]
  rfl
noncomputable def zD.cp {P : zP} (d : zD P) (r1 r2 sp dp n : Nat) : zD P := by
  classical
  exact if h : ∀ k, zcs P r2 k = none then zD.mk0 (fun r' k' => if r' = r2 then zcp (d.m r1) (d.m r2) sp dp n k' else d.m r' k') (fun r' k' v h' => by
    by_cases e : r' = r2
    · rw [e, h] at h'; cases h'
    · simp only [if_neg e]; exact d.ok r' k' v h') else d
theorem zD.cp_m {P : zP} (d : zD P) {r2 : Nat} (h : ∀ k, zcs P r2 k = none) (r1 sp dp n r' k' : Nat) : (d.cp r1 r2 sp dp n).m r' k' = if r' = r2 then zcp (d.m r1) (d.m r2) sp dp n k' else d.m r' k' := by
  unfold zD.cp
  rw [dif_pos h]
  rfl
theorem zmk_up {P : zP} {d : zD P} {r k : Nat} (h : zcs P r k = none) (x : Int) : zup (zmk P d) r (zkd r, zln P r, zfu (d.m r) k x) = zmk P (d.up r k x) := by
  funext r'
  unfold zup zmk
  by_cases e : r' = r
  · subst e
    rw [if_pos rfl]
    congr 2
    funext k'
    rw [zD.up_m d h]
    unfold zfu
    simp
  · rw [if_neg e]
    congr 2
    funext k'
    rw [zD.up_m d h, if_neg (fun q => e q.1)]
theorem zmk_cp {P : zP} {d : zD P} {r1 r2 sp dp n : Nat} (h : ∀ k, zcs P r2 k = none) : zup (zmk P d) r2 (zkd r2, zln P r2, zcp (d.m r1) (d.m r2) sp dp n) = zmk P (d.cp r1 r2 sp dp n) := by
  funext r'
  unfold zup zmk
  by_cases e : r' = r2
  · subst e
    rw [if_pos rfl]
    congr 2
    funext k'
    rw [zD.cp_m d h, if_pos rfl]
  · rw [if_neg e]
    congr 2
    funext k'
    rw [zD.cp_m d h, if_neg e]
theorem zkd_lt {r : Nat} (h : zkd r < 25) : 10 ≤ r := by
  refine Nat.le_of_not_lt fun h2 => ?_
  unfold zkd at h
  rw [if_pos h2] at h
  split at h
  · omega
  · split at h <;> omega
theorem zcs_arr {P : zP} {r : Nat} (h : zkd r = 20 ∨ zkd r = 21 ∨ zkd r = 22) (k : Nat) : zcs P r k = none := by
  have h10 : 10 ≤ r := zkd_lt (by omega)
  unfold zcs
  rw [if_neg (by omega)]
  rcases h with h | h | h <;> rw [h] <;> rfl
theorem zcs_obj {P : zP} {r c k : Nat} (h : zkd r = c) (hc : c < 13) (hk : (zol.getD c []).getD k none = none) : zcs P r k = none := by
  have h10 : 10 ≤ r := zkd_lt (by omega)
  unfold zcs zof
  rw [if_neg (by omega), h, if_neg (by omega), hk]
  rfl
/-- methods that make nothing new -/
def zctor : List Nat := [88, 94, 100, 102, 104, 109, 111, 114, 120, 178, 185, 229, 286]
def zsm (j : Nat) : Bool := decide (j < 334) && !zctor.contains j
def zsf : zI → Bool
  | (22, k, t, c, _) => decide (0 ≤ c ∧ c < 13) && decide ((zol.getD c.toNat []).getD k none = none) && decide (t ≠ 2)
  | (25, k, _, _, _) => decide (k = 20 ∨ k = 21 ∨ k = 22)
  | (32, k, _, _, _) => decide (k = 20 ∨ k = 21 ∨ k = 22)
  | (27, _, _, _, _) => false
  | (28, _, _, _, _) => false
  | (29, _, _, _, _) => false
  | (30, _, _, _, _) => false
  | (33, _, _, _, _) => false
  | (31, j, _, _, _) => zsm j
  | (34, j, _, _, _) => zsm j
  | _ => true
set_option maxRecDepth 100000 in
theorem zsm_all : (List.range 334).all (fun j => !zsm j || (zT j).1.all zsf) = true := by decide +kernel
theorem zsm_ok {j : Nat} (h : zsm j = true) : ∀ i ∈ (zT j).1, zsf i = true := by
  have hj : j < 334 := by
    unfold zsm at h
    rw [Bool.and_eq_true, decide_eq_true_iff] at h
    exact h.1
  have h1 := List.all_eq_true.mp zsm_all j (List.mem_range.mpr hj)
  rw [h] at h1
  exact List.all_eq_true.mp (by simpa using h1)
set_option maxRecDepth 100000 in
theorem zsm_all2 : (List.range 334).all (fun j => !zsm j || (zT j).1.all (fun i => i.1 != 20 || i.2.1 == (zme j).2.1)) = true := by decide +kernel
set_option maxRecDepth 100000 in
theorem zsm_all3 : (List.range 334).all (fun j => !zsm j || (zT j).2.2 == (0, 0)) = true := by decide +kernel
theorem zsm_ok2 {j : Nat} (h : zsm j = true) : ∀ i ∈ (zT j).1, zsf i = true ∧ (i.1 = 20 → i.2.1 = (zme j).2.1) := by
  intro i hi
  refine ⟨zsm_ok h i hi, fun h20 => ?_⟩
  have hj : j < 334 := by
    unfold zsm at h
    rw [Bool.and_eq_true, decide_eq_true_iff] at h
    exact h.1
  have h1 := List.all_eq_true.mp zsm_all2 j (List.mem_range.mpr hj)
  rw [h] at h1
  have h2 := List.all_eq_true.mp (by simpa using h1 : (zT j).1.all (fun i => i.1 != 20 || i.2.1 == (zme j).2.1) = true) i hi
  simpa [h20] using h2
def zrv (rk : Nat) (v : Int) : List zV := if rk = 0 then [] else if rk = 2 then [(1, v)] else [(0, v)]
def zkp1 (P : zP) (d : zD P) (rk : Nat) : zO → Prop
  | .inl (_, _, w, _) => ∃ e : zD P, w = zmk P e
  | .inr (.inl (_, _, _, w, _)) => w = zmk P d
  | .inr (.inr (.inl (vs, w))) => w = zmk P d ∧ ∃ v, vs = zrv rk v
  | .inr (.inr (.inr (.inl (j, _, _, _, w, _)))) => w = zmk P d ∧ zsm j = true
  | .inr (.inr (.inr (.inr ()))) => True
theorem zkp_22 {P : zP} {d : zD P} {rk : Nat} {k t : Nat} {c : Int} {l : List (Int × Nat)} (hi : zsf (22, k, t, c, l) = true) (ls st : List zV) (b : Nat × Nat) : zkp1 P d rk (zs22 k t c (ls, st, zmk P d, b)) := by
  unfold zs22
  split
  · rename_i r st' w b' h
    cases h
    split
    · rename_i h
      simp only [zsf, Bool.and_eq_true, decide_eq_true_iff] at hi
      have h2 := h.2.1
      simp only [zmk] at h2
      have e : zkd r.toNat = c.toNat := by omega
      exact ⟨_, zmk_up (zcs_obj (c := c.toNat) e (by omega) hi.1.2) _⟩
    · trivial
  · trivial
theorem zkp_25 {P : zP} {d : zD P} {rk : Nat} {k t : Nat} {c : Int} {l : List (Int × Nat)} (hi : zsf (25, k, t, c, l) = true) (ls st : List zV) (b : Nat × Nat) : zkp1 P d rk (zs25 k (ls, st, zmk P d, b)) := by
  unfold zs25
  split
  · rename_i r st' w b' h
    cases h
    split
    · rename_i h
      simp only [zsf, decide_eq_true_iff] at hi
      have h2 : zkd r.toNat = k := h.2.1
      subst h2
      exact ⟨_, zmk_up (zcs_arr hi _) _⟩
    · trivial
  · trivial
theorem zkp_32 {P : zP} {d : zD P} {rk : Nat} {k t : Nat} {c : Int} {l : List (Int × Nat)} (hi : zsf (32, k, t, c, l) = true) (ls st : List zV) (b : Nat × Nat) : zkp1 P d rk (zs32 k (ls, st, zmk P d, b)) := by
  unfold zs32
  split
  · rename_i n dp d2 sp r st' w b' h
    cases h
    split
    · rename_i h
      simp only [zsf, decide_eq_true_iff] at hi
      have h2 : zkd d2.toNat = k := h.2.2.2.1
      subst h2
      exact ⟨_, zmk_cp (zcs_arr hi)⟩
    · trivial
  · trivial
theorem zkp_31 {P : zP} {d : zD P} {rk : Nat} {j n : Nat} {c : Int} {l : List (Int × Nat)} (hi : zsf (31, j, n, c, l) = true) (ls st : List zV) (b : Nat × Nat) : zkp1 P d rk (zs31 j n c (ls, st, zmk P d, b)) := by
  unfold zs31
  dsimp only
  split
  · split
    · exact ⟨rfl, hi⟩
    · trivial
  · trivial
theorem zkp_34 {P : zP} {d : zD P} {rk : Nat} {j n : Nat} {c : Int} {l : List (Int × Nat)} (hi : zsf (34, j, n, c, l) = true) (ls st : List zV) (b : Nat × Nat) : zkp1 P d rk (zs34 j n (ls, st, zmk P d, b)) := by
  unfold zs34
  dsimp only
  split
  · exact ⟨rfl, hi⟩
  · trivial
theorem zkp_0 {P : zP} {d : zD P} {rk : Nat} (t : Nat) (v : Int) (ls st : List zV) (b : Nat × Nat) : zkp1 P d rk (zs0 t v (ls, st, zmk P d, b)) := by
  unfold zs0
  (repeat' split) <;> first | exact trivial | exact ⟨_, rfl⟩ | exact rfl | (injections; subst_vars; first | exact ⟨_, rfl⟩ | exact rfl)
theorem zkp_1 {P : zP} {d : zD P} {rk : Nat} (k t : Nat) (ls st : List zV) (b : Nat × Nat) : zkp1 P d rk (zs1 k t (ls, st, zmk P d, b)) := by
  unfold zs1
  (repeat' split) <;> first | exact trivial | exact ⟨_, rfl⟩ | exact rfl | (injections; subst_vars; first | exact ⟨_, rfl⟩ | exact rfl)
theorem zkp_2 {P : zP} {d : zD P} {rk : Nat} (k t : Nat) (ls st : List zV) (b : Nat × Nat) : zkp1 P d rk (zs2 k t (ls, st, zmk P d, b)) := by
  unfold zs2
  (repeat' split) <;> first | exact trivial | exact ⟨_, rfl⟩ | exact rfl | (injections; subst_vars; first | exact ⟨_, rfl⟩ | exact rfl)
theorem zkp_3 {P : zP} {d : zD P} {rk : Nat} (k : Nat) (ls st : List zV) (b : Nat × Nat) : zkp1 P d rk (zs3 k (ls, st, zmk P d, b)) := by
  unfold zs3
  (repeat' split) <;> first | exact trivial | exact ⟨_, rfl⟩ | exact rfl | (injections; subst_vars; first | exact ⟨_, rfl⟩ | exact rfl)
theorem zkp_4 {P : zP} {d : zD P} {rk : Nat} (k : Nat) (n : Int) (ls st : List zV) (b : Nat × Nat) : zkp1 P d rk (zs4 k n (ls, st, zmk P d, b)) := by
  unfold zs4
  (repeat' split) <;> first | exact trivial | exact ⟨_, rfl⟩ | exact rfl | (injections; subst_vars; first | exact ⟨_, rfl⟩ | exact rfl)
theorem zkp_5 {P : zP} {d : zD P} {rk : Nat} (f : Nat) (ls st : List zV) (b : Nat × Nat) : zkp1 P d rk (zs5 f (ls, st, zmk P d, b)) := by
  unfold zs5
  (repeat' split) <;> first | exact trivial | exact ⟨_, rfl⟩ | exact rfl | (injections; subst_vars; first | exact ⟨_, rfl⟩ | exact rfl)
theorem zkp_6 {P : zP} {d : zD P} {rk : Nat} (f : Nat) (ls st : List zV) (b : Nat × Nat) : zkp1 P d rk (zs6 f (ls, st, zmk P d, b)) := by
  unfold zs6
  (repeat' split) <;> first | exact trivial | exact ⟨_, rfl⟩ | exact rfl | (injections; subst_vars; first | exact ⟨_, rfl⟩ | exact rfl)
theorem zkp_7 {P : zP} {d : zD P} {rk : Nat}  (ls st : List zV) (b : Nat × Nat) : zkp1 P d rk (zs7  (ls, st, zmk P d, b)) := by
  unfold zs7
  (repeat' split) <;> first | exact trivial | exact ⟨_, rfl⟩ | exact rfl | (injections; subst_vars; first | exact ⟨_, rfl⟩ | exact rfl)
theorem zkp_8 {P : zP} {d : zD P} {rk : Nat} (f : Nat) (ls st : List zV) (b : Nat × Nat) : zkp1 P d rk (zs8 f (ls, st, zmk P d, b)) := by
  unfold zs8
  (repeat' split) <;> first | exact trivial | exact ⟨_, rfl⟩ | exact rfl | (injections; subst_vars; first | exact ⟨_, rfl⟩ | exact rfl)
theorem zkp_9 {P : zP} {d : zD P} {rk : Nat} (f : Nat) (ls st : List zV) (b : Nat × Nat) : zkp1 P d rk (zs9 f (ls, st, zmk P d, b)) := by
  unfold zs9
  (repeat' split) <;> first | exact trivial | exact ⟨_, rfl⟩ | exact rfl | (injections; subst_vars; first | exact ⟨_, rfl⟩ | exact rfl)
theorem zkp_10 {P : zP} {d : zD P} {rk : Nat} (f : Nat) (ls st : List zV) (b : Nat × Nat) : zkp1 P d rk (zs10 f (ls, st, zmk P d, b)) := by
  unfold zs10
  (repeat' split) <;> first | exact trivial | exact ⟨_, rfl⟩ | exact rfl | (injections; subst_vars; first | exact ⟨_, rfl⟩ | exact rfl)
theorem zkp_11 {P : zP} {d : zD P} {rk : Nat}  (ls st : List zV) (b : Nat × Nat) : zkp1 P d rk (zs11  (ls, st, zmk P d, b)) := by
  unfold zs11
  (repeat' split) <;> first | exact trivial | exact ⟨_, rfl⟩ | exact rfl | (injections; subst_vars; first | exact ⟨_, rfl⟩ | exact rfl)
theorem zkp_12 {P : zP} {d : zD P} {rk : Nat}  (ls st : List zV) (b : Nat × Nat) : zkp1 P d rk (zs12  (ls, st, zmk P d, b)) := by
  unfold zs12
  (repeat' split) <;> first | exact trivial | exact ⟨_, rfl⟩ | exact rfl | (injections; subst_vars; first | exact ⟨_, rfl⟩ | exact rfl)
theorem zkp_121 {P : zP} {d : zD P} {rk : Nat}  (ls st : List zV) (b : Nat × Nat) : zkp1 P d rk (zs121  (ls, st, zmk P d, b)) := by
  unfold zs121
  (repeat' split) <;> first | exact trivial | exact ⟨_, rfl⟩ | exact rfl | (injections; subst_vars; first | exact ⟨_, rfl⟩ | exact rfl)
theorem zkp_122 {P : zP} {d : zD P} {rk : Nat}  (ls st : List zV) (b : Nat × Nat) : zkp1 P d rk (zs122  (ls, st, zmk P d, b)) := by
  unfold zs122
  (repeat' split) <;> first | exact trivial | exact ⟨_, rfl⟩ | exact rfl | (injections; subst_vars; first | exact ⟨_, rfl⟩ | exact rfl)
theorem zkp_13 {P : zP} {d : zD P} {rk : Nat}  (ls st : List zV) (b : Nat × Nat) : zkp1 P d rk (zs13  (ls, st, zmk P d, b)) := by
  unfold zs13
  (repeat' split) <;> first | exact trivial | exact ⟨_, rfl⟩ | exact rfl | (injections; subst_vars; first | exact ⟨_, rfl⟩ | exact rfl)
theorem zkp_14 {P : zP} {d : zD P} {rk : Nat}  (ls st : List zV) (b : Nat × Nat) : zkp1 P d rk (zs14  (ls, st, zmk P d, b)) := by
  unfold zs14
  (repeat' split) <;> first | exact trivial | exact ⟨_, rfl⟩ | exact rfl | (injections; subst_vars; first | exact ⟨_, rfl⟩ | exact rfl)
theorem zkp_15 {P : zP} {d : zD P} {rk : Nat}  (ls st : List zV) (b : Nat × Nat) : zkp1 P d rk (zs15  (ls, st, zmk P d, b)) := by
  unfold zs15
  (repeat' split) <;> first | exact trivial | exact ⟨_, rfl⟩ | exact rfl | (injections; subst_vars; first | exact ⟨_, rfl⟩ | exact rfl)
theorem zkp_16 {P : zP} {d : zD P} {rk : Nat} (f t : Nat) (ls st : List zV) (b : Nat × Nat) : zkp1 P d rk (zs16 f t (ls, st, zmk P d, b)) := by
  unfold zs16
  (repeat' split) <;> first | exact trivial | exact ⟨_, rfl⟩ | exact rfl | (injections; subst_vars; first | exact ⟨_, rfl⟩ | exact rfl)
theorem zkp_17 {P : zP} {d : zD P} {rk : Nat} (f t : Nat) (ls st : List zV) (b : Nat × Nat) : zkp1 P d rk (zs17 f t (ls, st, zmk P d, b)) := by
  unfold zs17
  (repeat' split) <;> first | exact trivial | exact ⟨_, rfl⟩ | exact rfl | (injections; subst_vars; first | exact ⟨_, rfl⟩ | exact rfl)
theorem zkp_18 {P : zP} {d : zD P} {rk : Nat} (t : Nat) (ls st : List zV) (b : Nat × Nat) : zkp1 P d rk (zs18 t (ls, st, zmk P d, b)) := by
  unfold zs18
  (repeat' split) <;> first | exact trivial | exact ⟨_, rfl⟩ | exact rfl | (injections; subst_vars; first | exact ⟨_, rfl⟩ | exact rfl)
theorem zkp_19 {P : zP} {d : zD P} {rk : Nat} (d1 : Nat) (cs : List (Int × Nat)) (ls st : List zV) (b : Nat × Nat) : zkp1 P d rk (zs19 d1 cs (ls, st, zmk P d, b)) := by
  unfold zs19
  (repeat' split) <;> first | exact trivial | exact ⟨_, rfl⟩ | exact rfl | (injections; subst_vars; first | exact ⟨_, rfl⟩ | exact rfl)
theorem zkp_20 {P : zP} {d : zD P}  (ls st : List zV) (b : Nat × Nat) : zkp1 P d 0 (zs20  (ls, st, zmk P d, b)) := by
  unfold zs20
  (repeat' split) <;> first | exact trivial | (injections; subst_vars; first | exact ⟨rfl, _, rfl⟩ | exact ⟨rfl, 0, rfl⟩)
theorem zkp_201 {P : zP} {d : zD P}  (ls st : List zV) (b : Nat × Nat) : zkp1 P d 1 (zs201  (ls, st, zmk P d, b)) := by
  unfold zs201
  (repeat' split) <;> first | exact trivial | (injections; subst_vars; first | exact ⟨rfl, _, rfl⟩ | exact ⟨rfl, 0, rfl⟩)
theorem zkp_202 {P : zP} {d : zD P}  (ls st : List zV) (b : Nat × Nat) : zkp1 P d 2 (zs202  (ls, st, zmk P d, b)) := by
  unfold zs202
  (repeat' split) <;> first | exact trivial | (injections; subst_vars; first | exact ⟨rfl, _, rfl⟩ | exact ⟨rfl, 0, rfl⟩)
theorem zkp_203 {P : zP} {d : zD P}  (ls st : List zV) (b : Nat × Nat) : zkp1 P d 3 (zs203  (ls, st, zmk P d, b)) := by
  unfold zs203
  (repeat' split) <;> first | exact trivial | (injections; subst_vars; first | exact ⟨rfl, _, rfl⟩ | exact ⟨rfl, 0, rfl⟩)
theorem zkp_21 {P : zP} {d : zD P} {rk : Nat} (k t : Nat) (c : Int) (ls st : List zV) (b : Nat × Nat) : zkp1 P d rk (zs21 k t c (ls, st, zmk P d, b)) := by
  unfold zs21
  (repeat' split) <;> first | exact trivial | exact ⟨_, rfl⟩ | exact rfl | (injections; subst_vars; first | exact ⟨_, rfl⟩ | exact rfl)
theorem zkp_23 {P : zP} {d : zD P} {rk : Nat} (r : Nat) (ls st : List zV) (b : Nat × Nat) : zkp1 P d rk (zs23 r (ls, st, zmk P d, b)) := by
  unfold zs23
  (repeat' split) <;> first | exact trivial | exact ⟨_, rfl⟩ | exact rfl | (injections; subst_vars; first | exact ⟨_, rfl⟩ | exact rfl)
theorem zkp_24 {P : zP} {d : zD P} {rk : Nat} (k : Nat) (ls st : List zV) (b : Nat × Nat) : zkp1 P d rk (zs24 k (ls, st, zmk P d, b)) := by
  unfold zs24
  (repeat' split) <;> first | exact trivial | exact ⟨_, rfl⟩ | exact rfl | (injections; subst_vars; first | exact ⟨_, rfl⟩ | exact rfl)
theorem zkp_26 {P : zP} {d : zD P} {rk : Nat}  (ls st : List zV) (b : Nat × Nat) : zkp1 P d rk (zs26  (ls, st, zmk P d, b)) := by
  unfold zs26
  (repeat' split) <;> first | exact trivial | exact ⟨_, rfl⟩ | exact rfl | (injections; subst_vars; first | exact ⟨_, rfl⟩ | exact rfl)
theorem zkp_35 {P : zP} {d : zD P} {rk : Nat}  (ls st : List zV) (b : Nat × Nat) : zkp1 P d rk (zs35  (ls, st, zmk P d, b)) := by
  unfold zs35
  (repeat' split) <;> first | exact trivial | exact ⟨_, rfl⟩ | exact rfl | (injections; subst_vars; first | exact ⟨_, rfl⟩ | exact rfl)
theorem zkp_36 {P : zP} {d : zD P} {rk : Nat} (f : Nat) (ls st : List zV) (b : Nat × Nat) : zkp1 P d rk (zs36 f (ls, st, zmk P d, b)) := by
  unfold zs36
  (repeat' split) <;> first | exact trivial | exact ⟨_, rfl⟩ | exact rfl | (injections; subst_vars; first | exact ⟨_, rfl⟩ | exact rfl)
theorem zstp_kp {P : zP} {d : zD P} {i : zI} (hi : zsf i = true) (ls st : List zV) (b : Nat × Nat) : zkp1 P d i.2.1 (zstp i (ls, st, zmk P d, b)) := by
  obtain ⟨op, a, t, c, l⟩ := i
  unfold zstp
  split
  all_goals first | exact trivial | (injections; subst_vars; first | exact Bool.noConfusion hi | exact zkp_22 hi _ _ _ | exact zkp_25 hi _ _ _ | exact zkp_32 hi _ _ _ | exact zkp_31 hi _ _ _ | exact zkp_34 hi _ _ _ | exact zkp_20 _ _ _ | exact zkp_201 _ _ _ | exact zkp_202 _ _ _ | exact zkp_203 _ _ _) | exact zkp_0 _ _ ls st b | exact zkp_1 _ _ ls st b | exact zkp_2 _ _ ls st b | exact zkp_3 _ ls st b | exact zkp_4 _ _ ls st b | exact zkp_5 _ ls st b | exact zkp_6 _ ls st b | exact zkp_7 ls st b | exact zkp_8 _ ls st b | exact zkp_9 _ ls st b | exact zkp_10 _ ls st b | exact zkp_11 ls st b | exact zkp_12 ls st b | exact zkp_121 ls st b | exact zkp_122 ls st b | exact zkp_13 ls st b | exact zkp_14 ls st b | exact zkp_15 ls st b | exact zkp_16 _ _ ls st b | exact zkp_17 _ _ ls st b | exact zkp_18 _ ls st b | exact zkp_19 _ _ ls st b | exact zkp_20 ls st b | exact zkp_201 ls st b | exact zkp_202 ls st b | exact zkp_203 ls st b | exact zkp_21 _ _ _ ls st b | exact zkp_23 _ ls st b | exact zkp_24 _ ls st b | exact zkp_26 ls st b | exact zkp_35 ls st b | exact zkp_36 _ ls st b
theorem zstp_ret (i : zI) (s : zS) : ∀ q, zstp i s = .inr (.inr (.inl q)) → i.1 = 20 := by
  intro q h
  obtain ⟨op, a, t, c, l⟩ := i
  unfold zstp at h
  split at h <;> first | rfl | (rename_i e1 e2; exact congrArg Prod.fst e1) | (rename_i e1 e2 _; exact congrArg Prod.fst e1) | (rename_i e1; exact congrArg Prod.fst e1) | (exfalso; revert h; first | (intro h; cases h; done) | (unfold zs0; (repeat' split) <;> (intro h; cases h); done) | (unfold zs1; (repeat' split) <;> (intro h; cases h); done) | (unfold zs2; (repeat' split) <;> (intro h; cases h); done) | (unfold zs3; (repeat' split) <;> (intro h; cases h); done) | (unfold zs4; (repeat' split) <;> (intro h; cases h); done) | (unfold zs5; (repeat' split) <;> (intro h; cases h); done) | (unfold zs6; (repeat' split) <;> (intro h; cases h); done) | (unfold zs7; (repeat' split) <;> (intro h; cases h); done) | (unfold zs8; (repeat' split) <;> (intro h; cases h); done) | (unfold zs9; (repeat' split) <;> (intro h; cases h); done) | (unfold zs10; (repeat' split) <;> (intro h; cases h); done) | (unfold zs11; (repeat' split) <;> (intro h; cases h); done) | (unfold zs12; (repeat' split) <;> (intro h; cases h); done) | (unfold zs121; (repeat' split) <;> (intro h; cases h); done) | (unfold zs122; (repeat' split) <;> (intro h; cases h); done) | (unfold zs13; (repeat' split) <;> (intro h; cases h); done) | (unfold zs14; (repeat' split) <;> (intro h; cases h); done) | (unfold zs15; (repeat' split) <;> (intro h; cases h); done) | (unfold zs16; (repeat' split) <;> (intro h; cases h); done) | (unfold zs17; (repeat' split) <;> (intro h; cases h); done) | (unfold zs18; (repeat' split) <;> (intro h; cases h); done) | (unfold zs19; (repeat' split) <;> (intro h; cases h); done) | (unfold zs21; (repeat' split) <;> (intro h; cases h); done) | (unfold zs22; (repeat' split) <;> (intro h; cases h); done) | (unfold zs23; (repeat' split) <;> (intro h; cases h); done) | (unfold zs24; (repeat' split) <;> (intro h; cases h); done) | (unfold zs25; (repeat' split) <;> (intro h; cases h); done) | (unfold zs26; (repeat' split) <;> (intro h; cases h); done) | (unfold zs27; (repeat' split) <;> (intro h; cases h); done) | (unfold zs28; (repeat' split) <;> (intro h; cases h); done) | (unfold zs29; (repeat' split) <;> (intro h; cases h); done) | (unfold zs30; (repeat' split) <;> (intro h; cases h); done) | (unfold zs31; (repeat' split) <;> (intro h; cases h); done) | (unfold zs34; (repeat' split) <;> (intro h; cases h); done) | (unfold zs33; (repeat' split) <;> (intro h; cases h); done) | (unfold zs32; (repeat' split) <;> (intro h; cases h); done) | (unfold zs35; (repeat' split) <;> (intro h; cases h); done) | (unfold zs36; (repeat' split) <;> (intro h; cases h); done))
