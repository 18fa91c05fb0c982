theorem zsh_sum (ro : Nat → Nat) (b : Nat) : ∀ {st : List zV}, zsh st = true → ((st.map (zval ro b)).map fun v => v.category).sum ≤ 8 := by
  intro st h
  have c2 : ∀ v : zV, (zval ro b v).category ≤ 2 := fun v => by rcases lv_cat (zval ro b v) with h | h <;> omega
  match st, h with
  | [], _ => simp
  | [a], _ => simp only [List.map_cons, List.map_nil, List.sum_cons, List.sum_nil]; have := c2 a; omega
  | [a, b'], _ => simp only [List.map_cons, List.map_nil, List.sum_cons, List.sum_nil]; have := c2 a; have := c2 b'; omega
  | [a, b', c'], _ => simp only [List.map_cons, List.map_nil, List.sum_cons, List.sum_nil]; have := c2 a; have := c2 b'; have := c2 c'; omega
  | [a, b', c', d'], _ => simp only [List.map_cons, List.map_nil, List.sum_cons, List.sum_nil]; have := c2 a; have := c2 b'; have := c2 c'; have := c2 d'; omega
theorem zspl_eq : ∀ {n : Nat} {acc st as st' : List zV}, zspl n acc st = some (as, st') → zsh st' = true ∧ as.reverse ++ st' = acc.reverse ++ st ∧ as.length = n + acc.length
  | 0, acc, st, as, st', h => by
    unfold zspl at h
    split at h
    · cases h
      rename_i h0
      exact ⟨h0, rfl, by simp⟩
    · cases h
  | n + 1, acc, [], as, st', h => by cases h
  | n + 1, acc, v :: st, as, st', h => by
    obtain ⟨h1, h2, h3⟩ := zspl_eq (n := n) (acc := v :: acc) (st := st) h
    exact ⟨h1, by rw [h2]; simp, by rw [h3]; simp; omega⟩
/-- one cell more -/
theorem zHR.push {D : va_G} {cA : Nat → ClassId} {ro : Nat → Nat} {b : Nat} {w0 : zW} {n : Nat} {w : zW} {H H1 : Heap} (h : zHR D cA ro b w0 n w H) {c : zC} (hz : H1.size = H.size + 1) (ho : ∀ q : Nat, q < H.size → H1[q]? = H[q]?) (hc : (c.1 < 13 ∧ c.2.1 = zNf c.1) ∨ (20 ≤ c.1 ∧ c.1 ≤ 24 ∧ c.2.1 < 2147483648)) (hP : va_at D vwCl (b + n, zce cA ro b c) H1) : zHR D cA ro b w0 (n + 1) (zup (zup w (n + 10) c) 0 (98, n + 1, fun _ => 0)) H1 := by
  obtain ⟨g1, g2, g3, g4, g5, g6⟩ := h
  have e : ∀ q, q ≠ 0 → q ≠ n + 10 → zup (zup w (n + 10) c) 0 (98, n + 1, fun _ => 0) q = w q := fun q q1 q2 => by unfold zup; rw [if_neg q1, if_neg q2]
  have e2 : zup (zup w (n + 10) c) 0 (98, n + 1, fun _ => 0) (n + 10) = c := by unfold zup; rw [if_neg (by omega), if_pos rfl]
  refine ⟨by unfold zup; rw [if_pos rfl], by omega, fun q q1 q2 => by rw [e q (by omega) (by omega)]; exact g3 q q1 q2, fun q q1 => by rw [e q (by omega) (by omega)]; exact g4 q (by omega), fun q q1 q2 => ?_, ?_⟩
  · by_cases hq : q = n + 10
    · subst hq; rw [e2]; exact hc
    · rw [e q (by omega) hq]; exact g5 q q1 (by omega)
  · intro k q hk
    unfold zws at hk
    rw [List.getElem?_map] at hk
    by_cases hkn : k < n + 1
    · rw [List.getElem?_range hkn] at hk
      cases hk
      by_cases hk2 : k = n
      · subst hk2
        show va_at D vwCl (b + k, zce cA ro b (zup (zup w (k + 10) c) 0 (98, k + 1, fun _ => 0) (k + 10))) H1
        rw [e2]; exact hP
      · show va_at D vwCl (b + k, zce cA ro b (zup (zup w (n + 10) c) 0 (98, n + 1, fun _ => 0) (k + 10))) H1
        rw [e _ (by omega) (by omega)]
        have h7 : (zws cA ro b n w)[k]? = some (b + k, zce cA ro b (w (k + 10))) := by
          unfold zws; rw [List.getElem?_map, List.getElem?_range (by omega)]; rfl
        exact (g6 k _ h7).kept (ho _ (by show b + k < H.size; omega))
    · rw [List.getElem?_eq_none (by simp; omega)] at hk
      cases hk
theorem zS_push {A : Nat → Prop} {H0 H H1 : Heap} {locs : List Loc} (h : va_S A H0 H locs) {k : Nat} (hz : H1.size = H.size + k) (ho : ∀ q : Nat, q < H.size → H1[q]? = H[q]?) : va_S A H0 H1 locs :=
  ⟨by have := h.1; omega, fun q q1 q2 => by rw [ho q (Nat.lt_of_lt_of_le q1 h.1)]; exact h.2.1 q q1 q2, h.2.2⟩
theorem zix_clamp (i : Int) : (Int32.ofInt i).toNatClampNeg = zix i := rfl
theorem znneg {i : Int} (h : 0 ≤ wr i) : ¬ Int32.ofInt i < 0 := fun h2 => by
  have := Int32.lt_iff_toInt_lt.mp h2
  have e : (0 : Int32).toInt = 0 := rfl
  unfold wr at h
  omega
theorem zmul8 {a c : Nat} (h : a ≤ 20000) (hc : c ≤ 8) : a * c ≤ 536870912 := Nat.le_trans (Nat.mul_le_mul h hc) (Nat.le_of_ble_eq_true rfl)
theorem znfw {a L : Nat} (h : a ≤ 8) (hl : 26 ≤ L) : 2 * 0 + a + (nativeFrameWords "java/lang/System" "arraycopy" 5 + 11) ≤ L := by
  have : nativeFrameWords "java/lang/System" "arraycopy" 5 = 7 := by decide +kernel
  omega
def zDef (ci : Nat) (l : List (Int × Nat)) : Prop := ∀ j, j < zNf ci → (zTy ci j = .int ∧ (l.getD j (0, 0)).1 = 0) ∨ (zTy ci j = .long ∧ (l.getD j (0, 0)).1 = 0) ∨ (zTy ci j = .boolean ∧ (l.getD j (0, 0)).1 = 0) ∨ (ztg (zTy ci j) = 2 ∧ (l.getD j (0, 0)).1 = -1)
theorem zDef_ok {ro : Nat → Nat} {b ci : Nat} {l : List (Int × Nat)} (h : zDef ci l) : ∀ j, j < zNf ci → defaultValue (zTy ci j) = vp_V ((List.range (zNf ci)).map (fun k => zval ro b (ztg (zTy ci k), (l.getD k (0, 0)).1))) j := by
  intro j hj
  unfold vp_V
  rw [List.getD_eq_getElem?_getD, List.getElem?_map, List.getElem?_range hj]
  show defaultValue (zTy ci j) = zval ro b (ztg (zTy ci j), (l.getD j (0, 0)).1)
  rcases h j hj with ⟨e1, e2⟩ | ⟨e1, e2⟩ | ⟨e1, e2⟩ | ⟨e1, e2⟩
  · rw [e1, e2]; rfl
  · rw [e1, e2]; rfl
  · rw [e1, e2]; rfl
  · rw [e1, e2]
    revert e1
    cases zTy ci j <;> first | (intro h; simp [ztg] at h; done) | (intro _; rfl)
section
variable {p : Program} {l : Launch} {e : Env} {R : Room} {s : State} {m : MethodId} {args : Array Value} {below : List Frame} {meth : Method} {c : Code} {Q : State → Prop} {D : va_G} {cA : Nat → ClassId} {ro : Nat → Nat} {b : Nat} {w0 : zW} {nL mcT msT : Nat} {cc : ByteArray} {own : String} {pc : Nat} {ls st : List zV} {w : zW} {bc bs : Nat}
theorem zo_new (C : zCx p s m c args cc nL own D cA ro b w0) {ix ci : Nat} {rr : vw_C} {lst : List (Int × Nat)} (hR : mcT ≤ R.cells ∧ msT ≤ R.slots) (hc : vwCl[ci]? = some rr) (hcl : Cond.classLink own ix rr.1 ∈ zgt) (hins : Cond.instantiable rr.1 rr.2.2 ∈ zgt) (hini : Cond.initialized rr.1 ∈ zgt) (hdf : zDef ci lst) (hb1 : 1 ≤ bc) (hb2 : zNf ci ≤ bs) (hd : decode cc pc = .ok (.new ix, 3)) (K : zG p l e R s m args below meth c Q D cA ro b w0 nL mcT msT (pc + 3) (ls, (2, (((w 0).2.1 + 10 : Nat) : Int)) :: st, (zup (zup w ((w 0).2.1 + 10) (ci, zNf ci, fun k => (lst.getD k (0, 0)).1)) 0 (98, (w 0).2.1 + 1, fun _ => 0)), (bc - 1), (bs - zNf ci))) : zG p l e R s m args below meth c Q D cA ro b w0 nL mcT msT pc (ls, st, w, bc, bs) := by
  intro n H locs ce sl la hH hS hn hl h1 h2
  change zHR D cA ro b w0 n w H at hH
  change ls.length = nL at hn
  change lv_has la nL (zlv ro b 0 ls) at hl
  change ce + bc ≤ mcT at h1
  change sl + bs ≤ msT at h2
  obtain ⟨hx, hb, hml, hown, hts, hK, hNst, hAO, hSt, hRo, hW0⟩ := C
  have e0 : (w 0).2.1 = n := by rw [hH.1]
  rw [e0] at K
  have hci : ci < 13 := (List.getElem?_eq_some_iff.mp hc).1
  have ok := zcl_ok ci rr hc
  have hKn := hK.1 ci _ hc
  have hz := hH.2.1
  have hnf := zNf_ok ci rr hc
  refine W.newcK hx hb hown (hts _ hcl) (hts _ hins) (hts _ hini) rfl hd (by omega) (by omega) hKn.2.1 rfl fun H1 kC hkC e1 z1 o1 => ?_
  have K2 := K (n + 1) H1 locs (ce + 1) (sl + rr.2.2) la (hH.push (c := (ci, zNf ci, fun k => (lst.getD k (0, 0)).1)) z1 o1 (Or.inl ⟨hci, rfl⟩) (by
    rw [zce_obj hci]
    rw [hz] at e1
    have h8 := u_born (zTy ci) hts ok.1 hKn hkC e1 ok.2.2
    exact ⟨rr, hc, t_OB.to h8 (fun j hj => by rw [hnf] at hj; exact zDef_ok hdf j hj)⟩)) (zS_push hS z1 o1) hn hl (by show ce + 1 + (bc - 1) ≤ mcT; omega) (by show sl + rr.2.2 + (bs - zNf ci) ≤ msT; omega)
  have ea : zval ro b (2, ((n + 10 : Nat) : Int)) = .ref H.size := by
    rw [zval_r ro b (by omega)]
    unfold zad
    rw [if_neg (by omega), hz]
    congr 1
  rw [List.map_cons, ea] at K2
  exact K2
theorem zo_newa20 (C : zCx p s m c args cc nL own D cA ro b w0) {k : Int} (hR : mcT ≤ R.cells ∧ msT ≤ R.slots) (ha : Cond.arrayClass .int ∈ zgt) (hk : 0 ≤ wr k ∧ wr k ≤ 20000) (hb1 : 1 ≤ bc) (hb2 : zix k ≤ bs) (hd : decode cc pc = .ok (.newarray .int, 2)) (K : zG p l e R s m args below meth c Q D cA ro b w0 nL mcT msT (pc + 2) (ls, (2, (((w 0).2.1 + 10 : Nat) : Int)) :: st, (zup (zup w ((w 0).2.1 + 10) (20, zix k, fun _ => 0)) 0 (98, (w 0).2.1 + 1, fun _ => 0)), (bc - 1), (bs - zix k))) : zG p l e R s m args below meth c Q D cA ro b w0 nL mcT msT pc (ls, (0, k) :: st, w, bc, bs) := by
  intro n H locs ce sl la hH hS hn hl h1 h2
  change zHR D cA ro b w0 n w H at hH
  change ls.length = nL at hn
  change lv_has la nL (zlv ro b 0 ls) at hl
  change ce + bc ≤ mcT at h1
  change sl + bs ≤ msT at h2
  obtain ⟨hx, hb, hml, hown, hts, hK, hNst, hAO, hSt, hRo, hW0⟩ := C
  have e0 : (w 0).2.1 = n := by rw [hH.1]
  rw [e0] at K
  have hz := hH.2.1
  have hzk : zix k ≤ 20000 := by unfold zix; omega
  rw [List.map_cons]
  refine va_newaK (atype := .int) hx hb (hts _ ha) rfl hd rfl (znneg hk.1) (zix_clamp k) (zmul8 hzk (show componentBytes .int ≤ 8 by decide)) (by omega) (by omega) rfl fun H1 cA1 e1 z1 o1 hAr hNm => ?_
  have ec : cA1 = cA 0 := by
    have h7 := (hK.2 0 (cA 0, .int) rfl).2
    exact Option.some.inj (hNm.symm.trans h7)
  subst ec
  have K2 := K (n + 1) H1 locs (ce + 1) (sl + zix k) la (hH.push (c := (20, zix k, fun _ => 0)) z1 o1 (Or.inr ⟨Nat.le_of_ble_eq_true rfl, Nat.le_of_ble_eq_true rfl, by show zix k < _; omega⟩) (by
    rw [zce_20 rfl]
    show H1[b + n]? = some (vp_cell _ _)
    rw [vp_cell_i, ← hz]
    exact e1)) (zS_push hS z1 o1) hn hl (by show ce + 1 + (bc - 1) ≤ mcT; omega) (by show sl + zix k + (bs - zix k) ≤ msT; omega)
  have ea : zval ro b (2, ((n + 10 : Nat) : Int)) = .ref H.size := by
    rw [zval_r ro b (by omega)]
    unfold zad
    rw [if_neg (by omega), hz]
    congr 1
  rw [List.map_cons, ea] at K2
  exact K2
theorem zo_newa21 (C : zCx p s m c args cc nL own D cA ro b w0) {k : Int} (hR : mcT ≤ R.cells ∧ msT ≤ R.slots) (ha : Cond.arrayClass .long ∈ zgt) (hk : 0 ≤ wr k ∧ wr k ≤ 20000) (hb1 : 1 ≤ bc) (hb2 : zix k ≤ bs) (hd : decode cc pc = .ok (.newarray .long, 2)) (K : zG p l e R s m args below meth c Q D cA ro b w0 nL mcT msT (pc + 2) (ls, (2, (((w 0).2.1 + 10 : Nat) : Int)) :: st, (zup (zup w ((w 0).2.1 + 10) (21, zix k, fun _ => 0)) 0 (98, (w 0).2.1 + 1, fun _ => 0)), (bc - 1), (bs - zix k))) : zG p l e R s m args below meth c Q D cA ro b w0 nL mcT msT pc (ls, (0, k) :: st, w, bc, bs) := by
  intro n H locs ce sl la hH hS hn hl h1 h2
  change zHR D cA ro b w0 n w H at hH
  change ls.length = nL at hn
  change lv_has la nL (zlv ro b 0 ls) at hl
  change ce + bc ≤ mcT at h1
  change sl + bs ≤ msT at h2
  obtain ⟨hx, hb, hml, hown, hts, hK, hNst, hAO, hSt, hRo, hW0⟩ := C
  have e0 : (w 0).2.1 = n := by rw [hH.1]
  rw [e0] at K
  have hz := hH.2.1
  have hzk : zix k ≤ 20000 := by unfold zix; omega
  rw [List.map_cons]
  refine va_newaK (atype := .long) hx hb (hts _ ha) rfl hd rfl (znneg hk.1) (zix_clamp k) (zmul8 hzk (show componentBytes .long ≤ 8 by decide)) (by omega) (by omega) rfl fun H1 cA1 e1 z1 o1 hAr hNm => ?_
  have ec : cA1 = cA 1 := by
    have h7 := (hK.2 1 (cA 1, .long) rfl).2
    exact Option.some.inj (hNm.symm.trans h7)
  subst ec
  have K2 := K (n + 1) H1 locs (ce + 1) (sl + zix k) la (hH.push (c := (21, zix k, fun _ => 0)) z1 o1 (Or.inr ⟨Nat.le_of_ble_eq_true rfl, Nat.le_of_ble_eq_true rfl, by show zix k < _; omega⟩) (by
    rw [zce_21 rfl]
    show H1[b + n]? = some (vp_cell _ _)
    rw [vp_cell_l, ← hz]
    exact e1)) (zS_push hS z1 o1) hn hl (by show ce + 1 + (bc - 1) ≤ mcT; omega) (by show sl + zix k + (bs - zix k) ≤ msT; omega)
  have ea : zval ro b (2, ((n + 10 : Nat) : Int)) = .ref H.size := by
    rw [zval_r ro b (by omega)]
    unfold zad
    rw [if_neg (by omega), hz]
    congr 1
  rw [List.map_cons, ea] at K2
  exact K2
theorem zo_newa22 (C : zCx p s m c args cc nL own D cA ro b w0) {k : Int} (hR : mcT ≤ R.cells ∧ msT ≤ R.slots) (ha : Cond.arrayClass .byte ∈ zgt) (hk : 0 ≤ wr k ∧ wr k ≤ 20000) (hb1 : 1 ≤ bc) (hb2 : zix k ≤ bs) (hd : decode cc pc = .ok (.newarray .byte, 2)) (K : zG p l e R s m args below meth c Q D cA ro b w0 nL mcT msT (pc + 2) (ls, (2, (((w 0).2.1 + 10 : Nat) : Int)) :: st, (zup (zup w ((w 0).2.1 + 10) (22, zix k, fun _ => 0)) 0 (98, (w 0).2.1 + 1, fun _ => 0)), (bc - 1), (bs - zix k))) : zG p l e R s m args below meth c Q D cA ro b w0 nL mcT msT pc (ls, (0, k) :: st, w, bc, bs) := by
  intro n H locs ce sl la hH hS hn hl h1 h2
  change zHR D cA ro b w0 n w H at hH
  change ls.length = nL at hn
  change lv_has la nL (zlv ro b 0 ls) at hl
  change ce + bc ≤ mcT at h1
  change sl + bs ≤ msT at h2
  obtain ⟨hx, hb, hml, hown, hts, hK, hNst, hAO, hSt, hRo, hW0⟩ := C
  have e0 : (w 0).2.1 = n := by rw [hH.1]
  rw [e0] at K
  have hz := hH.2.1
  have hzk : zix k ≤ 20000 := by unfold zix; omega
  rw [List.map_cons]
  refine va_newaK (atype := .byte) hx hb (hts _ ha) rfl hd rfl (znneg hk.1) (zix_clamp k) (zmul8 hzk (show componentBytes .byte ≤ 8 by decide)) (by omega) (by omega) rfl fun H1 cA1 e1 z1 o1 hAr hNm => ?_
  have ec : cA1 = cA 2 := by
    have h7 := (hK.2 2 (cA 2, .byte) rfl).2
    exact Option.some.inj (hNm.symm.trans h7)
  subst ec
  have K2 := K (n + 1) H1 locs (ce + 1) (sl + zix k) la (hH.push (c := (22, zix k, fun _ => 0)) z1 o1 (Or.inr ⟨Nat.le_of_ble_eq_true rfl, Nat.le_of_ble_eq_true rfl, by show zix k < _; omega⟩) (by
    rw [zce_22 rfl]
    show H1[b + n]? = some (vp_cell _ _)
    rw [vp_cell_i, ← hz]
    exact e1)) (zS_push hS z1 o1) hn hl (by show ce + 1 + (bc - 1) ≤ mcT; omega) (by show sl + zix k + (bs - zix k) ≤ msT; omega)
  have ea : zval ro b (2, ((n + 10 : Nat) : Int)) = .ref H.size := by
    rw [zval_r ro b (by omega)]
    unfold zad
    rw [if_neg (by omega), hz]
    congr 1
  rw [List.map_cons, ea] at K2
  exact K2
theorem zo_objInit (C : zCx p s m c args cc nL own D cA ro b w0) {ix : Nat} {r : Int} (hml2 : Cond.methodLink own ix Lib.objectInit ∈ zgt) (hin : Cond.instanceMethod Lib.objectInit ∈ zgt) (hcode : Cond.code Lib.objectInit ⟨#[0xb1]⟩ 1 none ∈ zgt) (hfr : 1 ≤ R.frames) (hlo : 20 ≤ R.locals) (hr : 10 ≤ r) (hsh : zsh st = true) (hd : decode cc pc = .ok (.invokespecial ix, 3)) (K : zG p l e R s m args below meth c Q D cA ro b w0 nL mcT msT (pc + 3) (ls, st, w, bc, bs)) : zG p l e R s m args below meth c Q D cA ro b w0 nL mcT msT pc (ls, (2, r) :: st, w, bc, bs) := by
  intro n H locs ce sl la hH hS hn hl h1 h2
  change zHR D cA ro b w0 n w H at hH
  change ls.length = nL at hn
  change lv_has la nL (zlv ro b 0 ls) at hl
  change ce + bc ≤ mcT at h1
  change sl + bs ≤ msT at h2
  obtain ⟨hx, hb, hml, hown, hts, hK, hNst, hAO, hSt, hRo, hW0⟩ := C
  have k3 := K n H locs ce sl la hH hS hn hl h1 h2
  rw [List.map_cons, zval_r ro b (by omega)]
  have hs := zsh_sum ro b hsh
  exact W.objInit hx hb hown (hts _ hml2) (hts _ hin) (hts _ hcode) rfl (by rw [hml]; exact hl.1) rfl hd hfr (by show 2 * 0 + _ + 12 ≤ _; omega) k3
theorem zo_copy20 (C : zCx p s m c args cc nL own D cA ro b w0) {ix : Nat} {r sp d dp k : Int} (hml2 : Cond.methodLink own ix arraycopyName ∈ zgt) (hnat : Cond.native arraycopyName ∈ zgt) (hstat : Cond.static arraycopyName ∈ zgt) (hini : Cond.initialized "java/lang/System" ∈ zgt) (hfr : 1 ≤ R.frames) (hlo : 26 ≤ R.locals) (hr : 0 ≤ r) (hd0 : 0 ≤ d) (hw : (w r.toNat).1 = 20) (hwd : (w d.toNat).1 = 20) (a1 : 0 ≤ wr sp) (a2 : 0 ≤ wr dp) (a3 : 0 ≤ wr k) (a4 : zix sp + zix k ≤ (w r.toNat).2.1) (a5 : zix dp + zix k ≤ (w d.toNat).2.1) (hsh : zsh st = true) (hd : decode cc pc = .ok (.invokestatic ix, 3)) (K : zG p l e R s m args below meth c Q D cA ro b w0 nL mcT msT (pc + 3) (ls, st, (zup w d.toNat (20, (w d.toNat).2.1, zcp (w r.toNat).2.2 (w d.toNat).2.2 (zix sp) (zix dp) (zix k))), bc, bs)) : zG p l e R s m args below meth c Q D cA ro b w0 nL mcT msT pc (ls, (0, k) :: (0, dp) :: (2, d) :: (0, sp) :: (2, r) :: st, w, bc, bs) := by
  intro n H locs ce sl la hH hS hn hl h1 h2
  change zHR D cA ro b w0 n w H at hH
  change ls.length = nL at hn
  change lv_has la nL (zlv ro b 0 ls) at hl
  change ce + bc ≤ mcT at h1
  change sl + bs ≤ msT at h2
  obtain ⟨hx, hb, hml, hown, hts, hK, hNst, hAO, hSt, hRo, hW0⟩ := C
  obtain ⟨d1, d2⟩ := zHR.dom hH hW0 hw (by omega)
  obtain ⟨d3, d4⟩ := zHR.dom hH hW0 hwd (by omega)
  have hg := zws_get (cA := cA) (ro := ro) (b := b) (w := w) d1 d2
  have hgd := zws_get (cA := cA) (ro := ro) (b := b) (w := w) d3 d4
  rw [zce_20 hw] at hg
  rw [zce_20 hwd] at hgd
  have hP := hH.2.2.2.2.2
  have hs := zsh_sum ro b hsh
  rw [List.map_cons, List.map_cons, List.map_cons, List.map_cons, List.map_cons, zval_r ro b hr, zval_r ro b hd0]
  have h1' := znneg a1
  have h2' := znneg a2
  have h3' := znneg a3
  have nn : ∀ z : Int32, ¬ z < 0 → z.toInt = (z.toNatClampNeg : Int) := by
    intro z hz
    have hz0 : (0 : Int) ≤ z.toInt := by
      have := Int32.not_lt.mp hz
      simpa using Int32.le_iff_toInt_le.mp this
    show z.toInt = ((z.toInt.toNat : Nat) : Int)
    omega
  have b4 : (Int32.ofInt sp).toNatClampNeg + (Int32.ofInt k).toNatClampNeg ≤ (w r.toNat).2.1 := a4
  have b5 : (Int32.ofInt dp).toNatClampNeg + (Int32.ofInt k).toNatClampNeg ≤ (w d.toNat).2.1 := a5
  intro T hT X
  have hc0 := hP _ _ hg
  have hc1 := hP _ _ hgd
  obtain ⟨-, k0, hk0, cm0, hkk0⟩ := (hK.2 0 _ rfl).1 (w r.toNat).2.1 (fun j => .int (Int32.ofInt ((w r.toNat).2.2 j)))
  obtain ⟨-, k1, hk1, cm1, hkk1⟩ := (hK.2 0 _ rfl).1 (w d.toNat).2.1 (fun j => .int (Int32.ofInt ((w d.toNat).2.2 j)))
  obtain ⟨vm', X', step⟩ := X.arraycopy hx hown (hts _ hml2) (hts _ hnat) (hts _ hstat) (hts _ hini) (src := zad ro b r.toNat) (dst := zad ro b d.toNat) (cs := vp_cell (cA 0) ((w r.toNat).2.1, .inl (fun j => Int32.ofInt ((w r.toNat).2.2 j)))) (cd := vp_cell (cA 0) ((w d.toNat).2.1, .inl (fun j => Int32.ofInt ((w d.toNat).2.2 j)))) (srcPos := Int32.ofInt sp) (destPos := Int32.ofInt dp) (n := Int32.ofInt k) (by rw [hT]; exact hc0) (by rw [hT]; exact hc1)
    (fun _ h => by cases h) (fun _ h => by cases h) (fun h => by cases h) (fun h => by cases h) hk0 hk1 hkk0 hkk1 (by simp [show refKind .int = false from rfl]) h1' h2' h3'
    (by rw [nn _ h1', nn _ h3']; show ¬ _ > ((arrV (cA 0) (w r.toNat).2.1 (fun j => .int (Int32.ofInt ((w r.toNat).2.2 j)))).slots.size : Int); rw [arrV_size]; omega)
    (by rw [nn _ h2', nn _ h3']; show ¬ _ > ((arrV (cA 0) (w d.toNat).2.1 (fun j => .int (Int32.ofInt ((w d.toNat).2.2 j)))).slots.size : Int); rw [arrV_size]; omega)
    (fun vm₁ _ i hi => by
      have e : (vp_cell (cA 0) ((w r.toNat).2.1, .inl (fun j => Int32.ofInt ((w r.toNat).2.2 j)))).slots.getD ((Int32.ofInt sp).toNatClampNeg + i) .null = (fun z => Value.int (Int32.ofInt z)) ((w r.toNat).2.2 ((Int32.ofInt sp).toNatClampNeg + i)) := by
        show (arrV (cA 0) (w r.toNat).2.1 (fun j => .int (Int32.ofInt ((w r.toNat).2.2 j)))).slots.getD _ _ = _
        rw [Array.getD_eq_getD_getElem?, arrV_read _ _ (by omega)]
        rfl
      refine ⟨?_, ?_⟩
      · rw [e]
        rfl
      · rw [e]
        exact trivial)
    (g := F0 m pc la (.int (Int32.ofInt k) :: .int (Int32.ofInt dp) :: .ref (zad ro b d.toNat) :: .int (Int32.ofInt sp) :: .ref (zad ro b r.toNat) :: st.map (zval ro b))) rfl (by rw [hml]; exact hl.1) (rest := st.map (zval ro b)) rfl (by rw [hb]; exact hd) hfr (znfw hs hlo)
  have e1 : copied (vp_cell (cA 0) ((w r.toNat).2.1, .inl (fun j => Int32.ofInt ((w r.toNat).2.2 j)))) (vp_cell (cA 0) ((w d.toNat).2.1, .inl (fun j => Int32.ofInt ((w d.toNat).2.2 j)))) (Int32.ofInt sp) (Int32.ofInt dp) (Int32.ofInt k) = vp_cell (cA 0) ((w d.toNat).2.1, .inl (fun j => Int32.ofInt (zcp (w r.toNat).2.2 (w d.toNat).2.2 (zix sp) (zix dp) (zix k) j))) := by
    rw [← zcpy]
    exact va_copied (fun z => .int z) (cA 0) (cA 0) (fun j => Int32.ofInt ((w r.toNat).2.2 j)) (fun j => Int32.ofInt ((w d.toNat).2.2 j)) b4
  rw [e1] at X' step
  have hl3 : zad ro b d.toNat < H.size := (Array.getElem?_eq_some_iff.mp hc1).1
  have hheap : ((T.setVm vm').setCell (zad ro b d.toNat) (vp_cell (cA 0) ((w d.toNat).2.1, .inl (fun j => Int32.ofInt (zcp (w r.toNat).2.2 (w d.toNat).2.2 (zix sp) (zix dp) (zix k) j))))).heap = H.setIfInBounds (zad ro b d.toNat) (vp_cell (cA 0) ((w d.toNat).2.1, .inl (fun j => Int32.ofInt (zcp (w r.toNat).2.2 (w d.toNat).2.2 (zix sp) (zix dp) (zix k) j)))) := by rw [← hT]; rfl
  have oq : ∀ q : Nat, q ≠ zad ro b d.toNat → (H.setIfInBounds (zad ro b d.toNat) (vp_cell (cA 0) ((w d.toNat).2.1, .inl (fun j => Int32.ofInt (zcp (w r.toNat).2.2 (w d.toNat).2.2 (zix sp) (zix dp) (zix k) j)))))[q]? = H[q]? := fun q hq => by simp [Array.getElem?_setIfInBounds, Ne.symm hq]
  have hA : b ≤ zad ro b d.toNat := by unfold zad; rw [if_neg (by omega)]; omega
  have hHR := zHR.set (f := zcp (w r.toNat).2.2 (w d.toNat).2.2 (zix sp) (zix dp) (zix k)) hH d3 d4 (H1 := H.setIfInBounds (zad ro b d.toNat) (vp_cell (cA 0) ((w d.toNat).2.1, .inl (fun j => Int32.ofInt (zcp (w r.toNat).2.2 (w d.toNat).2.2 (zix sp) (zix dp) (zix k) j))))) (by simp) (hP.set zws_D (zws_get d3 d4) (by
    rw [zce_20 (by exact hwd)]
    show (H.setIfInBounds (zad ro b d.toNat) _)[_]? = some (vp_cell _ _)
    simp [Array.getElem?_setIfInBounds, hl3]) oq)
  rw [hwd] at hHR
  obtain ⟨t, a1, b1⟩ := K n _ _ ce sl la hHR ⟨by simp; exact hS.1, fun q g1 g2 => by
      rw [oq q (fun e => g2 (by rw [e]; exact hA))]
      exact hS.2.1 q g1 g2, fun q hq => by
      rcases List.mem_append.mp hq with h | h
      · exact hS.2.2 q h
      · obtain ⟨z, -, hz⟩ := List.mem_map.mp h
        rw [← hz]
        exact hA⟩ hn hl h1 h2 _ hheap X'
  exact ⟨t, step t a1, b1⟩
theorem zo_copy21 (C : zCx p s m c args cc nL own D cA ro b w0) {ix : Nat} {r sp d dp k : Int} (hml2 : Cond.methodLink own ix arraycopyName ∈ zgt) (hnat : Cond.native arraycopyName ∈ zgt) (hstat : Cond.static arraycopyName ∈ zgt) (hini : Cond.initialized "java/lang/System" ∈ zgt) (hfr : 1 ≤ R.frames) (hlo : 26 ≤ R.locals) (hr : 0 ≤ r) (hd0 : 0 ≤ d) (hw : (w r.toNat).1 = 21) (hwd : (w d.toNat).1 = 21) (a1 : 0 ≤ wr sp) (a2 : 0 ≤ wr dp) (a3 : 0 ≤ wr k) (a4 : zix sp + zix k ≤ (w r.toNat).2.1) (a5 : zix dp + zix k ≤ (w d.toNat).2.1) (hsh : zsh st = true) (hd : decode cc pc = .ok (.invokestatic ix, 3)) (K : zG p l e R s m args below meth c Q D cA ro b w0 nL mcT msT (pc + 3) (ls, st, (zup w d.toNat (21, (w d.toNat).2.1, zcp (w r.toNat).2.2 (w d.toNat).2.2 (zix sp) (zix dp) (zix k))), bc, bs)) : zG p l e R s m args below meth c Q D cA ro b w0 nL mcT msT pc (ls, (0, k) :: (0, dp) :: (2, d) :: (0, sp) :: (2, r) :: st, w, bc, bs) := by
  intro n H locs ce sl la hH hS hn hl h1 h2
  change zHR D cA ro b w0 n w H at hH
  change ls.length = nL at hn
  change lv_has la nL (zlv ro b 0 ls) at hl
  change ce + bc ≤ mcT at h1
  change sl + bs ≤ msT at h2
  obtain ⟨hx, hb, hml, hown, hts, hK, hNst, hAO, hSt, hRo, hW0⟩ := C
  obtain ⟨d1, d2⟩ := zHR.dom hH hW0 hw (by omega)
  obtain ⟨d3, d4⟩ := zHR.dom hH hW0 hwd (by omega)
  have hg := zws_get (cA := cA) (ro := ro) (b := b) (w := w) d1 d2
  have hgd := zws_get (cA := cA) (ro := ro) (b := b) (w := w) d3 d4
  rw [zce_21 hw] at hg
  rw [zce_21 hwd] at hgd
  have hP := hH.2.2.2.2.2
  have hs := zsh_sum ro b hsh
  rw [List.map_cons, List.map_cons, List.map_cons, List.map_cons, List.map_cons, zval_r ro b hr, zval_r ro b hd0]
  have h1' := znneg a1
  have h2' := znneg a2
  have h3' := znneg a3
  have nn : ∀ z : Int32, ¬ z < 0 → z.toInt = (z.toNatClampNeg : Int) := by
    intro z hz
    have hz0 : (0 : Int) ≤ z.toInt := by
      have := Int32.not_lt.mp hz
      simpa using Int32.le_iff_toInt_le.mp this
    show z.toInt = ((z.toInt.toNat : Nat) : Int)
    omega
  have b4 : (Int32.ofInt sp).toNatClampNeg + (Int32.ofInt k).toNatClampNeg ≤ (w r.toNat).2.1 := a4
  have b5 : (Int32.ofInt dp).toNatClampNeg + (Int32.ofInt k).toNatClampNeg ≤ (w d.toNat).2.1 := a5
  intro T hT X
  have hc0 := hP _ _ hg
  have hc1 := hP _ _ hgd
  obtain ⟨-, k0, hk0, cm0, hkk0⟩ := (hK.2 1 _ rfl).1 (w r.toNat).2.1 (fun j => .long (Int64.ofInt ((w r.toNat).2.2 j)))
  obtain ⟨-, k1, hk1, cm1, hkk1⟩ := (hK.2 1 _ rfl).1 (w d.toNat).2.1 (fun j => .long (Int64.ofInt ((w d.toNat).2.2 j)))
  obtain ⟨vm', X', step⟩ := X.arraycopy hx hown (hts _ hml2) (hts _ hnat) (hts _ hstat) (hts _ hini) (src := zad ro b r.toNat) (dst := zad ro b d.toNat) (cs := vp_cell (cA 1) ((w r.toNat).2.1, .inr (.inl (fun j => Int64.ofInt ((w r.toNat).2.2 j))))) (cd := vp_cell (cA 1) ((w d.toNat).2.1, .inr (.inl (fun j => Int64.ofInt ((w d.toNat).2.2 j))))) (srcPos := Int32.ofInt sp) (destPos := Int32.ofInt dp) (n := Int32.ofInt k) (by rw [hT]; exact hc0) (by rw [hT]; exact hc1)
    (fun _ h => by cases h) (fun _ h => by cases h) (fun h => by cases h) (fun h => by cases h) hk0 hk1 hkk0 hkk1 (by simp [show refKind .long = false from rfl]) h1' h2' h3'
    (by rw [nn _ h1', nn _ h3']; show ¬ _ > ((arrV (cA 1) (w r.toNat).2.1 (fun j => .long (Int64.ofInt ((w r.toNat).2.2 j)))).slots.size : Int); rw [arrV_size]; omega)
    (by rw [nn _ h2', nn _ h3']; show ¬ _ > ((arrV (cA 1) (w d.toNat).2.1 (fun j => .long (Int64.ofInt ((w d.toNat).2.2 j)))).slots.size : Int); rw [arrV_size]; omega)
    (fun vm₁ _ i hi => by
      have e : (vp_cell (cA 1) ((w r.toNat).2.1, .inr (.inl (fun j => Int64.ofInt ((w r.toNat).2.2 j))))).slots.getD ((Int32.ofInt sp).toNatClampNeg + i) .null = (fun z => Value.long (Int64.ofInt z)) ((w r.toNat).2.2 ((Int32.ofInt sp).toNatClampNeg + i)) := by
        show (arrV (cA 1) (w r.toNat).2.1 (fun j => .long (Int64.ofInt ((w r.toNat).2.2 j)))).slots.getD _ _ = _
        rw [Array.getD_eq_getD_getElem?, arrV_read _ _ (by omega)]
        rfl
      refine ⟨?_, ?_⟩
      · rw [e]
        rfl
      · rw [e]
        exact trivial)
    (g := F0 m pc la (.int (Int32.ofInt k) :: .int (Int32.ofInt dp) :: .ref (zad ro b d.toNat) :: .int (Int32.ofInt sp) :: .ref (zad ro b r.toNat) :: st.map (zval ro b))) rfl (by rw [hml]; exact hl.1) (rest := st.map (zval ro b)) rfl (by rw [hb]; exact hd) hfr (znfw hs hlo)
  have e1 : copied (vp_cell (cA 1) ((w r.toNat).2.1, .inr (.inl (fun j => Int64.ofInt ((w r.toNat).2.2 j))))) (vp_cell (cA 1) ((w d.toNat).2.1, .inr (.inl (fun j => Int64.ofInt ((w d.toNat).2.2 j))))) (Int32.ofInt sp) (Int32.ofInt dp) (Int32.ofInt k) = vp_cell (cA 1) ((w d.toNat).2.1, .inr (.inl (fun j => Int64.ofInt (zcp (w r.toNat).2.2 (w d.toNat).2.2 (zix sp) (zix dp) (zix k) j)))) := by
    rw [← zcpyL]
    exact va_copied (fun z => .long z) (cA 1) (cA 1) (fun j => Int64.ofInt ((w r.toNat).2.2 j)) (fun j => Int64.ofInt ((w d.toNat).2.2 j)) b4
  rw [e1] at X' step
  have hl3 : zad ro b d.toNat < H.size := (Array.getElem?_eq_some_iff.mp hc1).1
  have hheap : ((T.setVm vm').setCell (zad ro b d.toNat) (vp_cell (cA 1) ((w d.toNat).2.1, .inr (.inl (fun j => Int64.ofInt (zcp (w r.toNat).2.2 (w d.toNat).2.2 (zix sp) (zix dp) (zix k) j)))))).heap = H.setIfInBounds (zad ro b d.toNat) (vp_cell (cA 1) ((w d.toNat).2.1, .inr (.inl (fun j => Int64.ofInt (zcp (w r.toNat).2.2 (w d.toNat).2.2 (zix sp) (zix dp) (zix k) j))))) := by rw [← hT]; rfl
  have oq : ∀ q : Nat, q ≠ zad ro b d.toNat → (H.setIfInBounds (zad ro b d.toNat) (vp_cell (cA 1) ((w d.toNat).2.1, .inr (.inl (fun j => Int64.ofInt (zcp (w r.toNat).2.2 (w d.toNat).2.2 (zix sp) (zix dp) (zix k) j))))))[q]? = H[q]? := fun q hq => by simp [Array.getElem?_setIfInBounds, Ne.symm hq]
  have hA : b ≤ zad ro b d.toNat := by unfold zad; rw [if_neg (by omega)]; omega
  have hHR := zHR.set (f := zcp (w r.toNat).2.2 (w d.toNat).2.2 (zix sp) (zix dp) (zix k)) hH d3 d4 (H1 := H.setIfInBounds (zad ro b d.toNat) (vp_cell (cA 1) ((w d.toNat).2.1, .inr (.inl (fun j => Int64.ofInt (zcp (w r.toNat).2.2 (w d.toNat).2.2 (zix sp) (zix dp) (zix k) j)))))) (by simp) (hP.set zws_D (zws_get d3 d4) (by
    rw [zce_21 (by exact hwd)]
    show (H.setIfInBounds (zad ro b d.toNat) _)[_]? = some (vp_cell _ _)
    simp [Array.getElem?_setIfInBounds, hl3]) oq)
  rw [hwd] at hHR
  obtain ⟨t, a1, b1⟩ := K n _ _ ce sl la hHR ⟨by simp; exact hS.1, fun q g1 g2 => by
      rw [oq q (fun e => g2 (by rw [e]; exact hA))]
      exact hS.2.1 q g1 g2, fun q hq => by
      rcases List.mem_append.mp hq with h | h
      · exact hS.2.2 q h
      · obtain ⟨z, -, hz⟩ := List.mem_map.mp h
        rw [← hz]
        exact hA⟩ hn hl h1 h2 _ hheap X'
  exact ⟨t, step t a1, b1⟩
theorem zmax_eq (x y : Int) : Int32.ofInt (if wr x < wr y then y else x) = if Int32.ofInt x < Int32.ofInt y then Int32.ofInt y else Int32.ofInt x := by
  by_cases h : wr x < wr y
  · rw [if_pos h, if_pos (Int32.lt_iff_toInt_lt.mpr h)]
  · rw [if_neg h, if_neg (fun g => h (Int32.lt_iff_toInt_lt.mp g))]
theorem zmin_eq (x y : Int) : Int32.ofInt (if wr y < wr x then y else x) = if Int32.ofInt y < Int32.ofInt x then Int32.ofInt y else Int32.ofInt x := by
  by_cases h : wr y < wr x
  · rw [if_pos h, if_pos (Int32.lt_iff_toInt_lt.mpr h)]
  · rw [if_neg h, if_neg (fun g => h (Int32.lt_iff_toInt_lt.mp g))]
theorem zabs_eq (x : Int) : Int32.ofInt (if wr x < 0 then -x else x) = if 0 ≤ Int32.ofInt x then Int32.ofInt x else 0 - Int32.ofInt x := by
  have e0 : (0 : Int32).toInt = 0 := rfl
  by_cases h : wr x < 0
  · rw [if_pos h, if_neg (fun g => by have := Int32.le_iff_toInt_le.mp g; unfold wr at h; omega), Int32.ofInt_neg]
    simp
  · rw [if_neg h, if_pos (Int32.le_iff_toInt_le.mpr (by unfold wr at h; omega))]
theorem zo_mabs (C : zCx p s m c args cc nL own D cA ro b w0) {ix : Nat} {x y : Int} (hw : Cond.methodLink own ix Lib.Math.abs.name ∈ zgt ∧ Cond.static Lib.Math.abs.name ∈ zgt ∧ Cond.initialized "java/lang/Math" ∈ zgt ∧ Cond.code Lib.Math.abs.name Lib.Math.abs.code 1 (some .int) ∈ zgt) (hR : mcT ≤ R.cells ∧ msT ≤ R.slots) (hfr : 1 ≤ R.frames) (hlo : 21 ≤ R.locals) (hsh : zsh st = true) (hd : decode cc pc = .ok (.invokestatic ix, 3)) (K : zG p l e R s m args below meth c Q D cA ro b w0 nL mcT msT (pc + 3) (ls, (0, if wr x < 0 then -x else x) :: st, w, bc, bs)) : zG p l e R s m args below meth c Q D cA ro b w0 nL mcT msT pc (ls, (0, x) :: st, w, bc, bs) := by
  intro n H locs ce sl la hH hS hn hl h1 h2
  change zHR D cA ro b w0 n w H at hH
  change ls.length = nL at hn
  change lv_has la nL (zlv ro b 0 ls) at hl
  change ce + bc ≤ mcT at h1
  change sl + bs ≤ msT at h2
  obtain ⟨hx, hb, hml, hown, hts, hK, hNst, hAO, hSt, hRo, hW0⟩ := C
  have hs := zsh_sum ro b hsh
  have k3 := K n H locs ce sl la hH hS hn hl h1 h2
  rw [List.map_cons, zval_0, zabs_eq] at k3
  exact va_mabs hx hb (by rw [hml]; exact hl.1.symm) hown (hts _ hw.1) (hts _ hw.2.1) (hts _ hw.2.2.1) (hts _ hw.2.2.2) hfr (by omega) (by omega) (by omega) hd k3
theorem zo_mmax (C : zCx p s m c args cc nL own D cA ro b w0) {ix : Nat} {x y : Int} (hw : Cond.methodLink own ix Lib.Math.max.name ∈ zgt ∧ Cond.static Lib.Math.max.name ∈ zgt ∧ Cond.initialized "java/lang/Math" ∈ zgt ∧ Cond.code Lib.Math.max.name Lib.Math.max.code 2 (some .int) ∈ zgt) (hR : mcT ≤ R.cells ∧ msT ≤ R.slots) (hfr : 1 ≤ R.frames) (hlo : 21 ≤ R.locals) (hsh : zsh st = true) (hd : decode cc pc = .ok (.invokestatic ix, 3)) (K : zG p l e R s m args below meth c Q D cA ro b w0 nL mcT msT (pc + 3) (ls, (0, if wr x < wr y then y else x) :: st, w, bc, bs)) : zG p l e R s m args below meth c Q D cA ro b w0 nL mcT msT pc (ls, (0, y) :: (0, x) :: st, w, bc, bs) := by
  intro n H locs ce sl la hH hS hn hl h1 h2
  change zHR D cA ro b w0 n w H at hH
  change ls.length = nL at hn
  change lv_has la nL (zlv ro b 0 ls) at hl
  change ce + bc ≤ mcT at h1
  change sl + bs ≤ msT at h2
  obtain ⟨hx, hb, hml, hown, hts, hK, hNst, hAO, hSt, hRo, hW0⟩ := C
  have hs := zsh_sum ro b hsh
  have k3 := K n H locs ce sl la hH hS hn hl h1 h2
  rw [List.map_cons, zval_0, zmax_eq] at k3
  exact va_mmax hx hb (by rw [hml]; exact hl.1.symm) hown (hts _ hw.1) (hts _ hw.2.1) (hts _ hw.2.2.1) (hts _ hw.2.2.2) hfr (by omega) (by omega) (by omega) hd k3
theorem zo_mmin (C : zCx p s m c args cc nL own D cA ro b w0) {ix : Nat} {x y : Int} (hw : Cond.methodLink own ix Lib.Math.min.name ∈ zgt ∧ Cond.static Lib.Math.min.name ∈ zgt ∧ Cond.initialized "java/lang/Math" ∈ zgt ∧ Cond.code Lib.Math.min.name Lib.Math.min.code 2 (some .int) ∈ zgt) (hR : mcT ≤ R.cells ∧ msT ≤ R.slots) (hfr : 1 ≤ R.frames) (hlo : 21 ≤ R.locals) (hsh : zsh st = true) (hd : decode cc pc = .ok (.invokestatic ix, 3)) (K : zG p l e R s m args below meth c Q D cA ro b w0 nL mcT msT (pc + 3) (ls, (0, if wr y < wr x then y else x) :: st, w, bc, bs)) : zG p l e R s m args below meth c Q D cA ro b w0 nL mcT msT pc (ls, (0, y) :: (0, x) :: st, w, bc, bs) := by
  intro n H locs ce sl la hH hS hn hl h1 h2
  change zHR D cA ro b w0 n w H at hH
  change ls.length = nL at hn
  change lv_has la nL (zlv ro b 0 ls) at hl
  change ce + bc ≤ mcT at h1
  change sl + bs ≤ msT at h2
  obtain ⟨hx, hb, hml, hown, hts, hK, hNst, hAO, hSt, hRo, hW0⟩ := C
  have hs := zsh_sum ro b hsh
  have k3 := K n H locs ce sl la hH hS hn hl h1 h2
  rw [List.map_cons, zval_0, zmin_eq] at k3
  exact va_mmin hx hb (by rw [hml]; exact hl.1.symm) hown (hts _ hw.1) (hts _ hw.2.1) (hts _ hw.2.2.1) (hts _ hw.2.2.2) hfr (by omega) (by omega) (by omega) hd k3
end
