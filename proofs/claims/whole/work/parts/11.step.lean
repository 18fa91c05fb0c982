/-- three cells more: an array of two arrays -/
theorem zHR.push3 {D : va_G} {cA : Nat → ClassId} {ro : Nat → Nat} {b : Nat} {w0 : zW} {n : Nat} {w : zW} {H F : Heap} (h : zHR D cA ro b w0 n w H) {c0 c1 : zC} (hz : F.size = H.size + 3) (ho : ∀ q : Nat, q < H.size → F[q]? = H[q]?) (hc0 : 20 ≤ c0.1 ∧ c0.1 ≤ 24 ∧ c0.2.1 < 2147483648) (hc1 : 20 ≤ c1.1 ∧ c1.1 ≤ 24 ∧ c1.2.1 < 2147483648)
    (hP0 : va_at D vwCl (b + n, zce cA ro b c0) F) (hP1 : va_at D vwCl (b + n + 1, zce cA ro b c1) F) (hP2 : va_at D vwCl (b + n + 2, zce cA ro b c1) F) :
    zHR D cA ro b w0 (n + 3) (zup (zup (zup (zup w (n + 10) c0) (n + 11) c1) (n + 12) c1) 0 (98, n + 3, fun _ => 0)) F := by
  obtain ⟨g1, g2, g3, g4, g5, g6⟩ := h
  generalize hW : zup (zup (zup (zup w (n + 10) c0) (n + 11) c1) (n + 12) c1) 0 (98, n + 3, fun _ => 0) = W'
  have e00 : W' 0 = (98, n + 3, fun _ => 0) := by rw [← hW]; unfold zup; rw [if_pos rfl]
  have e0 : W' (n + 10) = c0 := by rw [← hW]; unfold zup; rw [if_neg (by omega), if_neg (by omega), if_neg (by omega), if_pos rfl]
  have e1 : W' (n + 11) = c1 := by rw [← hW]; unfold zup; rw [if_neg (by omega), if_neg (by omega), if_pos rfl]
  have e2 : W' (n + 12) = c1 := by rw [← hW]; unfold zup; rw [if_neg (by omega), if_pos rfl]
  have e : ∀ q, q ≠ 0 → q ≠ n + 10 → q ≠ n + 11 → q ≠ n + 12 → W' q = w q := fun q q0 q1 q2 q3 => by rw [← hW]; unfold zup; rw [if_neg q0, if_neg q3, if_neg q2, if_neg q1]
  refine ⟨e00, by omega, fun q q1 q2 => by rw [e q (by omega) (by omega) (by omega) (by omega)]; exact g3 q q1 q2, fun q q1 => by rw [e q (by omega) (by omega) (by omega) (by omega)]; exact g4 q (by omega), fun q q1 q2 => ?_, ?_⟩
  · by_cases h0 : q = n + 10
    · subst h0; rw [e0]; exact Or.inr hc0
    · by_cases h1 : q = n + 11
      · subst h1; rw [e1]; exact Or.inr hc1
      · by_cases h2 : q = n + 12
        · subst h2; rw [e2]; exact Or.inr hc1
        · rw [e q (by omega) h0 h1 h2]; exact g5 q q1 (by omega)
  · intro k q hk
    unfold zws at hk
    rw [List.getElem?_map] at hk
    by_cases hkn : k < n + 3
    · rw [List.getElem?_range hkn] at hk
      cases hk
      show va_at D vwCl (b + k, zce cA ro b (W' (k + 10))) F
      by_cases h0 : k = n
      · subst h0; rw [e0]; exact hP0
      · by_cases h1 : k = n + 1
        · subst h1; rw [show n + 1 + 10 = n + 11 by omega, e1]; exact hP1
        · by_cases h2 : k = n + 2
          · subst h2; rw [show n + 2 + 10 = n + 12 by omega, e2]; exact hP2
          · rw [e _ (by omega) (by omega) (by omega) (by omega)]
            have h7 : (zws cA ro b n w)[k]? = some (b + k, zce cA ro b (w (k + 10))) := by
              unfold zws; rw [List.getElem?_map, List.getElem?_range (by omega)]; rfl
            exact (g6 k _ h7).kept (ho _ (by show b + k < H.size; omega))
    · rw [List.getElem?_eq_none (by simp; omega)] at hk
      cases hk
theorem zarrV_ext {c : ClassId} {N : Nat} {f g : Nat → Value} (h : ∀ j, j < N → f j = g j) : arrV c N f = arrV c N g := by
  unfold arrV
  have : (fun j : Fin N => f j.val) = fun j : Fin N => g j.val := funext fun j => h j.val j.isLt
  rw [this]
theorem zouter (c : ClassId) (h0 : Nat) : Jvm.Free.Multi.outerC c 2 h0 2 = arrV c 2 (fun j => .ref (h0 + 1 + j)) := by
  show (({ cls := c, slots := Array.replicate 2 .null, vm := .none } : Cell).setSlot 0 (.ref (h0 + 1 + 0))).setSlot 1 (.ref (h0 + 1 + 1)) = _
  rw [arrV_new, arrV_store, arrV_store]
  refine zarrV_ext fun j hj => ?_
  unfold updV
  by_cases h1 : j = 1
  · subst h1; rfl
  · have h2 : j = 0 := by omega
    subst h2; rfl
section
variable {p : Program} {l : Launch} {e : Env} {R : Room} {s : State} {m : MethodId} {args : Array Value} {below : List Frame} {meth : Method} {c : Code} {Q : State → Prop} {D : va_G} {cA : Nat → ClassId} {ro : Nat → Nat} {b : Nat} {w0 : zW} {nL mcT msT : Nat} {cc : ByteArray} {own : String} {pc : Nat} {ls st : List zV} {w : zW} {bc bs : Nat}
theorem zo_mna23 (C : zCx p s m c args cc nL own D cA ro b w0) {ix : Nat} {k nn : Int} (hR : mcT ≤ R.cells ∧ msT ≤ R.slots) (hcl : Cond.classLink own ix ("[" ++ (FieldType.array .int).toString) ∈ zgt) (ha : Cond.arrayClass .int ∈ zgt) (hnn : wr nn = 2) (hk : 0 ≤ wr k ∧ wr k ≤ 20000) (hb1 : 3 ≤ bc) (hb2 : 2 + 2 * zix k ≤ bs) (hd : decode cc pc = .ok (.multianewarray ix 2, 4)) (K : zG p l e R s m args below meth c Q D cA ro b w0 nL mcT msT (pc + 4) (ls, (2, (((w 0).2.1 + 10 : Nat) : Int)) :: st, (zup (zup (zup (zup w ((w 0).2.1 + 10) (23, 2, fun i => (((w 0).2.1 + 11 + i : Nat) : Int))) ((w 0).2.1 + 11) (23 - 3, zix k, fun _ => 0)) ((w 0).2.1 + 12) (23 - 3, zix k, fun _ => 0)) 0 (98, (w 0).2.1 + 3, fun _ => 0)), (bc - 3), (bs - (2 + 2 * zix k)))) : zG p l e R s m args below meth c Q D cA ro b w0 nL mcT msT pc (ls, (0, k) :: (0, nn) :: st, w, bc, bs) := by
  intro n H locs ce sl la hH hS hn hl h1 h2
  change zHR D cA ro b w0 n w H at hH
  change ls.length = nL at hn
  change lv_has la nL (zlv ro b 0 ls) at hl
  change ce + bc ≤ mcT at h1
  change sl + bs ≤ msT at h2
  obtain ⟨hx, hb, hml, hown, hts, hK, hNst, hAO, hSt, hRo, hW0⟩ := C
  have e0 : (w 0).2.1 = n := by rw [hH.1]
  rw [e0] at K
  have hz := hH.2.1
  have hzk : zix k ≤ 20000 := by unfold zix; omega
  have hzn : (Int32.ofInt nn).toNatClampNeg = 2 := by
    show (wr nn).toNat = 2
    rw [hnn]; rfl
  have hzk2 : (Int32.ofInt k).toNatClampNeg = zix k := rfl
  intro T hT Xs
  obtain ⟨vm₁, cA1, comp, hWm, fA, fC, hO, hI, X', step⟩ := Xs.multianewarray2F hx hown (hts _ hcl) (hAO.1) (hts _ ha) (g := F0 m pc la (.int (Int32.ofInt k) :: .int (Int32.ofInt nn) :: st.map (zval ro b))) rfl (by rw [hb]; exact hd) rfl (znneg (by omega)) (znneg hk.1) (by rw [hzn]; exact Nat.le_of_ble_eq_true rfl) (by rw [hzk2]; exact zmul8 hzk (by decide)) (by rw [hzk2]; exact Nat.le_trans hzk (Nat.le_of_ble_eq_true rfl)) (by decide +kernel) (by decide +kernel) (by rw [hzn]; omega) (by rw [hzn, hzk2]; omega)
  have ec : cA1 = cA 3 := Option.some.inj (fA.symm.trans (hK.2 3 (cA 3, .array .int) rfl).2)
  have ec2 : comp = cA 0 := Option.some.inj (fC.symm.trans (hK.2 0 (cA 0, .int) rfl).2)
  subst ec
  subst ec2
  rw [hzn, hzk2] at X' step
  generalize hF : Jvm.Free.Multi.fill (T.setVm vm₁) (cA 3) (cA 0) 2 (zix k) (defaultValue .int) 2 = F at X' step
  have hTh : (T.setVm vm₁).heap = H := hT
  obtain ⟨f1, f2, -, -⟩ := Jvm.Free.Multi.fill_facts (T.setVm vm₁) (cA 3) (cA 0) 2 (zix k) (defaultValue .int) 2
  rw [hF, hTh] at f1 f2
  have hold : ∀ x : Nat, x < H.size → F.heap[x]? = H[x]? := fun x hx => by
    have := Jvm.Free.Multi.fill_old (T.setVm vm₁) (cA 3) (cA 0) 2 (zix k) (defaultValue .int) (a := x) (by rw [hTh]; exact hx) 2
    rw [hF, hTh] at this
    exact this
  have hrow : ∀ j : Nat, j < 2 → F.heap[H.size + 1 + j]? = some (Jvm.Free.Multi.innerC (cA 0) (zix k) (defaultValue .int)) := fun j hj => by
    have := Jvm.Free.Multi.fill_inner (T.setVm vm₁) (cA 3) (cA 0) 2 (zix k) (defaultValue .int) 2 j hj
    rw [hF, hTh] at this
    exact this
  have hin : Jvm.Free.Multi.innerC (cA 0) (zix k) (defaultValue .int) = vp_cell (cA 0) (zix k, .inl (fun _ => Int32.ofInt 0)) := by
    rw [vp_cell_i]
    show ({ cls := _, slots := Array.replicate _ _, vm := .none } : Cell) = _
    rw [arrV_new]
    rfl
  rw [zouter] at f2
  have hHR := hH.push3 (F := F.heap) (c0 := (23, 2, fun i => ((n + 11 + i : Nat) : Int))) (c1 := (23 - 3, zix k, fun _ => 0)) (by omega) hold ⟨Nat.le_of_ble_eq_true rfl, Nat.le_of_ble_eq_true rfl, Nat.le_of_ble_eq_true rfl⟩ ⟨Nat.le_of_ble_eq_true rfl, Nat.le_of_ble_eq_true rfl, by show zix k < _; omega⟩ (by
    rw [zce_23 rfl]
    show F.heap[b + n]? = some (vp_cell _ _)
    rw [← hz, f2]
    show some (arrV (cA 3) 2 (fun j => Value.ref (H.size + 1 + j))) = some (arrV (cA 3) 2 (fun j => va_rf (zref ro b ((n + 11 + j : Nat) : Int))))
    refine congrArg some (zarrV_ext fun j hj => ?_)
    show Value.ref (H.size + 1 + j) = va_rf (zref ro b ((n + 11 + j : Nat) : Int))
    unfold zref
    rw [if_neg (by omega)]
    unfold zad
    rw [if_neg (by omega)]
    have e9 : H.size + 1 + j = b + (((n + 11 + j : Nat) : Int).toNat - 10) := by
      rw [Int.toNat_natCast, hz]
      omega
    exact congrArg Value.ref e9) (by
    rw [zce_20 rfl]
    show F.heap[b + n + 1]? = some (vp_cell _ _)
    rw [← hz]
    exact (hrow 0 (by omega)).trans (congrArg some hin)) (by
    rw [zce_20 rfl]
    show F.heap[b + n + 2]? = some (vp_cell _ _)
    rw [← hz]
    exact (hrow 1 (by omega)).trans (congrArg some hin))
  have k3 := K (n + 3) F.heap locs (ce + 1 + 2) (sl + 2 + 2 * zix k) la hHR (zS_push hS (k := 3) (by omega) hold) hn hl (by show ce + 1 + 2 + (bc - 3) ≤ mcT; omega) (by show sl + 2 + 2 * zix k + (bs - (2 + 2 * zix k)) ≤ msT; omega)
  have ea : zval ro b (2, ((n + 10 : Nat) : Int)) = .ref H.size := by
    rw [zval_r ro b (by omega)]
    unfold zad
    rw [if_neg (by omega), hz]
    congr 1
  rw [List.map_cons, ea] at k3
  obtain ⟨t, a1, b1⟩ := k3 F rfl X'
  refine ⟨t, step t ?_, b1⟩
  rw [hT]
  exact a1
theorem zo_mna24 (C : zCx p s m c args cc nL own D cA ro b w0) {ix : Nat} {k nn : Int} (hR : mcT ≤ R.cells ∧ msT ≤ R.slots) (hcl : Cond.classLink own ix ("[" ++ (FieldType.array .long).toString) ∈ zgt) (ha : Cond.arrayClass .long ∈ zgt) (hnn : wr nn = 2) (hk : 0 ≤ wr k ∧ wr k ≤ 20000) (hb1 : 3 ≤ bc) (hb2 : 2 + 2 * zix k ≤ bs) (hd : decode cc pc = .ok (.multianewarray ix 2, 4)) (K : zG p l e R s m args below meth c Q D cA ro b w0 nL mcT msT (pc + 4) (ls, (2, (((w 0).2.1 + 10 : Nat) : Int)) :: st, (zup (zup (zup (zup w ((w 0).2.1 + 10) (24, 2, fun i => (((w 0).2.1 + 11 + i : Nat) : Int))) ((w 0).2.1 + 11) (24 - 3, zix k, fun _ => 0)) ((w 0).2.1 + 12) (24 - 3, zix k, fun _ => 0)) 0 (98, (w 0).2.1 + 3, fun _ => 0)), (bc - 3), (bs - (2 + 2 * zix k)))) : zG p l e R s m args below meth c Q D cA ro b w0 nL mcT msT pc (ls, (0, k) :: (0, nn) :: st, w, bc, bs) := by
  intro n H locs ce sl la hH hS hn hl h1 h2
  change zHR D cA ro b w0 n w H at hH
  change ls.length = nL at hn
  change lv_has la nL (zlv ro b 0 ls) at hl
  change ce + bc ≤ mcT at h1
  change sl + bs ≤ msT at h2
  obtain ⟨hx, hb, hml, hown, hts, hK, hNst, hAO, hSt, hRo, hW0⟩ := C
  have e0 : (w 0).2.1 = n := by rw [hH.1]
  rw [e0] at K
  have hz := hH.2.1
  have hzk : zix k ≤ 20000 := by unfold zix; omega
  have hzn : (Int32.ofInt nn).toNatClampNeg = 2 := by
    show (wr nn).toNat = 2
    rw [hnn]; rfl
  have hzk2 : (Int32.ofInt k).toNatClampNeg = zix k := rfl
  intro T hT Xs
  obtain ⟨vm₁, cA1, comp, hWm, fA, fC, hO, hI, X', step⟩ := Xs.multianewarray2F hx hown (hts _ hcl) (hAO.2) (hts _ ha) (g := F0 m pc la (.int (Int32.ofInt k) :: .int (Int32.ofInt nn) :: st.map (zval ro b))) rfl (by rw [hb]; exact hd) rfl (znneg (by omega)) (znneg hk.1) (by rw [hzn]; exact Nat.le_of_ble_eq_true rfl) (by rw [hzk2]; exact zmul8 hzk (by decide)) (by rw [hzk2]; exact Nat.le_trans hzk (Nat.le_of_ble_eq_true rfl)) (by decide +kernel) (by decide +kernel) (by rw [hzn]; omega) (by rw [hzn, hzk2]; omega)
  have ec : cA1 = cA 4 := Option.some.inj (fA.symm.trans (hK.2 4 (cA 4, .array .long) rfl).2)
  have ec2 : comp = cA 1 := Option.some.inj (fC.symm.trans (hK.2 1 (cA 1, .long) rfl).2)
  subst ec
  subst ec2
  rw [hzn, hzk2] at X' step
  generalize hF : Jvm.Free.Multi.fill (T.setVm vm₁) (cA 4) (cA 1) 2 (zix k) (defaultValue .long) 2 = F at X' step
  have hTh : (T.setVm vm₁).heap = H := hT
  obtain ⟨f1, f2, -, -⟩ := Jvm.Free.Multi.fill_facts (T.setVm vm₁) (cA 4) (cA 1) 2 (zix k) (defaultValue .long) 2
  rw [hF, hTh] at f1 f2
  have hold : ∀ x : Nat, x < H.size → F.heap[x]? = H[x]? := fun x hx => by
    have := Jvm.Free.Multi.fill_old (T.setVm vm₁) (cA 4) (cA 1) 2 (zix k) (defaultValue .long) (a := x) (by rw [hTh]; exact hx) 2
    rw [hF, hTh] at this
    exact this
  have hrow : ∀ j : Nat, j < 2 → F.heap[H.size + 1 + j]? = some (Jvm.Free.Multi.innerC (cA 1) (zix k) (defaultValue .long)) := fun j hj => by
    have := Jvm.Free.Multi.fill_inner (T.setVm vm₁) (cA 4) (cA 1) 2 (zix k) (defaultValue .long) 2 j hj
    rw [hF, hTh] at this
    exact this
  have hin : Jvm.Free.Multi.innerC (cA 1) (zix k) (defaultValue .long) = vp_cell (cA 1) (zix k, .inr (.inl (fun _ => Int64.ofInt 0))) := by
    rw [vp_cell_l]
    show ({ cls := _, slots := Array.replicate _ _, vm := .none } : Cell) = _
    rw [arrV_new]
    rfl
  rw [zouter] at f2
  have hHR := hH.push3 (F := F.heap) (c0 := (24, 2, fun i => ((n + 11 + i : Nat) : Int))) (c1 := (24 - 3, zix k, fun _ => 0)) (by omega) hold ⟨Nat.le_of_ble_eq_true rfl, Nat.le_of_ble_eq_true rfl, Nat.le_of_ble_eq_true rfl⟩ ⟨Nat.le_of_ble_eq_true rfl, Nat.le_of_ble_eq_true rfl, by show zix k < _; omega⟩ (by
    rw [zce_24 rfl]
    show F.heap[b + n]? = some (vp_cell _ _)
    rw [← hz, f2]
    show some (arrV (cA 4) 2 (fun j => Value.ref (H.size + 1 + j))) = some (arrV (cA 4) 2 (fun j => va_rf (zref ro b ((n + 11 + j : Nat) : Int))))
    refine congrArg some (zarrV_ext fun j hj => ?_)
    show Value.ref (H.size + 1 + j) = va_rf (zref ro b ((n + 11 + j : Nat) : Int))
    unfold zref
    rw [if_neg (by omega)]
    unfold zad
    rw [if_neg (by omega)]
    have e9 : H.size + 1 + j = b + (((n + 11 + j : Nat) : Int).toNat - 10) := by
      rw [Int.toNat_natCast, hz]
      omega
    exact congrArg Value.ref e9) (by
    rw [zce_21 rfl]
    show F.heap[b + n + 1]? = some (vp_cell _ _)
    rw [← hz]
    exact (hrow 0 (by omega)).trans (congrArg some hin)) (by
    rw [zce_21 rfl]
    show F.heap[b + n + 2]? = some (vp_cell _ _)
    rw [← hz]
    exact (hrow 1 (by omega)).trans (congrArg some hin))
  have k3 := K (n + 3) F.heap locs (ce + 1 + 2) (sl + 2 + 2 * zix k) la hHR (zS_push hS (k := 3) (by omega) hold) hn hl (by show ce + 1 + 2 + (bc - 3) ≤ mcT; omega) (by show sl + 2 + 2 * zix k + (bs - (2 + 2 * zix k)) ≤ msT; omega)
  have ea : zval ro b (2, ((n + 10 : Nat) : Int)) = .ref H.size := by
    rw [zval_r ro b (by omega)]
    unfold zad
    rw [if_neg (by omega), hz]
    congr 1
  rw [List.map_cons, ea] at k3
  obtain ⟨t, a1, b1⟩ := k3 F rfl X'
  refine ⟨t, step t ?_, b1⟩
  rw [hT]
  exact a1
variable {X : zTabs} {M : zMe} {tp : Nat → Nat} {res : zR}
theorem zk_multianewarray {ix d : Nat} {i : zI} {len : Nat} (C : zCx p s m c args cc nL (zon M.1) D cA ro b w0) (hX : zTabsOk X) (hR : mcT ≤ R.cells ∧ msT ≤ R.slots) (hfr : M.2.2.2 ≤ R.frames) (hlo : 40 * M.2.2.2 + 40 ≤ R.locals) (hini : M.2.2.1 = true → meth.name = "<init>") (hRet : ∀ (pc : Nat) (ls : List zV) (vs : List zV) (w : zW) (bc bs : Nat), (vs, w) = res → ((M.2.1 = 0 ∧ vs = [] ∧ decode cc pc = .ok (.return_, 1)) ∨ (M.2.1 = 1 ∧ (∃ v, vs = [(0, v)]) ∧ decode cc pc = .ok (.ireturn, 1)) ∨ (M.2.1 = 2 ∧ (∃ v, vs = [(1, v)]) ∧ decode cc pc = .ok (.lreturn, 1)) ∨ (M.2.1 = 3 ∧ (∃ v, vs = [(0, v)] ∧ (v = 0 ∨ v = 1)) ∧ decode cc pc = .ok (.ireturn, 1))) → zG p l e R s m args below meth c Q D cA ro b w0 nL mcT msT pc (ls, vs, w, bc, bs)) (hd : decode cc pc = .ok (.multianewarray ix d, len)) (hk : zck X M tp pc (.multianewarray ix d) len i = true) (x : zS) : zSO p l e R s m args below meth c Q D cA ro b w0 nL mcT msT X.2.2.2.2.2.2.2.2 M.2.2.2 res tp pc len x (zstp i x) := by
  obtain ⟨ls, st, w, bc, bs⟩ := x
  simp only [zck, Bool.and_eq_true, decide_eq_true_iff, beq_iff_eq] at hk
  obtain ⟨⟨rfl, rfl⟩, hk⟩ := hk
  obtain ⟨en, he, hk⟩ := List.any_eq_true.mp hk
  simp only [Bool.and_eq_true, Bool.or_eq_true, decide_eq_true_iff, beq_iff_eq] at hk
  obtain ⟨⟨⟨h1, h2⟩, rfl⟩, hkk⟩ := hk
  obtain ⟨g1, g2⟩ := hX.2.2.2.2.1 en he
  rw [h1, h2] at g1 g2
  have ho := hX.2.2.2.2.2.2.2.2.1
  show zSO p l e R s m args below meth c Q D cA ro b w0 nL mcT msT X.2.2.2.2.2.2.2.2 M.2.2.2 res tp pc _ _ (zs29 en.2.2 (ls, st, w, bc, bs))
  unfold zs29
  split
  · rename_i heq
    cases heq
    split
    · rename_i hc
      obtain ⟨c1, c2, c3, c4, c5⟩ := hc
      rcases hkk with h | h
      · rw [h]
        exact fun K => zo_mna23 C hR (g1 h) ho.2.2.2.2.2.1 c1 ⟨c2, c3⟩ c4 c5 hd K
      · rw [h]
        exact fun K => zo_mna24 C hR (g2 h) ho.2.2.2.2.2.2.1 c1 ⟨c2, c3⟩ c4 c5 hd K
    · trivial
  · trivial
/-- each instruction that the check lets pass -/
theorem zk_step {i : zI} {len : Nat} {ji : Instr} (C : zCx p s m c args cc nL (zon M.1) D cA ro b w0) (hX : zTabsOk X) (hR : mcT ≤ R.cells ∧ msT ≤ R.slots) (hfr : M.2.2.2 ≤ R.frames) (hlo : 40 * M.2.2.2 + 40 ≤ R.locals) (hini : M.2.2.1 = true → meth.name = "<init>") (hRet : ∀ (pc : Nat) (ls : List zV) (vs : List zV) (w : zW) (bc bs : Nat), (vs, w) = res → ((M.2.1 = 0 ∧ vs = [] ∧ decode cc pc = .ok (.return_, 1)) ∨ (M.2.1 = 1 ∧ (∃ v, vs = [(0, v)]) ∧ decode cc pc = .ok (.ireturn, 1)) ∨ (M.2.1 = 2 ∧ (∃ v, vs = [(1, v)]) ∧ decode cc pc = .ok (.lreturn, 1)) ∨ (M.2.1 = 3 ∧ (∃ v, vs = [(0, v)] ∧ (v = 0 ∨ v = 1)) ∧ decode cc pc = .ok (.ireturn, 1))) → zG p l e R s m args below meth c Q D cA ro b w0 nL mcT msT pc (ls, vs, w, bc, bs)) (hd : decode cc pc = .ok (ji, len)) (hk : zck X M tp pc ji len i = true) (x : zS) : zSO p l e R s m args below meth c Q D cA ro b w0 nL mcT msT X.2.2.2.2.2.2.2.2 M.2.2.2 res tp pc len x (zstp i x) := by
  match ji, hd, hk with
  | .iconst k, hd, hk => exact zk_iconst C hX hR hfr hlo hini hRet hd hk x
  | .bipush k, hd, hk => exact zk_bipush C hX hR hfr hlo hini hRet hd hk x
  | .sipush k, hd, hk => exact zk_sipush C hX hR hfr hlo hini hRet hd hk x
  | .ldc ix, hd, hk => exact zk_ldc C hX hR hfr hlo hini hRet hd hk x
  | .ldc_w ix, hd, hk => exact zk_ldc_w C hX hR hfr hlo hini hRet hd hk x
  | .ldc2_w ix, hd, hk => exact zk_ldc2_w C hX hR hfr hlo hini hRet hd hk x
  | .lconst k, hd, hk => exact zk_lconst C hX hR hfr hlo hini hRet hd hk x
  | .iload k, hd, hk => exact zk_iload C hX hR hfr hlo hini hRet hd hk x
  | .iload_n k, hd, hk => exact zk_iload_n C hX hR hfr hlo hini hRet hd hk x
  | .lload k, hd, hk => exact zk_lload C hX hR hfr hlo hini hRet hd hk x
  | .lload_n k, hd, hk => exact zk_lload_n C hX hR hfr hlo hini hRet hd hk x
  | .aload k, hd, hk => exact zk_aload C hX hR hfr hlo hini hRet hd hk x
  | .aload_n k, hd, hk => exact zk_aload_n C hX hR hfr hlo hini hRet hd hk x
  | .istore k, hd, hk => exact zk_istore C hX hR hfr hlo hini hRet hd hk x
  | .istore_n k, hd, hk => exact zk_istore_n C hX hR hfr hlo hini hRet hd hk x
  | .astore k, hd, hk => exact zk_astore C hX hR hfr hlo hini hRet hd hk x
  | .astore_n k, hd, hk => exact zk_astore_n C hX hR hfr hlo hini hRet hd hk x
  | .lstore k, hd, hk => exact zk_lstore C hX hR hfr hlo hini hRet hd hk x
  | .lstore_n k, hd, hk => exact zk_lstore_n C hX hR hfr hlo hini hRet hd hk x
  | .iinc k v, hd, hk => exact zk_iinc C hX hR hfr hlo hini hRet hd hk x
  | .iadd, hd, hk => exact zk_iadd C hX hR hfr hlo hini hRet hd hk x
  | .isub, hd, hk => exact zk_isub C hX hR hfr hlo hini hRet hd hk x
  | .imul, hd, hk => exact zk_imul C hX hR hfr hlo hini hRet hd hk x
  | .iand, hd, hk => exact zk_iand C hX hR hfr hlo hini hRet hd hk x
  | .ior, hd, hk => exact zk_ior C hX hR hfr hlo hini hRet hd hk x
  | .ixor, hd, hk => exact zk_ixor C hX hR hfr hlo hini hRet hd hk x
  | .ishl, hd, hk => exact zk_ishl C hX hR hfr hlo hini hRet hd hk x
  | .ishr, hd, hk => exact zk_ishr C hX hR hfr hlo hini hRet hd hk x
  | .iushr, hd, hk => exact zk_iushr C hX hR hfr hlo hini hRet hd hk x
  | .idiv, hd, hk => exact zk_idiv C hX hR hfr hlo hini hRet hd hk x
  | .irem, hd, hk => exact zk_irem C hX hR hfr hlo hini hRet hd hk x
  | .ineg, hd, hk => exact zk_ineg C hX hR hfr hlo hini hRet hd hk x
  | .ladd, hd, hk => exact zk_ladd C hX hR hfr hlo hini hRet hd hk x
  | .lsub, hd, hk => exact zk_lsub C hX hR hfr hlo hini hRet hd hk x
  | .lmul, hd, hk => exact zk_lmul C hX hR hfr hlo hini hRet hd hk x
  | .land, hd, hk => exact zk_land C hX hR hfr hlo hini hRet hd hk x
  | .lor, hd, hk => exact zk_lor C hX hR hfr hlo hini hRet hd hk x
  | .ldiv, hd, hk => exact zk_ldiv C hX hR hfr hlo hini hRet hd hk x
  | .lrem, hd, hk => exact zk_lrem C hX hR hfr hlo hini hRet hd hk x
  | .lshl, hd, hk => exact zk_lshl C hX hR hfr hlo hini hRet hd hk x
  | .lushr, hd, hk => exact zk_lushr C hX hR hfr hlo hini hRet hd hk x
  | .lcmp, hd, hk => exact zk_lcmp C hX hR hfr hlo hini hRet hd hk x
  | .i2l, hd, hk => exact zk_i2l C hX hR hfr hlo hini hRet hd hk x
  | .l2i, hd, hk => exact zk_l2i C hX hR hfr hlo hini hRet hd hk x
  | .i2b, hd, hk => exact zk_i2b C hX hR hfr hlo hini hRet hd hk x
  | .dup, hd, hk => exact zk_dup C hX hR hfr hlo hini hRet hd hk x
  | .dup2, hd, hk => exact zk_dup2 C hX hR hfr hlo hini hRet hd hk x
  | .pop, hd, hk => exact zk_pop C hX hR hfr hlo hini hRet hd hk x
  | .iaload, hd, hk => exact zk_iaload C hX hR hfr hlo hini hRet hd hk x
  | .laload, hd, hk => exact zk_laload C hX hR hfr hlo hini hRet hd hk x
  | .baload, hd, hk => exact zk_baload C hX hR hfr hlo hini hRet hd hk x
  | .iastore, hd, hk => exact zk_iastore C hX hR hfr hlo hini hRet hd hk x
  | .lastore, hd, hk => exact zk_lastore C hX hR hfr hlo hini hRet hd hk x
  | .bastore, hd, hk => exact zk_bastore C hX hR hfr hlo hini hRet hd hk x
  | .arraylength, hd, hk => exact zk_arraylength C hX hR hfr hlo hini hRet hd hk x
  | .aaload, hd, hk => exact zk_aaload C hX hR hfr hlo hini hRet hd hk x
  | .ifCond .eq off, hd, hk => exact zk_ifCond__eq C hX hR hfr hlo hini hRet hd hk x
  | .if_icmp .eq off, hd, hk => exact zk_if_icmp__eq C hX hR hfr hlo hini hRet hd hk x
  | .ifCond .ne off, hd, hk => exact zk_ifCond__ne C hX hR hfr hlo hini hRet hd hk x
  | .if_icmp .ne off, hd, hk => exact zk_if_icmp__ne C hX hR hfr hlo hini hRet hd hk x
  | .ifCond .lt off, hd, hk => exact zk_ifCond__lt C hX hR hfr hlo hini hRet hd hk x
  | .if_icmp .lt off, hd, hk => exact zk_if_icmp__lt C hX hR hfr hlo hini hRet hd hk x
  | .ifCond .ge off, hd, hk => exact zk_ifCond__ge C hX hR hfr hlo hini hRet hd hk x
  | .if_icmp .ge off, hd, hk => exact zk_if_icmp__ge C hX hR hfr hlo hini hRet hd hk x
  | .ifCond .gt off, hd, hk => exact zk_ifCond__gt C hX hR hfr hlo hini hRet hd hk x
  | .if_icmp .gt off, hd, hk => exact zk_if_icmp__gt C hX hR hfr hlo hini hRet hd hk x
  | .ifCond .le off, hd, hk => exact zk_ifCond__le C hX hR hfr hlo hini hRet hd hk x
  | .if_icmp .le off, hd, hk => exact zk_if_icmp__le C hX hR hfr hlo hini hRet hd hk x
  | .goto off, hd, hk => exact zk_goto C hX hR hfr hlo hini hRet hd hk x
  | .tableswitch dflt lo hi offs, hd, hk => exact zk_tableswitch C hX hR hfr hlo hini hRet hd hk x
  | .lookupswitch dflt ps, hd, hk => exact zk_lookupswitch C hX hR hfr hlo hini hRet hd hk x
  | .return_, hd, hk => exact zk_return_ C hX hR hfr hlo hini hRet hd hk x
  | .ireturn, hd, hk => exact zk_ireturn C hX hR hfr hlo hini hRet hd hk x
  | .lreturn, hd, hk => exact zk_lreturn C hX hR hfr hlo hini hRet hd hk x
  | .getfield ix, hd, hk => exact zk_getfield C hX hR hfr hlo hini hRet hd hk x
  | .putfield ix, hd, hk => exact zk_putfield C hX hR hfr hlo hini hRet hd hk x
  | .getstatic ix, hd, hk => exact zk_getstatic C hX hR hfr hlo hini hRet hd hk x
  | .new ix, hd, hk => exact zk_new C hX hR hfr hlo hini hRet hd hk x
  | .newarray .int, hd, hk => exact zk_newarray__int C hX hR hfr hlo hini hRet hd hk x
  | .newarray .long, hd, hk => exact zk_newarray__long C hX hR hfr hlo hini hRet hd hk x
  | .newarray .byte, hd, hk => exact zk_newarray__byte C hX hR hfr hlo hini hRet hd hk x
  | .invokespecial ix, hd, hk => exact zk_invokespecial C hX hR hfr hlo hini hRet hd hk x
  | .invokevirtual ix, hd, hk => exact zk_invokevirtual C hX hR hfr hlo hini hRet hd hk x
  | .invokestatic ix, hd, hk => exact zk_invokestatic C hX hR hfr hlo hini hRet hd hk x
  | .multianewarray ix d, hd, hk => exact zk_multianewarray C hX hR hfr hlo hini hRet hd hk x
  | .aastore, hd, hk => cases hk
  | .aconst_null, hd, hk => cases hk
  | .areturn, hd, hk => cases hk
  | .athrow, hd, hk => cases hk
  | .caload, hd, hk => cases hk
  | .castore, hd, hk => cases hk
  | .daload, hd, hk => cases hk
  | .dastore, hd, hk => cases hk
  | .dadd, hd, hk => cases hk
  | .ddiv, hd, hk => cases hk
  | .dmul, hd, hk => cases hk
  | .dneg, hd, hk => cases hk
  | .drem, hd, hk => cases hk
  | .dreturn, hd, hk => cases hk
  | .dsub, hd, hk => cases hk
  | .d2f, hd, hk => cases hk
  | .d2i, hd, hk => cases hk
  | .d2l, hd, hk => cases hk
  | .dup_x1, hd, hk => cases hk
  | .dup_x2, hd, hk => cases hk
  | .dup2_x1, hd, hk => cases hk
  | .dup2_x2, hd, hk => cases hk
  | .f2d, hd, hk => cases hk
  | .f2i, hd, hk => cases hk
  | .f2l, hd, hk => cases hk
  | .fadd, hd, hk => cases hk
  | .faload, hd, hk => cases hk
  | .fastore, hd, hk => cases hk
  | .fdiv, hd, hk => cases hk
  | .fmul, hd, hk => cases hk
  | .fneg, hd, hk => cases hk
  | .frem, hd, hk => cases hk
  | .freturn, hd, hk => cases hk
  | .fsub, hd, hk => cases hk
  | .i2c, hd, hk => cases hk
  | .i2d, hd, hk => cases hk
  | .i2f, hd, hk => cases hk
  | .i2s, hd, hk => cases hk
  | .l2d, hd, hk => cases hk
  | .l2f, hd, hk => cases hk
  | .lneg, hd, hk => cases hk
  | .lshr, hd, hk => cases hk
  | .lxor, hd, hk => cases hk
  | .monitorenter, hd, hk => cases hk
  | .monitorexit, hd, hk => cases hk
  | .nop, hd, hk => cases hk
  | .pop2, hd, hk => cases hk
  | .saload, hd, hk => cases hk
  | .sastore, hd, hk => cases hk
  | .swap, hd, hk => cases hk
  | .anewarray _, hd, hk => cases hk
  | .checkcast _, hd, hk => cases hk
  | .dcmp _, hd, hk => cases hk
  | .dconst _, hd, hk => cases hk
  | .dload _, hd, hk => cases hk
  | .dload_n _, hd, hk => cases hk
  | .dstore _, hd, hk => cases hk
  | .dstore_n _, hd, hk => cases hk
  | .fcmp _, hd, hk => cases hk
  | .fconst _, hd, hk => cases hk
  | .fload _, hd, hk => cases hk
  | .fload_n _, hd, hk => cases hk
  | .fstore _, hd, hk => cases hk
  | .fstore_n _, hd, hk => cases hk
  | .goto_w _, hd, hk => cases hk
  | .if_acmp _ _, hd, hk => cases hk
  | .ifnonnull _, hd, hk => cases hk
  | .ifnull _, hd, hk => cases hk
  | .instanceof _, hd, hk => cases hk
  | .invokedynamic _, hd, hk => cases hk
  | .invokeinterface _ _, hd, hk => cases hk
  | .jsr _, hd, hk => cases hk
  | .jsr_w _, hd, hk => cases hk
end
