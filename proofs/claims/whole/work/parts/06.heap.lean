/-- a field's link in a method's own table of constants: of its own, or of a nest mate's -/
def zFl (own : String) (ix ci k : Nat) (r : vw_C) : Prop := vwCl[ci]? = some r ∧ k < r.2.2 ∧ (r.2.1 k).1 = r.1 ∧ (Cond.fieldLink own ix r.1 (r.2.1 k).2.1 (r.2.1 k).2.2.1 ∈ zgt ∨ ∃ host, Cond.fieldLinkNest own ix r.1 (r.2.1 k).2.1 (r.2.1 k).2.2.1 host ∈ lw_tbl.filter zIsNest)
theorem zce_obj {cA : Nat → ClassId} {ro : Nat → Nat} {b : Nat} {c : zC} (h : c.1 < 13) : zce cA ro b c = .inr (c.1, (List.range c.2.1).map (fun k => zval ro b (ztg (zTy c.1 k), c.2.2 k))) := by
  unfold zce
  rw [if_neg (by omega), if_neg (by omega), if_neg (by omega), if_neg (by omega), if_neg (by omega)]
theorem zce_20 {cA : Nat → ClassId} {ro : Nat → Nat} {b : Nat} {c : zC} (h : c.1 = 20) : zce cA ro b c = .inl (cA 0, c.2.1, .inl (fun k => Int32.ofInt (c.2.2 k))) := by
  unfold zce
  rw [if_pos h]
theorem zce_21 {cA : Nat → ClassId} {ro : Nat → Nat} {b : Nat} {c : zC} (h : c.1 = 21) : zce cA ro b c = .inl (cA 1, c.2.1, .inr (.inl (fun k => Int64.ofInt (c.2.2 k)))) := by
  unfold zce
  rw [if_neg (by omega), if_pos h]
theorem zce_22 {cA : Nat → ClassId} {ro : Nat → Nat} {b : Nat} {c : zC} (h : c.1 = 22) : zce cA ro b c = .inl (cA 2, c.2.1, .inl (fun k => Int32.ofInt (c.2.2 k))) := by
  unfold zce
  rw [if_neg (by omega), if_neg (by omega), if_pos h]
theorem zce_23 {cA : Nat → ClassId} {ro : Nat → Nat} {b : Nat} {c : zC} (h : c.1 = 23) : zce cA ro b c = .inl (cA 3, c.2.1, .inr (.inr (.inr (.inr (fun k => zref ro b (c.2.2 k)))))) := by
  unfold zce
  rw [if_neg (by omega), if_neg (by omega), if_neg (by omega), if_pos h]
theorem zce_24 {cA : Nat → ClassId} {ro : Nat → Nat} {b : Nat} {c : zC} (h : c.1 = 24) : zce cA ro b c = .inl (cA 4, c.2.1, .inr (.inr (.inr (.inr (fun k => zref ro b (c.2.2 k)))))) := by
  unfold zce
  rw [if_neg (by omega), if_neg (by omega), if_neg (by omega), if_neg (by omega), if_pos h]
theorem zin_vp {i : Int} {n : Nat} (h : zin i n) : vp_in (Int32.ofInt i) n := vp_in_iff.mpr h
theorem zupd {f : Nat → Int} {k : Nat} {v : Int} : upd (fun j => Int32.ofInt (f j)) k (Int32.ofInt v) = fun j => Int32.ofInt (zfu f k v j) := by
  funext j
  unfold upd zfu
  split <;> rfl
theorem zupdL {f : Nat → Int} {k : Nat} {v : Int} : vp_updL (fun j => Int64.ofInt (f j)) k (Int64.ofInt v) = fun j => Int64.ofInt (zfu f k v j) := by
  funext j
  unfold vp_updL zfu
  split <;> rfl
theorem zcpy {f g : Nat → Int} {a d n : Nat} : va_cpy (fun j => Int32.ofInt (f j)) (fun j => Int32.ofInt (g j)) a d n = fun j => Int32.ofInt (zcp f g a d n j) := by
  funext j
  unfold va_cpy zcp
  split <;> rfl
theorem zcpyL {f g : Nat → Int} {a d n : Nat} : va_cpy (fun j => Int64.ofInt (f j)) (fun j => Int64.ofInt (g j)) a d n = fun j => Int64.ofInt (zcp f g a d n j) := by
  funext j
  unfold va_cpy zcp
  split <;> rfl
theorem zobj_set {ro : Nat → Nat} {b ci N k : Nat} {f : Nat → Int} {v : Int} (hk : k < N) : ((List.range N).map (fun j => zval ro b (ztg (zTy ci j), f j))).set k (zval ro b (ztg (zTy ci k), v)) = (List.range N).map (fun j => zval ro b (ztg (zTy ci j), zfu f k v j)) := by
  apply List.ext_getElem?
  intro j
  by_cases hj : j < N
  · by_cases e : j = k
    · subst e
      rw [List.getElem?_set_self (by simp; exact hk), List.getElem?_map, List.getElem?_range hk]
      simp [zfu]
    · rw [List.getElem?_set_ne (Ne.symm e), List.getElem?_map, List.getElem?_map, List.getElem?_range hj]
      simp [zfu, e]
  · rw [List.getElem?_eq_none (by simp; omega), List.getElem?_eq_none (by simp; omega)]
theorem zHR.ro {D : va_G} {cA : Nat → ClassId} {ro : Nat → Nat} {b : Nat} {w0 : zW} {n : Nat} {w : zW} {H : Heap} (h : zHR D cA ro b w0 n w H) {r : Nat} (hk : (w r).1 = 30) : 1 ≤ r ∧ r < 10 ∧ w r = w0 r := by
  obtain ⟨h1, -, h3, h4, h5, -⟩ := h
  have r1 : 1 ≤ r := Nat.le_of_not_lt fun q => by
    have e : r = 0 := by omega
    subst e
    rw [h1] at hk
    exact absurd (show (98 : Nat) = 30 from hk) (by decide)
  have r2 : r < 10 := Nat.lt_of_not_le fun q => by
    by_cases hq : r < n + 10
    · rcases h5 r q hq with h | h
      · omega
      · omega
    · have := h4 r (by omega)
      omega
  exact ⟨r1, r2, h3 r r1 r2⟩
section
variable {p : Program} {l : Launch} {e : Env} {R : Room} {s : State} {m : MethodId} {args : Array Value} {below : List Frame} {meth : Method} {c : Code} {Q : State → Prop} {D : va_G} {cA : Nat → ClassId} {ro : Nat → Nat} {b : Nat} {w0 : zW} {nL mcT msT : Nat} {cc : ByteArray} {own : String} {pc : Nat} {ls st : List zV} {w : zW} {bc bs : Nat}
theorem zo_get (C : zCx p s m c args cc nL own D cA ro b w0) {ix ci k : Nat} {r : Int} {rr : vw_C} (hf : zFl own ix ci k rr) (hr : 0 ≤ r) (hw : ((w r.toNat).1 : Int) = (ci : Int)) (hd : decode cc pc = .ok (.getfield ix, 3)) (K : zG p l e R s m args below meth c Q D cA ro b w0 nL mcT msT (pc + 3) (ls, (ztg (zTy ci k), (w r.toNat).2.2 k) :: st, w, bc, bs)) : zG p l e R s m args below meth c Q D cA ro b w0 nL mcT msT pc (ls, (2, r) :: st, w, bc, bs) := by
  intro n H locs ce sl la hH hS hn hl h1 h2
  change zHR D cA ro b w0 n w H at hH
  change ls.length = nL at hn
  change lv_has la nL (zlv ro b 0 ls) at hl
  change ce + bc ≤ mcT at h1
  change sl + bs ≤ msT at h2
  obtain ⟨hx, hb, hml, hown, hts, hK, hNst, hAO, hSt, hRo, hW0⟩ := C
  obtain ⟨hc, hk, hself, hlink⟩ := hf
  have hw : (w r.toNat).1 = ci := by omega
  have hci : ci < 13 := by
    have h13 := (List.getElem?_eq_some_iff.mp hc).1
    exact h13
  obtain ⟨d1, d2⟩ := zHR.dom hH hW0 hw (by omega)
  have hg := zws_get (cA := cA) (ro := ro) (b := b) (w := w) d1 d2
  have hP := hH.2.2.2.2.2
  have hN : (w r.toNat).2.1 = rr.2.2 := by
    rcases hH.2.2.2.2.1 r.toNat d1 d2 with h | h
    · rw [h.2, hw, zNf_ok ci rr hc]
    · omega
  rw [zce_obj (by omega), hw] at hg
  have hv : ((List.range (w r.toNat).2.1).map (fun k => zval ro b (ztg (zTy ci k), (w r.toNat).2.2 k)))[k]? = some (zval ro b (ztg (zTy ci k), (w r.toNat).2.2 k)) := by
    rw [List.getElem?_map, List.getElem?_range (by omega)]
    rfl
  have ok := zcl_ok ci rr hc
  have k3 := K n H locs ce sl la hH hS hn hl h1 h2
  rw [List.map_cons, zval_r ro b hr]
  rcases hlink with h | ⟨host, h⟩
  · exact va_get hx hb hts ok.1 hown hK hP (r.toNat - 10) hg hc k hk (hts _ h) (fun x hx9 => by rw [hself] at hx9; exact hx9) hv hd k3
  · exact va_getN hx hb hts ok.1 hown hK hP (r.toNat - 10) hg hc k hk (va_Nw.use rfl (hNst _ h)) (fun x hx9 => by rw [hself] at hx9; exact hx9) hv hd k3
/-- a value that a field of this type may hold -/
def zFit (ty : FieldType) (u : Nat) (x : Int) : Prop := u = ztg ty ∧ (ty = .int ∨ ty = .long ∨ (ty = .boolean ∧ (x = 0 ∨ x = 1)) ∨ ztg ty = 2)
theorem zFit_ok {ty : FieldType} {u : Nat} {x : Int} (h : zFit ty u x) : narrow ty (zval ro b (u, x)) = zval ro b (u, x) ∧ fits ty (zval ro b (u, x)) = true := by
  obtain ⟨rfl, h⟩ := h
  rcases h with rfl | rfl | ⟨rfl, hx⟩ | h
  · exact ⟨rfl, rfl⟩
  · exact ⟨rfl, rfl⟩
  · rcases hx with rfl | rfl
    · exact ⟨by show narrow FieldType.boolean (.int (Int32.ofInt _)) = .int (Int32.ofInt _); decide +kernel, by show fits FieldType.boolean (.int (Int32.ofInt _)) = true; decide +kernel⟩
    · exact ⟨by show narrow FieldType.boolean (.int (Int32.ofInt _)) = .int (Int32.ofInt _); decide +kernel, by show fits FieldType.boolean (.int (Int32.ofInt _)) = true; decide +kernel⟩
  · have key : ∀ v : Value, (v = .null ∨ ∃ a, v = .ref a) → narrow ty v = v ∧ fits ty v = true := by
      intro v hv
      cases ty <;> first | (simp [ztg] at h; done) | (rcases hv with rfl | ⟨a, rfl⟩ <;> exact ⟨rfl, rfl⟩)
    rw [h]
    refine key _ ?_
    by_cases h0 : 0 ≤ x
    · rw [zval_r ro b h0]; exact Or.inr ⟨_, rfl⟩
    · rw [zval_n ro b h0]; exact Or.inl rfl
theorem zo_put (C : zCx p s m c args cc nL own D cA ro b w0) {ix ci k u : Nat} {r x : Int} {rr : vw_C} (hf : zFl own ix ci k rr) (hfin : (rr.2.1 k).2.2.2 = false) (hr : 0 ≤ r) (hw : ((w r.toNat).1 : Int) = (ci : Int)) (hv : zFit (zTy ci k) u x) (hd : decode cc pc = .ok (.putfield ix, 3)) (K : zG p l e R s m args below meth c Q D cA ro b w0 nL mcT msT (pc + 3) (ls, st, (zup w r.toNat ((w r.toNat).1, (w r.toNat).2.1, zfu (w r.toNat).2.2 k x)), bc, bs)) : zG p l e R s m args below meth c Q D cA ro b w0 nL mcT msT pc (ls, (u, x) :: (2, r) :: st, w, bc, bs) := by
  intro n H locs ce sl la hH hS hn hl h1 h2
  change zHR D cA ro b w0 n w H at hH
  change ls.length = nL at hn
  change lv_has la nL (zlv ro b 0 ls) at hl
  change ce + bc ≤ mcT at h1
  change sl + bs ≤ msT at h2
  obtain ⟨hx, hb, hml, hown, hts, hK, hNst, hAO, hSt, hRo, hW0⟩ := C
  obtain ⟨hc, hk, hself, hlink⟩ := hf
  have hw : (w r.toNat).1 = ci := by omega
  have hci : ci < 13 := by
    have h13 := (List.getElem?_eq_some_iff.mp hc).1
    exact h13
  obtain ⟨d1, d2⟩ := zHR.dom hH hW0 hw (by omega)
  have hg := zws_get (cA := cA) (ro := ro) (b := b) (w := w) d1 d2
  have hP := hH.2.2.2.2.2
  have hN : (w r.toNat).2.1 = rr.2.2 := by
    rcases hH.2.2.2.2.1 r.toNat d1 d2 with h | h
    · rw [h.2, hw, zNf_ok ci rr hc]
    · omega
  rw [zce_obj (by omega), hw] at hg
  have ok := zcl_ok ci rr hc
  have hK0 := hK
  obtain ⟨r1, q0, cell, q1, q2, q3, q4⟩ := hP _ _ hg
  have hr1 : r1 = rr := Option.some.inj (q0.symm.trans hc)
  subst hr1
  obtain ⟨hSl, hfc, kC, hkC, hkind⟩ := hK.1 ci _ hc
  obtain ⟨cf, kf, fi, f, hi, hsl⟩ := hSl k hk
  have hap := va_apart (own := own) hts ok.1 (zTy ci) ok.2.2 ok.2.1 hK0 hc
  have hlay := hts _ (ok.1 _ (u_in_lay hk))
  unfold u_lay at hlay
  have hst := (u_facts hfc hkC (u_lays hts ok.1 hk) hi).1
  rw [if_neg (by rw [hfin]; decide)] at hlay
  obtain ⟨fn, ff⟩ := zFit_ok (ro := ro) (b := b) hv
  obtain ⟨rfl, -⟩ := hv
  have h6 := u_store hfc hkC hkind hlay hi (ok.2.2 k hk) fn ff
  rw [List.map_cons, List.map_cons, zval_r ro b hr]
  have hsame : s.fieldFound? r1.1 (r1.2.1 k).2.1 (r1.2.1 k).2.2.1 = some (cf, kf, fi, f) := by rw [hself] at hi; exact hi
  rcases hlink with h | ⟨host, h⟩
  · refine W.putK hx hb (f := f) ⟨hown, hts _ h, ⟨_, _, _, hsame⟩, hst⟩ (by rw [q2]; exact h6) q1 q3 (by rw [hsl]; exact k2_hasslot (q4 k hk)) rfl rfl hd fun H' e1 e2 e3 => ?_
    rw [hsl] at e1 ⊢
    refine K n H' _ ce sl la ?_ (hS.put e2 e3 (by show b ≤ zad ro b r.toNat; unfold zad; rw [if_neg (by omega)]; omega)) hn hl h1 h2
    refine zHR.set hH d1 d2 e2 (hP.set zws_D (zws_get d1 d2) ?_ e3)
    rw [zce_obj (by show (w r.toNat).1 < 13; omega)]
    show va_at D vwCl (zad ro b r.toNat, .inr ((w r.toNat).1, (List.range (w r.toNat).2.1).map (fun j => zval ro b (ztg (zTy (w r.toNat).1 j), zfu (w r.toNat).2.2 k x j)))) H'
    rw [hw, ← zobj_set (by omega)]
    exact ⟨_, hc, t_OB.to (V := updV (vp_V ((List.range (w r.toNat).2.1).map (fun k => zval ro b (ztg (zTy ci k), (w r.toNat).2.2 k)))) k (zval ro b (ztg (zTy ci k), x))) ⟨_, e1, q2, q3, t_set q4 hap hk _⟩ (fun j _ => vp_updV_set (by simp; omega) _ j)⟩
  · refine va_WputK hx hb (f := f) hown (va_Nw.use rfl (hNst _ h)) hsame hst (by rw [q2]; exact h6) q1 q3 (by rw [hsl]; exact k2_hasslot (q4 k hk)) rfl rfl hd fun H' e1 e2 e3 => ?_
    rw [hsl] at e1 ⊢
    refine K n H' _ ce sl la ?_ (hS.put e2 e3 (by show b ≤ zad ro b r.toNat; unfold zad; rw [if_neg (by omega)]; omega)) hn hl h1 h2
    refine zHR.set hH d1 d2 e2 (hP.set zws_D (zws_get d1 d2) ?_ e3)
    rw [zce_obj (by show (w r.toNat).1 < 13; omega)]
    show va_at D vwCl (zad ro b r.toNat, .inr ((w r.toNat).1, (List.range (w r.toNat).2.1).map (fun j => zval ro b (ztg (zTy (w r.toNat).1 j), zfu (w r.toNat).2.2 k x j)))) H'
    rw [hw, ← zobj_set (by omega)]
    exact ⟨_, hc, t_OB.to (V := updV (vp_V ((List.range (w r.toNat).2.1).map (fun k => zval ro b (ztg (zTy ci k), (w r.toNat).2.2 k)))) k (zval ro b (ztg (zTy ci k), x))) ⟨_, e1, q2, q3, t_set q4 hap hk _⟩ (fun j _ => vp_updV_set (by simp; omega) _ j)⟩
theorem zo_putF (C : zCx p s m c args cc nL own D cA ro b w0) {ix ci k u : Nat} {r x : Int} {rr : vw_C} (hf : zFl own ix ci k rr) (hfl : Cond.fieldLink own ix rr.1 (rr.2.1 k).2.1 (rr.2.1 k).2.2.1 ∈ zgt) (hfin : (rr.2.1 k).2.2.2 = true) (hin : meth.name = "<init>") (hdecl : rr.1 = own) (hr : 0 ≤ r) (hw : ((w r.toNat).1 : Int) = (ci : Int)) (hv : zFit (zTy ci k) u x) (hd : decode cc pc = .ok (.putfield ix, 3)) (K : zG p l e R s m args below meth c Q D cA ro b w0 nL mcT msT (pc + 3) (ls, st, (zup w r.toNat ((w r.toNat).1, (w r.toNat).2.1, zfu (w r.toNat).2.2 k x)), bc, bs)) : zG p l e R s m args below meth c Q D cA ro b w0 nL mcT msT pc (ls, (u, x) :: (2, r) :: st, w, bc, bs) := by
  intro n H locs ce sl la hH hS hn hl h1 h2
  change zHR D cA ro b w0 n w H at hH
  change ls.length = nL at hn
  change lv_has la nL (zlv ro b 0 ls) at hl
  change ce + bc ≤ mcT at h1
  change sl + bs ≤ msT at h2
  obtain ⟨hx, hb, hml, hown, hts, hK, hNst, hAO, hSt, hRo, hW0⟩ := C
  obtain ⟨hc, hk, hself, hlink⟩ := hf
  have hw : (w r.toNat).1 = ci := by omega
  have hci : ci < 13 := by
    have h13 := (List.getElem?_eq_some_iff.mp hc).1
    exact h13
  obtain ⟨d1, d2⟩ := zHR.dom hH hW0 hw (by omega)
  have hg := zws_get (cA := cA) (ro := ro) (b := b) (w := w) d1 d2
  have hP := hH.2.2.2.2.2
  have hN : (w r.toNat).2.1 = rr.2.2 := by
    rcases hH.2.2.2.2.1 r.toNat d1 d2 with h | h
    · rw [h.2, hw, zNf_ok ci rr hc]
    · omega
  rw [zce_obj (by omega), hw] at hg
  have ok := zcl_ok ci rr hc
  have hK0 := hK
  obtain ⟨r1, q0, cell, q1, q2, q3, q4⟩ := hP _ _ hg
  have hr1 : r1 = rr := Option.some.inj (q0.symm.trans hc)
  subst hr1
  obtain ⟨hSl, hfc, kC, hkC, hkind⟩ := hK.1 ci _ hc
  obtain ⟨cf, kf, fi, f, hi, hsl⟩ := hSl k hk
  have hap := va_apart (own := own) hts ok.1 (zTy ci) ok.2.2 ok.2.1 hK0 hc
  have hlay := hts _ (ok.1 _ (u_in_lay hk))
  unfold u_lay at hlay
  have hst := (u_facts hfc hkC (u_lays hts ok.1 hk) hi).1
  rw [if_pos hfin] at hlay
  obtain ⟨fn, ff⟩ := zFit_ok (ro := ro) (b := b) hv
  obtain ⟨rfl, -⟩ := hv
  have hcf : m.cls = cf := by
    obtain ⟨_, _, c', _, _, _, -, -, hf', -, -, -, hown2, -⟩ := Cond.laysFinal_spec hlay
    have e1 : c' = cf := by have := hi.symm.trans hf'; simp at this; exact this.1.symm
    rw [hself, hdecl] at hown2
    rw [← e1]; exact Option.some.inj (hown.symm.trans hown2)
  have h6 := u_fits hfc hkC hkind (Or.inr hlay) hi (ok.2.2 k hk) fn ff
  rw [List.map_cons, List.map_cons, zval_r ro b hr]
  have hsame : s.fieldFound? r1.1 (r1.2.1 k).2.1 (r1.2.1 k).2.2.1 = some (cf, kf, fi, f) := by rw [hself] at hi; exact hi
  refine W.putFinK hx hb hown (hts _ hfl) hsame hst hcf hin (by rw [q2]; exact h6) q1 q3 (by rw [hsl]; exact k2_hasslot (q4 k hk)) rfl rfl hd fun H' e1 e2 e3 => ?_
  rw [hsl] at e1 ⊢
  refine K n H' _ ce sl la ?_ (hS.put e2 e3 (by show b ≤ zad ro b r.toNat; unfold zad; rw [if_neg (by omega)]; omega)) hn hl h1 h2
  refine zHR.set hH d1 d2 e2 (hP.set zws_D (zws_get d1 d2) ?_ e3)
  rw [zce_obj (by show (w r.toNat).1 < 13; omega)]
  show va_at D vwCl (zad ro b r.toNat, .inr ((w r.toNat).1, (List.range (w r.toNat).2.1).map (fun j => zval ro b (ztg (zTy (w r.toNat).1 j), zfu (w r.toNat).2.2 k x j)))) H'
  rw [hw, ← zobj_set (by omega)]
  exact ⟨_, hc, t_OB.to (V := updV (vp_V ((List.range (w r.toNat).2.1).map (fun k => zval ro b (ztg (zTy ci k), (w r.toNat).2.2 k)))) k (zval ro b (ztg (zTy ci k), x))) ⟨_, e1, q2, q3, t_set q4 hap hk _⟩ (fun j _ => vp_updV_set (by simp; omega) _ j)⟩
theorem zo_gets1 (C : zCx p s m c args cc nL own D cA ro b w0) {ix : Nat} (hf : Cond.fieldLink own ix "WordLinks$Matcher" "TAKEN_0" "[I" ∈ zgt) (hd : decode cc pc = .ok (.getstatic ix, 3)) (K : zG p l e R s m args below meth c Q D cA ro b w0 nL mcT msT (pc + 3) (ls, (2, ((1 : Nat) : Int)) :: st, w, bc, bs)) : zG p l e R s m args below meth c Q D cA ro b w0 nL mcT msT pc (ls, st, w, bc, bs) := by
  intro n H locs ce sl la hH hS hn hl h1 h2
  change zHR D cA ro b w0 n w H at hH
  change ls.length = nL at hn
  change lv_has la nL (zlv ro b 0 ls) at hl
  change ce + bc ≤ mcT at h1
  change sl + bs ≤ msT at h2
  obtain ⟨hx, hb, hml, hown, hts, hK, hNst, hAO, hSt, hRo, hW0⟩ := C
  exact va_gets hx hb hSt.1 hS hown (hts _ hf) (fun _ h => h) hd (K n H locs ce sl la hH hS hn hl h1 h2)
theorem zo_gets2 (C : zCx p s m c args cc nL own D cA ro b w0) {ix : Nat} (hf : Cond.fieldLink own ix "WordLinks$Matcher" "TAKEN_1" "[I" ∈ zgt) (hd : decode cc pc = .ok (.getstatic ix, 3)) (K : zG p l e R s m args below meth c Q D cA ro b w0 nL mcT msT (pc + 3) (ls, (2, ((2 : Nat) : Int)) :: st, w, bc, bs)) : zG p l e R s m args below meth c Q D cA ro b w0 nL mcT msT pc (ls, st, w, bc, bs) := by
  intro n H locs ce sl la hH hS hn hl h1 h2
  change zHR D cA ro b w0 n w H at hH
  change ls.length = nL at hn
  change lv_has la nL (zlv ro b 0 ls) at hl
  change ce + bc ≤ mcT at h1
  change sl + bs ≤ msT at h2
  obtain ⟨hx, hb, hml, hown, hts, hK, hNst, hAO, hSt, hRo, hW0⟩ := C
  exact va_gets hx hb hSt.2.1 hS hown (hts _ hf) (fun _ h => h) hd (K n H locs ce sl la hH hS hn hl h1 h2)
theorem zo_gets3 (C : zCx p s m c args cc nL own D cA ro b w0) {ix : Nat} (hf : Cond.fieldLink own ix "WordLinks$Matcher" "KIND_COSTS" "[I" ∈ zgt) (hd : decode cc pc = .ok (.getstatic ix, 3)) (K : zG p l e R s m args below meth c Q D cA ro b w0 nL mcT msT (pc + 3) (ls, (2, ((3 : Nat) : Int)) :: st, w, bc, bs)) : zG p l e R s m args below meth c Q D cA ro b w0 nL mcT msT pc (ls, st, w, bc, bs) := by
  intro n H locs ce sl la hH hS hn hl h1 h2
  change zHR D cA ro b w0 n w H at hH
  change ls.length = nL at hn
  change lv_has la nL (zlv ro b 0 ls) at hl
  change ce + bc ≤ mcT at h1
  change sl + bs ≤ msT at h2
  obtain ⟨hx, hb, hml, hown, hts, hK, hNst, hAO, hSt, hRo, hW0⟩ := C
  exact va_gets hx hb hSt.2.2 hS hown (hts _ hf) (fun _ h => h) hd (K n H locs ce sl la hH hS hn hl h1 h2)
theorem zo_iald (C : zCx p s m c args cc nL own D cA ro b w0) {i r : Int} (hr : 0 ≤ r) (hw : (w r.toNat).1 = 20) (hi : zin i (w r.toNat).2.1) (hd : decode cc pc = .ok (.iaload, 1)) (K : zG p l e R s m args below meth c Q D cA ro b w0 nL mcT msT (pc + 1) (ls, (0, (w r.toNat).2.2 (zix i)) :: st, w, bc, bs)) : zG p l e R s m args below meth c Q D cA ro b w0 nL mcT msT pc (ls, (0, i) :: (2, r) :: st, w, bc, bs) := by
  intro n H locs ce sl la hH hS hn hl h1 h2
  change zHR D cA ro b w0 n w H at hH
  change ls.length = nL at hn
  change lv_has la nL (zlv ro b 0 ls) at hl
  change ce + bc ≤ mcT at h1
  change sl + bs ≤ msT at h2
  obtain ⟨hx, hb, hml, hown, hts, hK, hNst, hAO, hSt, hRo, hW0⟩ := C
  obtain ⟨d1, d2⟩ := zHR.dom hH hW0 hw (by omega)
  have hg := zws_get (cA := cA) (ro := ro) (b := b) (w := w) d1 d2
  rw [zce_20 hw] at hg
  have k3 := K n H locs ce sl la hH hS hn hl h1 h2
  rw [List.map_cons, List.map_cons, zval_r ro b hr]
  exact va_iald hx hb hK hH.2.2.2.2.2 (r.toNat - 10) 0 hg rfl (zin_vp hi) hd k3
theorem zo_lald (C : zCx p s m c args cc nL own D cA ro b w0) {i r : Int} (hr : 0 ≤ r) (hw : (w r.toNat).1 = 21) (hi : zin i (w r.toNat).2.1) (hd : decode cc pc = .ok (.laload, 1)) (K : zG p l e R s m args below meth c Q D cA ro b w0 nL mcT msT (pc + 1) (ls, (1, (w r.toNat).2.2 (zix i)) :: st, w, bc, bs)) : zG p l e R s m args below meth c Q D cA ro b w0 nL mcT msT pc (ls, (0, i) :: (2, r) :: st, w, bc, bs) := by
  intro n H locs ce sl la hH hS hn hl h1 h2
  change zHR D cA ro b w0 n w H at hH
  change ls.length = nL at hn
  change lv_has la nL (zlv ro b 0 ls) at hl
  change ce + bc ≤ mcT at h1
  change sl + bs ≤ msT at h2
  obtain ⟨hx, hb, hml, hown, hts, hK, hNst, hAO, hSt, hRo, hW0⟩ := C
  obtain ⟨d1, d2⟩ := zHR.dom hH hW0 hw (by omega)
  have hg := zws_get (cA := cA) (ro := ro) (b := b) (w := w) d1 d2
  rw [zce_21 hw] at hg
  have k3 := K n H locs ce sl la hH hS hn hl h1 h2
  rw [List.map_cons, List.map_cons, zval_r ro b hr]
  exact va_lald hx hb hK hH.2.2.2.2.2 (r.toNat - 10) 1 hg rfl (zin_vp hi) hd k3
theorem zo_bald (C : zCx p s m c args cc nL own D cA ro b w0) {i r : Int} (hr : 0 ≤ r) (hw : (w r.toNat).1 = 22) (hi : zin i (w r.toNat).2.1) (hd : decode cc pc = .ok (.baload, 1)) (K : zG p l e R s m args below meth c Q D cA ro b w0 nL mcT msT (pc + 1) (ls, (0, (w r.toNat).2.2 (zix i)) :: st, w, bc, bs)) : zG p l e R s m args below meth c Q D cA ro b w0 nL mcT msT pc (ls, (0, i) :: (2, r) :: st, w, bc, bs) := by
  intro n H locs ce sl la hH hS hn hl h1 h2
  change zHR D cA ro b w0 n w H at hH
  change ls.length = nL at hn
  change lv_has la nL (zlv ro b 0 ls) at hl
  change ce + bc ≤ mcT at h1
  change sl + bs ≤ msT at h2
  obtain ⟨hx, hb, hml, hown, hts, hK, hNst, hAO, hSt, hRo, hW0⟩ := C
  obtain ⟨d1, d2⟩ := zHR.dom hH hW0 hw (by omega)
  have hg := zws_get (cA := cA) (ro := ro) (b := b) (w := w) d1 d2
  rw [zce_22 hw] at hg
  have k3 := K n H locs ce sl la hH hS hn hl h1 h2
  rw [List.map_cons, List.map_cons, zval_r ro b hr]
  exact va_bald hx hb hK hH.2.2.2.2.2 (r.toNat - 10) 2 hg rfl (zin_vp hi) hd k3
theorem zo_aald23 (C : zCx p s m c args cc nL own D cA ro b w0) {i r : Int} (hr : 0 ≤ r) (hw : (w r.toNat).1 = 23) (hi : zin i (w r.toNat).2.1) (hd : decode cc pc = .ok (.aaload, 1)) (K : zG p l e R s m args below meth c Q D cA ro b w0 nL mcT msT (pc + 1) (ls, (2, (w r.toNat).2.2 (zix i)) :: st, w, bc, bs)) : zG p l e R s m args below meth c Q D cA ro b w0 nL mcT msT pc (ls, (0, i) :: (2, r) :: st, w, bc, bs) := by
  intro n H locs ce sl la hH hS hn hl h1 h2
  change zHR D cA ro b w0 n w H at hH
  change ls.length = nL at hn
  change lv_has la nL (zlv ro b 0 ls) at hl
  change ce + bc ≤ mcT at h1
  change sl + bs ≤ msT at h2
  obtain ⟨hx, hb, hml, hown, hts, hK, hNst, hAO, hSt, hRo, hW0⟩ := C
  obtain ⟨d1, d2⟩ := zHR.dom hH hW0 hw (by omega)
  have hg := zws_get (cA := cA) (ro := ro) (b := b) (w := w) d1 d2
  rw [zce_23 hw] at hg
  have k3 := K n H locs ce sl la hH hS hn hl h1 h2
  rw [List.map_cons, List.map_cons, zval_r ro b hr]
  rw [List.map_cons, zval_2] at k3
  have hv := zin_vp hi
  have hlt : (Int32.ofInt i).toNatClampNeg < (w r.toNat).2.1 := Nat.not_le.mp fun q => hv (Or.inr q)
  exact W.aald (v := va_rf (zref ro b ((w r.toNat).2.2 (zix i)))) (ty := .array .int) hx hb (hH.2.2.2.2.2 _ _ hg) ((hK.2 3 _ rfl).1 _ (fun j => va_rf (zref ro b ((w r.toNat).2.2 j)))) rfl (fun q => by cases q) (by show ¬ (Int32.ofInt i < 0 ∨ (arrV _ _ _).slots.size ≤ _); rw [arrV_size]; exact hv) (by show (arrV _ _ _).slots[_]? = _; rw [arrV_read _ _ hlt]; rfl) rfl rfl hd k3
theorem zo_aald24 (C : zCx p s m c args cc nL own D cA ro b w0) {i r : Int} (hr : 0 ≤ r) (hw : (w r.toNat).1 = 24) (hi : zin i (w r.toNat).2.1) (hd : decode cc pc = .ok (.aaload, 1)) (K : zG p l e R s m args below meth c Q D cA ro b w0 nL mcT msT (pc + 1) (ls, (2, (w r.toNat).2.2 (zix i)) :: st, w, bc, bs)) : zG p l e R s m args below meth c Q D cA ro b w0 nL mcT msT pc (ls, (0, i) :: (2, r) :: st, w, bc, bs) := by
  intro n H locs ce sl la hH hS hn hl h1 h2
  change zHR D cA ro b w0 n w H at hH
  change ls.length = nL at hn
  change lv_has la nL (zlv ro b 0 ls) at hl
  change ce + bc ≤ mcT at h1
  change sl + bs ≤ msT at h2
  obtain ⟨hx, hb, hml, hown, hts, hK, hNst, hAO, hSt, hRo, hW0⟩ := C
  obtain ⟨d1, d2⟩ := zHR.dom hH hW0 hw (by omega)
  have hg := zws_get (cA := cA) (ro := ro) (b := b) (w := w) d1 d2
  rw [zce_24 hw] at hg
  have k3 := K n H locs ce sl la hH hS hn hl h1 h2
  rw [List.map_cons, List.map_cons, zval_r ro b hr]
  rw [List.map_cons, zval_2] at k3
  have hv := zin_vp hi
  have hlt : (Int32.ofInt i).toNatClampNeg < (w r.toNat).2.1 := Nat.not_le.mp fun q => hv (Or.inr q)
  exact W.aald (v := va_rf (zref ro b ((w r.toNat).2.2 (zix i)))) (ty := .array .long) hx hb (hH.2.2.2.2.2 _ _ hg) ((hK.2 4 _ rfl).1 _ (fun j => va_rf (zref ro b ((w r.toNat).2.2 j)))) rfl (fun q => by cases q) (by show ¬ (Int32.ofInt i < 0 ∨ (arrV _ _ _).slots.size ≤ _); rw [arrV_size]; exact hv) (by show (arrV _ _ _).slots[_]? = _; rw [arrV_read _ _ hlt]; rfl) rfl rfl hd k3
theorem zo_iald30 (C : zCx p s m c args cc nL own D cA ro b w0) {i r : Int} (hr : 0 ≤ r) (hw : (w r.toNat).1 = 30) (hi : zin i (w r.toNat).2.1) (hd : decode cc pc = .ok (.iaload, 1)) (K : zG p l e R s m args below meth c Q D cA ro b w0 nL mcT msT (pc + 1) (ls, (0, (w r.toNat).2.2 (zix i)) :: st, w, bc, bs)) : zG p l e R s m args below meth c Q D cA ro b w0 nL mcT msT pc (ls, (0, i) :: (2, r) :: st, w, bc, bs) := by
  intro n H locs ce sl la hH hS hn hl h1 h2
  change zHR D cA ro b w0 n w H at hH
  change ls.length = nL at hn
  change lv_has la nL (zlv ro b 0 ls) at hl
  change ce + bc ≤ mcT at h1
  change sl + bs ≤ msT at h2
  obtain ⟨hx, hb, hml, hown, hts, hK, hNst, hAO, hSt, hRo, hW0⟩ := C
  obtain ⟨d1, d2, d3⟩ := zHR.ro hH hw
  rw [d3] at hi hw
  have k3 := K n H locs ce sl la hH hS hn hl h1 h2
  rw [List.map_cons, List.map_cons, zval_r ro b hr]
  rw [List.map_cons, zval_0, d3] at k3
  have ha : zad ro b r.toNat = ro r.toNat := if_pos d2
  rw [ha]
  exact va_ti hx hb (hRo r.toNat d1 d2 hw) hS (zin_vp hi) rfl hd k3
theorem zo_iast (C : zCx p s m c args cc nL own D cA ro b w0) {x i r : Int} (hr : 0 ≤ r) (hw : (w r.toNat).1 = 20) (hi : zin i (w r.toNat).2.1) (hd : decode cc pc = .ok (.iastore, 1)) (K : zG p l e R s m args below meth c Q D cA ro b w0 nL mcT msT (pc + 1) (ls, st, (zup w r.toNat (20, (w r.toNat).2.1, zfu (w r.toNat).2.2 (zix i) x)), bc, bs)) : zG p l e R s m args below meth c Q D cA ro b w0 nL mcT msT pc (ls, (0, x) :: (0, i) :: (2, r) :: st, w, bc, bs) := by
  intro n H locs ce sl la hH hS hn hl h1 h2
  change zHR D cA ro b w0 n w H at hH
  change ls.length = nL at hn
  change lv_has la nL (zlv ro b 0 ls) at hl
  change ce + bc ≤ mcT at h1
  change sl + bs ≤ msT at h2
  obtain ⟨hx, hb, hml, hown, hts, hK, hNst, hAO, hSt, hRo, hW0⟩ := C
  obtain ⟨d1, d2⟩ := zHR.dom hH hW0 hw (by omega)
  have hg := zws_get (cA := cA) (ro := ro) (b := b) (w := w) d1 d2
  rw [zce_20 hw] at hg
  have hP := hH.2.2.2.2.2
  rw [List.map_cons, List.map_cons, List.map_cons, zval_r ro b hr]
  have hv := zin_vp hi
  refine W.iast hx hb (hP _ _ hg) ((hK.2 0 _ rfl).1 _ (fun j => .int (Int32.ofInt ((w r.toNat).2.2 j)))) (fun q => by cases q) (by show ¬ (Int32.ofInt i < 0 ∨ (arrV _ _ _).slots.size ≤ _); rw [arrV_size]; exact hv) rfl rfl hd fun H' e1 e2 e3 => ?_
  refine K n H' _ ce sl la ?_ (hS.put e2 e3 (by show b ≤ zad ro b r.toNat; unfold zad; rw [if_neg (by omega)]; omega)) hn hl h1 h2
  have h9 := zHR.set (f := zfu (w r.toNat).2.2 (zix i) x) hH d1 d2 e2 (hP.set zws_D (zws_get d1 d2) ?_ e3)
  · rw [hw] at h9
    exact h9
  · rw [zce_20 (by exact hw)]
    show H'[_]? = some (vp_cell _ _)
    rw [e1]
    rw [vp_cell_i, vp_cell_i, arrV_store]
    congr 2
    funext q
    unfold zfu updV
    by_cases hq : q = zix i
    · have hq' : q = (Int32.ofInt i).toNatClampNeg := hq
      simp only [if_pos hq, if_pos hq']
      
    · have hq' : ¬ q = (Int32.ofInt i).toNatClampNeg := hq
      simp only [if_neg hq, if_neg hq']
theorem zo_last (C : zCx p s m c args cc nL own D cA ro b w0) {x i r : Int} (hr : 0 ≤ r) (hw : (w r.toNat).1 = 21) (hi : zin i (w r.toNat).2.1) (hd : decode cc pc = .ok (.lastore, 1)) (K : zG p l e R s m args below meth c Q D cA ro b w0 nL mcT msT (pc + 1) (ls, st, (zup w r.toNat (21, (w r.toNat).2.1, zfu (w r.toNat).2.2 (zix i) x)), bc, bs)) : zG p l e R s m args below meth c Q D cA ro b w0 nL mcT msT pc (ls, (1, x) :: (0, i) :: (2, r) :: st, w, bc, bs) := by
  intro n H locs ce sl la hH hS hn hl h1 h2
  change zHR D cA ro b w0 n w H at hH
  change ls.length = nL at hn
  change lv_has la nL (zlv ro b 0 ls) at hl
  change ce + bc ≤ mcT at h1
  change sl + bs ≤ msT at h2
  obtain ⟨hx, hb, hml, hown, hts, hK, hNst, hAO, hSt, hRo, hW0⟩ := C
  obtain ⟨d1, d2⟩ := zHR.dom hH hW0 hw (by omega)
  have hg := zws_get (cA := cA) (ro := ro) (b := b) (w := w) d1 d2
  rw [zce_21 hw] at hg
  have hP := hH.2.2.2.2.2
  rw [List.map_cons, List.map_cons, List.map_cons, zval_r ro b hr]
  have hv := zin_vp hi
  refine W.last hx hb (hP _ _ hg) ((hK.2 1 _ rfl).1 _ (fun j => .long (Int64.ofInt ((w r.toNat).2.2 j)))) (fun q => by cases q) (by show ¬ (Int32.ofInt i < 0 ∨ (arrV _ _ _).slots.size ≤ _); rw [arrV_size]; exact hv) rfl rfl hd fun H' e1 e2 e3 => ?_
  refine K n H' _ ce sl la ?_ (hS.put e2 e3 (by show b ≤ zad ro b r.toNat; unfold zad; rw [if_neg (by omega)]; omega)) hn hl h1 h2
  have h9 := zHR.set (f := zfu (w r.toNat).2.2 (zix i) x) hH d1 d2 e2 (hP.set zws_D (zws_get d1 d2) ?_ e3)
  · rw [hw] at h9
    exact h9
  · rw [zce_21 (by exact hw)]
    show H'[_]? = some (vp_cell _ _)
    rw [e1]
    rw [vp_cell_l, vp_cell_l, arrV_store]
    congr 2
    funext q
    unfold zfu updV
    by_cases hq : q = zix i
    · have hq' : q = (Int32.ofInt i).toNatClampNeg := hq
      simp only [if_pos hq, if_pos hq']
      
    · have hq' : ¬ q = (Int32.ofInt i).toNatClampNeg := hq
      simp only [if_neg hq, if_neg hq']
theorem zo_bast (C : zCx p s m c args cc nL own D cA ro b w0) {x i r : Int} (hr : 0 ≤ r) (hw : (w r.toNat).1 = 22) (hi : zin i (w r.toNat).2.1) (hd : decode cc pc = .ok (.bastore, 1)) (K : zG p l e R s m args below meth c Q D cA ro b w0 nL mcT msT (pc + 1) (ls, st, (zup w r.toNat (22, (w r.toNat).2.1, zfu (w r.toNat).2.2 (zix i) (zby x))), bc, bs)) : zG p l e R s m args below meth c Q D cA ro b w0 nL mcT msT pc (ls, (0, x) :: (0, i) :: (2, r) :: st, w, bc, bs) := by
  intro n H locs ce sl la hH hS hn hl h1 h2
  change zHR D cA ro b w0 n w H at hH
  change ls.length = nL at hn
  change lv_has la nL (zlv ro b 0 ls) at hl
  change ce + bc ≤ mcT at h1
  change sl + bs ≤ msT at h2
  obtain ⟨hx, hb, hml, hown, hts, hK, hNst, hAO, hSt, hRo, hW0⟩ := C
  obtain ⟨d1, d2⟩ := zHR.dom hH hW0 hw (by omega)
  have hg := zws_get (cA := cA) (ro := ro) (b := b) (w := w) d1 d2
  rw [zce_22 hw] at hg
  have hP := hH.2.2.2.2.2
  rw [List.map_cons, List.map_cons, List.map_cons, zval_r ro b hr]
  have hv := zin_vp hi
  refine W.bast hx hb (hP _ _ hg) ((hK.2 2 _ rfl).1 _ (fun j => .int (Int32.ofInt ((w r.toNat).2.2 j)))) (fun q => by cases q) (by show ¬ (Int32.ofInt i < 0 ∨ (arrV _ _ _).slots.size ≤ _); rw [arrV_size]; exact hv) rfl rfl hd fun H' e1 e2 e3 => ?_
  refine K n H' _ ce sl la ?_ (hS.put e2 e3 (by show b ≤ zad ro b r.toNat; unfold zad; rw [if_neg (by omega)]; omega)) hn hl h1 h2
  have h9 := zHR.set (f := zfu (w r.toNat).2.2 (zix i) (zby x)) hH d1 d2 e2 (hP.set zws_D (zws_get d1 d2) ?_ e3)
  · rw [hw] at h9
    exact h9
  · rw [zce_22 (by exact hw)]
    show H'[_]? = some (vp_cell _ _)
    rw [e1]
    rw [vp_cell_i, vp_cell_i, arrV_store]
    congr 2
    funext q
    unfold zfu updV
    by_cases hq : q = zix i
    · have hq' : q = (Int32.ofInt i).toNatClampNeg := hq
      simp only [if_pos hq, if_pos hq']
      exact congrArg Value.int (by unfold zby; rw [← Int8.toInt_toInt32, Int32.ofInt_toInt])
    · have hq' : ¬ q = (Int32.ofInt i).toNatClampNeg := hq
      simp only [if_neg hq, if_neg hq']
theorem zo_alen (C : zCx p s m c args cc nL own D cA ro b w0) {r : Int} (hr : 0 ≤ r) (hw : 20 ≤ (w r.toNat).1 ∧ (w r.toNat).1 ≤ 24) (hd : decode cc pc = .ok (.arraylength, 1)) (K : zG p l e R s m args below meth c Q D cA ro b w0 nL mcT msT (pc + 1) (ls, (0, ((w r.toNat).2.1 : Int)) :: st, w, bc, bs)) : zG p l e R s m args below meth c Q D cA ro b w0 nL mcT msT pc (ls, (2, r) :: st, w, bc, bs) := by
  intro n H locs ce sl la hH hS hn hl h1 h2
  change zHR D cA ro b w0 n w H at hH
  change ls.length = nL at hn
  change lv_has la nL (zlv ro b 0 ls) at hl
  change ce + bc ≤ mcT at h1
  change sl + bs ≤ msT at h2
  obtain ⟨hx, hb, hml, hown, hts, hK, hNst, hAO, hSt, hRo, hW0⟩ := C
  obtain ⟨d1, d2⟩ := zHR.dom hH hW0 (r := r.toNat) rfl (by omega)
  have hg := zws_get (cA := cA) (ro := ro) (b := b) (w := w) d1 d2
  have k3 := K n H locs ce sl la hH hS hn hl h1 h2
  rw [List.map_cons, zval_r ro b hr]
  have hv : Int32.ofNat (w r.toNat).2.1 = Int32.ofInt ((w r.toNat).2.1 : Int) := (Int32.ofInt_eq_ofNat).symm
  have hc : (w r.toNat).1 = 20 ∨ (w r.toNat).1 = 21 ∨ (w r.toNat).1 = 22 ∨ (w r.toNat).1 = 23 ∨ (w r.toNat).1 = 24 := by omega
  rcases hc with h | h | h | h | h
  · rw [zce_20 h] at hg; exact va_alen hx hb hK hH.2.2.2.2.2 _ 0 hg rfl hv hd k3
  · rw [zce_21 h] at hg; exact va_alen hx hb hK hH.2.2.2.2.2 _ 1 hg rfl hv hd k3
  · rw [zce_22 h] at hg; exact va_alen hx hb hK hH.2.2.2.2.2 _ 2 hg rfl hv hd k3
  · rw [zce_23 h] at hg; exact va_alen hx hb hK hH.2.2.2.2.2 _ 3 hg rfl hv hd k3
  · rw [zce_24 h] at hg; exact va_alen hx hb hK hH.2.2.2.2.2 _ 4 hg rfl hv hd k3
theorem zo_alen30 (C : zCx p s m c args cc nL own D cA ro b w0) {r : Int} (hr : 0 ≤ r) (hw : (w r.toNat).1 = 30) (hd : decode cc pc = .ok (.arraylength, 1)) (K : zG p l e R s m args below meth c Q D cA ro b w0 nL mcT msT (pc + 1) (ls, (0, ((w r.toNat).2.1 : Int)) :: st, w, bc, bs)) : zG p l e R s m args below meth c Q D cA ro b w0 nL mcT msT pc (ls, (2, r) :: st, w, bc, bs) := by
  intro n H locs ce sl la hH hS hn hl h1 h2
  change zHR D cA ro b w0 n w H at hH
  change ls.length = nL at hn
  change lv_has la nL (zlv ro b 0 ls) at hl
  change ce + bc ≤ mcT at h1
  change sl + bs ≤ msT at h2
  obtain ⟨hx, hb, hml, hown, hts, hK, hNst, hAO, hSt, hRo, hW0⟩ := C
  obtain ⟨d1, d2, d3⟩ := zHR.ro hH hw
  rw [d3] at hw
  have k3 := K n H locs ce sl la hH hS hn hl h1 h2
  rw [List.map_cons, zval_r ro b hr]
  rw [List.map_cons, zval_0, d3] at k3
  have ha : zad ro b r.toNat = ro r.toNat := if_pos d2
  rw [ha]
  exact va_tlen hx hb (hRo r.toNat d1 d2 hw) hS (Int32.ofInt_eq_ofNat).symm hd k3
end
