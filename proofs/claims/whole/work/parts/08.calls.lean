/-- a method: its name, its bytes, how many locals, its answer's type; its rank; the cells and slots that it makes -/
abbrev zMi : Type := MethodName × ByteArray × Nat × Option FieldType × Nat × Nat × Nat
def zwsm (q : zMi) : List Cond := Cond.code q.1 q.2.1 q.2.2.1 q.2.2.2.1 :: zgt
def zrm (q : zMi) : Room := { frames := q.2.2.2.2.1, cells := q.2.2.2.2.2.1, slots := q.2.2.2.2.2.2, locals := 40 * q.2.2.2.2.1 + 40 }
def zPc (D : va_G) (cA : Nat → ClassId) (ro : Nat → Nat) (b : Nat) (w0 : zW) (n : Nat) (as : List zV) (w : zW) : Array Value → State → Prop := fun v U => v = (as.map (zval ro b)).toArray ∧ zHR D cA ro b w0 n w U.heap ∧ zKp D cA ro b w0 U
def zQc (D : va_G) (cA : Nat → ClassId) (ro : Nat → Nat) (b : Nat) (w0 : zW) (vs : List zV) (w : zW) : Array Value → State → Outcome → State → Prop := fun _ st o t => o = .returned ((vs.map (zval ro b)).head?) ∧ vs.length ≤ 1 ∧ (∃ n, zHR D cA ro b w0 n w t.heap) ∧ va_F (fun q => b ≤ q) st t
/-- a method's contract: from these arguments and this world it comes to these answers and that world -/
def zCon (l : Launch) (D : va_G) (cA : Nat → ClassId) (ro : Nat → Nat) (b : Nat) (w0 : zW) (q : zMi) (as : List zV) (w : zW) (vs : List zV) (w' : zW) : Prop :=
  ∀ n, Met l q.1 (zwsm q) (zrm q) (zPc D cA ro b w0 n as w) (zQc D cA ro b w0 vs w') q.2.2.2.2.2.1 q.2.2.2.2.2.2 (fun a => b ≤ a)
theorem zPc_blind {D : va_G} {cA : Nat → ClassId} {ro : Nat → Nat} {b : Nat} {w0 : zW} {n : Nat} {as : List zV} {w : zW} : FrameBlind (zPc D cA ro b w0 n as w) := fun a U g mk h => ⟨h.1, h.2.1, h.2.2.same rfl rfl⟩
theorem zhead {l : List Value} (h : l.length ≤ 1) : l.head?.toList = l := by
  match l, h with
  | [], _ => rfl
  | [a], _ => rfl
/-- what the tables say of a method that is called -/
def zMok (q : zMi) (np : Nat) : Prop := Cond.code q.1 q.2.1 q.2.2.1 q.2.2.2.1 ∈ zgt ∧ Cond.initialized q.1.cls ∈ zgt ∧ (q.1.cls ≠ "java/lang/invoke/MethodHandle" ∧ q.1.cls ≠ "java/lang/invoke/VarHandle") ∧ (parseMethodDescriptor q.1.desc).map (fun d => d.parameters.length) = some np ∧ q.2.2.1 ≤ 20
def zLk (own : String) (ix : Nat) (q : zMi) : Prop := Cond.methodLink own ix q.1 ∈ zgt ∨ ∃ host, Cond.methodLinkNest own ix q.1 host ∈ lw_tbl.filter zIsNest
theorem zwsm_good (q : zMi) (h : Cond.code q.1 q.2.1 q.2.2.1 q.2.2.2.1 ∈ zgt) : ∀ w ∈ zwsm q, w ∈ zgt := fun w hw => by
  rcases List.mem_cons.mp hw with e | e
  · rw [e]; exact h
  · exact e
section
variable {p : Program} {l : Launch} {e : Env} {R : Room} {s : State} {m : MethodId} {args : Array Value} {below : List Frame} {meth : Method} {c : Code} {Q : State → Prop} {D : va_G} {cA : Nat → ClassId} {ro : Nat → Nat} {b : Nat} {w0 : zW} {nL mcT msT : Nat} {cc : ByteArray} {own : String} {pc : Nat} {ls st : List zV} {w : zW} {bc bs : Nat}
/-- behind a call -/
theorem zcall {mc ms : Nat} {H : Heap} {locs : List Loc} {ce sl : Nat} {la : Array Slot} {st0 rest : List Value} {vs : List zV} {w' : zW} {a : Array Value} (hr : va_Run p l e R s m args below meth c H locs ce sl mc ms (F0 m pc la st0) rest (zQc D cA ro b w0 vs w' a) (fun q => b ≤ q)) (hS : va_S (fun q => b ≤ q) s.heap H locs)
    (kk : ∀ (n : Nat) (H1 : Heap) (locs1 : List Loc), vs.length ≤ 1 → zHR D cA ro b w0 n w' H1 → va_S (fun q => b ≤ q) s.heap H1 locs1 → W p l e R s m args below meth c H1 locs1 (ce + mc) (sl + ms) Q (F0 m (pc + 3) la (vs.map (zval ro b) ++ rest))) : W p l e R s m args below meth c H locs ce sl Q (F0 m pc la st0) := by
  intro T hT X
  obtain ⟨v, st₀, t, T', L, h0, X', hL, e1, e2, ⟨hv, hlen, ⟨n', hHR⟩, hz, hk⟩, st⟩ := hr T hT X
  rw [h0] at hz hk
  have ev : v = (vs.map (zval ro b)).head? := by injection hv
  have hS' : va_S (fun q => b ≤ q) s.heap T'.heap (locs ++ L) := ⟨Nat.le_trans hS.1 (by rw [e1]; exact hz), fun q h1 h2 => by rw [e1, hk q (Nat.lt_of_lt_of_le h1 hS.1) h2]; exact hS.2.1 q h1 h2, fun q hq => by
      rcases List.mem_append.mp hq with h | h
      · exact hS.2.2 q h
      · exact hL q h⟩
  obtain ⟨t2, a1, b1⟩ := kk n' T'.heap (locs ++ L) hlen (by rw [e1]; exact hHR) hS' T' rfl X'
  refine ⟨t2, st t2 ?_, b1⟩
  rw [ev, zhead (by simpa using hlen)]
  exact a1
theorem zo_callV (C : zCx p s m c args cc nL own D cA ro b w0) {ix : Nat} {q : zMi} {nr np : Nat} {as st' vs : List zV} {w' : zW} (hR : mcT ≤ R.cells ∧ msT ≤ R.slots) (hfr : q.2.2.2.2.1 + 1 ≤ R.frames) (hlo : 40 * q.2.2.2.2.1 + 80 ≤ R.locals) (hcon : zCon l D cA ro b w0 q as w vs w') (hok : zMok q np) (hlk : zLk own ix q) {ci : Nat} {rr : vw_C} {r : Int} {as1 : List zV} (hmc : q.2.2.2.2.2.1 = 0 ∧ q.2.2.2.2.2.2 = 0) (hin : Cond.instanceMethod q.1 ∈ zgt) (hse : Cond.selects q.1.cls q.1 q.1 ∈ zgt) (has : as = (2, r) :: as1) (hr : 0 ≤ r) (hc : vwCl[ci]? = some rr) (hrc : rr.1 = q.1.cls) (hw : ((w r.toNat).1 : Int) = (ci : Int)) (hnr : nr = np + 1) (hsp : zspl nr [] st = some (as, st')) (hd : decode cc pc = .ok (.invokevirtual ix, 3)) (K : zG p l e R s m args below meth c Q D cA ro b w0 nL mcT msT (pc + 3) (ls, vs ++ st', w', bc, bs)) : zG p l e R s m args below meth c Q D cA ro b w0 nL mcT msT pc (ls, st, w, bc, bs) := by
  intro n H locs ce sl la hH hS hn hl h1 h2
  change zHR D cA ro b w0 n w H at hH
  change ls.length = nL at hn
  change lv_has la nL (zlv ro b 0 ls) at hl
  change ce + bc ≤ mcT at h1
  change sl + bs ≤ msT at h2
  obtain ⟨hx, hb, hml, hown, hts, hK, hNst, hAO, hSt, hRo, hW0⟩ := C
  obtain ⟨hcode, hini, hnm, hnp, hmx⟩ := hok
  have hsum := zsh_sum ro b (zspl_eq hsp).1
  have hst := (zspl_eq hsp).2.1
  have hlen := (zspl_eq hsp).2.2
  have hws : ∀ w ∈ zwsm q, ∀ (a' : Array Value) (U : State), s.WarmedH U.vm → w.before a' U = true := fun w hw a' U hW => word_at hW (zgt_good w (zwsm_good q hcode w hw)) (hts w (zwsm_good q hcode w hw))
  have hpar : ∀ sig, parseMethodDescriptor q.1.desc = some sig → np = sig.parameters.length := fun sig h => by
    rw [h] at hnp
    exact (Option.some.inj hnp).symm
  have hlo2 : 8 + (q.2.2.1 + 11) + (zrm q).locals ≤ R.locals := by show 8 + (q.2.2.1 + 11) + (40 * q.2.2.2.2.1 + 40) ≤ _; omega
  have hw : (w r.toNat).1 = ci := by omega
  have hci : ci < 13 := (List.getElem?_eq_some_iff.mp hc).1
  obtain ⟨d1, d2⟩ := zHR.dom hH hW0 hw (by omega)
  have hg := zws_get (cA := cA) (ro := ro) (b := b) (w := w) d1 d2
  rw [zce_obj (by omega), hw] at hg
  have hrcv := va_recv hK hH.2.2.2.2.2 hc hg
  rw [hrc] at hrcv
  subst has
  have hstk : st.map (zval ro b) = (as1.map (zval ro b)).reverse ++ .ref (zad ro b r.toNat) :: st'.map (zval ro b) := by
    have e : st = ((2, r) :: as1).reverse ++ st' := by simpa using hst.symm
    rw [e]
    simp [zval_r ro b hr]
  have hPV : PreV s H q.1.cls (zad ro b r.toNat) (zPc D cA ro b w0 n ((2, r) :: as1) w) (as1.map (zval ro b)) := ⟨zPc_blind, hrcv, fun U hU hW => ⟨by simp [zval_r ro b hr], by rw [hU]; exact hH, zKp.go ⟨hK, hNst, hAO, hSt, hRo, hW0⟩ hW (fun a ha hb => by rw [hU]; exact hS.2.1 a ha hb)⟩⟩
  have hf : ce + q.2.2.2.2.2.1 ≤ R.cells ∧ sl + q.2.2.2.2.2.2 ≤ R.slots := by omega
  have hlen1 : (as1.map (zval ro b)).length = np := by simp at hlen ⊢; omega
  rcases hlk with h | ⟨host, h⟩
  · refine zcall (mc := q.2.2.2.2.2.1) (ms := q.2.2.2.2.2.2) (va_runV (Ts := zgt) (rm := zrm q) (bytes := q.2.1) (maxL := q.2.2.1) (ret := q.2.2.2.1) ⟨hx, hb, hml, hown, hts⟩ (hcon n) ⟨⟨rfl, rfl, hfr, hlo2, hws, List.mem_cons_self, hts _ hcode, hts _ hini, hnm, hpar, hts _ h⟩, hts _ hin, hts _ hse⟩ hPV rfl hlen1 hl.1 hstk (lv_room hsum) hd hf) hS (fun n1 H1 locs1 hv hH1 hS1 => ?_)
    have k3 := K n1 H1 locs1 (ce + q.2.2.2.2.2.1) (sl + q.2.2.2.2.2.2) la hH1 hS1 hn hl (by show ce + q.2.2.2.2.2.1 + bc ≤ mcT; omega) (by show sl + q.2.2.2.2.2.2 + bs ≤ msT; omega)
    rw [List.map_append] at k3
    exact k3
  · refine zcall (mc := q.2.2.2.2.2.1) (ms := q.2.2.2.2.2.2) (va_runVN (Ts := zgt) (rm := zrm q) (bytes := q.2.1) (maxL := q.2.2.1) (ret := q.2.2.2.1) ⟨hx, hb, hml, hown, hts⟩ (hcon n) ⟨⟨⟨rfl, rfl, hfr, hlo2, hws, List.mem_cons_self⟩, hts _ hcode, hts _ hini, hnm, hpar, va_Nw.use rfl (hNst _ h)⟩, hts _ hin, hts _ hse⟩ hPV rfl hlen1 hl.1 hstk (lv_room hsum) hd hf) hS (fun n1 H1 locs1 hv hH1 hS1 => ?_)
    have k3 := K n1 H1 locs1 (ce + q.2.2.2.2.2.1) (sl + q.2.2.2.2.2.2) la hH1 hS1 hn hl (by show ce + q.2.2.2.2.2.1 + bc ≤ mcT; omega) (by show sl + q.2.2.2.2.2.2 + bs ≤ msT; omega)
    rw [List.map_append] at k3
    exact k3
theorem zo_callS (C : zCx p s m c args cc nL own D cA ro b w0) {ix : Nat} {q : zMi} {nr np : Nat} {as st' vs : List zV} {w' : zW} (hR : mcT ≤ R.cells ∧ msT ≤ R.slots) (hfr : q.2.2.2.2.1 + 1 ≤ R.frames) (hlo : 40 * q.2.2.2.2.1 + 80 ≤ R.locals) (hcon : zCon l D cA ro b w0 q as w vs w') (hok : zMok q np) (hlk : zLk own ix q) (hmc : q.2.2.2.2.2.1 = 0 ∧ q.2.2.2.2.2.2 = 0) (hin : Cond.static q.1 ∈ zgt) (hnr : nr = np) (hsp : zspl nr [] st = some (as, st')) (hd : decode cc pc = .ok (.invokestatic ix, 3)) (K : zG p l e R s m args below meth c Q D cA ro b w0 nL mcT msT (pc + 3) (ls, vs ++ st', w', bc, bs)) : zG p l e R s m args below meth c Q D cA ro b w0 nL mcT msT pc (ls, st, w, bc, bs) := by
  intro n H locs ce sl la hH hS hn hl h1 h2
  change zHR D cA ro b w0 n w H at hH
  change ls.length = nL at hn
  change lv_has la nL (zlv ro b 0 ls) at hl
  change ce + bc ≤ mcT at h1
  change sl + bs ≤ msT at h2
  obtain ⟨hx, hb, hml, hown, hts, hK, hNst, hAO, hSt, hRo, hW0⟩ := C
  obtain ⟨hcode, hini, hnm, hnp, hmx⟩ := hok
  have hsum := zsh_sum ro b (zspl_eq hsp).1
  have hst := (zspl_eq hsp).2.1
  have hlen := (zspl_eq hsp).2.2
  have hws : ∀ w ∈ zwsm q, ∀ (a' : Array Value) (U : State), s.WarmedH U.vm → w.before a' U = true := fun w hw a' U hW => word_at hW (zgt_good w (zwsm_good q hcode w hw)) (hts w (zwsm_good q hcode w hw))
  have hpar : ∀ sig, parseMethodDescriptor q.1.desc = some sig → np = sig.parameters.length := fun sig h => by
    rw [h] at hnp
    exact (Option.some.inj hnp).symm
  have hlo2 : 8 + (q.2.2.1 + 11) + (zrm q).locals ≤ R.locals := by show 8 + (q.2.2.1 + 11) + (40 * q.2.2.2.2.1 + 40) ≤ _; omega
  have hstk : st.map (zval ro b) = (as.map (zval ro b)).reverse ++ st'.map (zval ro b) := by
    have e : st = as.reverse ++ st' := by simpa using hst.symm
    rw [e]
    simp
  have hPV : PreS s H (zPc D cA ro b w0 n as w) (as.map (zval ro b)) := ⟨zPc_blind, fun U hU hW => ⟨rfl, by rw [hU]; exact hH, zKp.go ⟨hK, hNst, hAO, hSt, hRo, hW0⟩ hW (fun a ha hb => by rw [hU]; exact hS.2.1 a ha hb)⟩⟩
  have hf : ce + q.2.2.2.2.2.1 ≤ R.cells ∧ sl + q.2.2.2.2.2.2 ≤ R.slots := by omega
  have hlen1 : (as.map (zval ro b)).length = np := by simp at hlen ⊢; omega
  rcases hlk with h | ⟨host, h⟩
  · refine zcall (mc := q.2.2.2.2.2.1) (ms := q.2.2.2.2.2.2) (va_runS (Ts := zgt) (rm := zrm q) (bytes := q.2.1) (maxL := q.2.2.1) (ret := q.2.2.2.1) ⟨hx, hb, hml, hown, hts⟩ (hcon n) ⟨⟨rfl, rfl, hfr, hlo2, hws, List.mem_cons_self, hts _ hcode, hts _ hini, hnm, hpar, hts _ h⟩, hts _ hin⟩ hPV rfl hlen1 hl.1 hstk (lv_room hsum) hd hf) hS (fun n1 H1 locs1 hv hH1 hS1 => ?_)
    have k3 := K n1 H1 locs1 (ce + q.2.2.2.2.2.1) (sl + q.2.2.2.2.2.2) la hH1 hS1 hn hl (by show ce + q.2.2.2.2.2.1 + bc ≤ mcT; omega) (by show sl + q.2.2.2.2.2.2 + bs ≤ msT; omega)
    rw [List.map_append] at k3
    exact k3
  · refine zcall (mc := q.2.2.2.2.2.1) (ms := q.2.2.2.2.2.2) (va_runSN (Ts := zgt) (rm := zrm q) (bytes := q.2.1) (maxL := q.2.2.1) (ret := q.2.2.2.1) ⟨hx, hb, hml, hown, hts⟩ (hcon n) ⟨⟨⟨rfl, rfl, hfr, hlo2, hws, List.mem_cons_self⟩, hts _ hcode, hts _ hini, hnm, hpar, va_Nw.use rfl (hNst _ h)⟩, hts _ hin, trivial⟩ hPV rfl hlen1 hl.1 hstk (lv_room hsum) hd hf) hS (fun n1 H1 locs1 hv hH1 hS1 => ?_)
    have k3 := K n1 H1 locs1 (ce + q.2.2.2.2.2.1) (sl + q.2.2.2.2.2.2) la hH1 hS1 hn hl (by show ce + q.2.2.2.2.2.1 + bc ≤ mcT; omega) (by show sl + q.2.2.2.2.2.2 + bs ≤ msT; omega)
    rw [List.map_append] at k3
    exact k3
theorem zo_callI (C : zCx p s m c args cc nL own D cA ro b w0) {ix : Nat} {q : zMi} {nr np : Nat} {as st' vs : List zV} {w' : zW} (hR : mcT ≤ R.cells ∧ msT ≤ R.slots) (hfr : q.2.2.2.2.1 + 1 ≤ R.frames) (hlo : 40 * q.2.2.2.2.1 + 80 ≤ R.locals) (hcon : zCon l D cA ro b w0 q as w vs w') (hok : zMok q np) (hlk : zLk own ix q) {r : Int} {as1 : List zV} (hret : q.2.2.2.1 = none) (hb1 : q.2.2.2.2.2.1 ≤ bc) (hb2 : q.2.2.2.2.2.2 ≤ bs) (hnam : q.1.name = "<init>") (hin : Cond.instanceMethod q.1 ∈ zgt) (has : as = (2, r) :: as1) (hr : 0 ≤ r) (hnr : nr = np + 1) (hsp : zspl nr [] st = some (as, st')) (hd : decode cc pc = .ok (.invokespecial ix, 3)) (K : zG p l e R s m args below meth c Q D cA ro b w0 nL mcT msT (pc + 3) (ls, vs ++ st', w', (bc - q.2.2.2.2.2.1), (bs - q.2.2.2.2.2.2))) : zG p l e R s m args below meth c Q D cA ro b w0 nL mcT msT pc (ls, st, w, bc, bs) := by
  intro n H locs ce sl la hH hS hn hl h1 h2
  change zHR D cA ro b w0 n w H at hH
  change ls.length = nL at hn
  change lv_has la nL (zlv ro b 0 ls) at hl
  change ce + bc ≤ mcT at h1
  change sl + bs ≤ msT at h2
  obtain ⟨hx, hb, hml, hown, hts, hK, hNst, hAO, hSt, hRo, hW0⟩ := C
  obtain ⟨hcode, hini, hnm, hnp, hmx⟩ := hok
  have hsum := zsh_sum ro b (zspl_eq hsp).1
  have hst := (zspl_eq hsp).2.1
  have hlen := (zspl_eq hsp).2.2
  have hws : ∀ w ∈ zwsm q, ∀ (a' : Array Value) (U : State), s.WarmedH U.vm → w.before a' U = true := fun w hw a' U hW => word_at hW (zgt_good w (zwsm_good q hcode w hw)) (hts w (zwsm_good q hcode w hw))
  have hpar : ∀ sig, parseMethodDescriptor q.1.desc = some sig → np = sig.parameters.length := fun sig h => by
    rw [h] at hnp
    exact (Option.some.inj hnp).symm
  have hlo2 : 8 + (q.2.2.1 + 11) + (zrm q).locals ≤ R.locals := by show 8 + (q.2.2.1 + 11) + (40 * q.2.2.2.2.1 + 40) ≤ _; omega
  rw [hret] at hcode
  subst has
  have hstk : st.map (zval ro b) = (as1.map (zval ro b)).reverse ++ .ref (zad ro b r.toNat) :: st'.map (zval ro b) := by
    have e : st = ((2, r) :: as1).reverse ++ st' := by simpa using hst.symm
    rw [e]
    simp [zval_r ro b hr]
  have hPV : PreS s H (zPc D cA ro b w0 n ((2, r) :: as1) w) (.ref (zad ro b r.toNat) :: as1.map (zval ro b)) := ⟨zPc_blind, fun U hU hW => ⟨by simp [zval_r ro b hr], by rw [hU]; exact hH, zKp.go ⟨hK, hNst, hAO, hSt, hRo, hW0⟩ hW (fun a ha hb => by rw [hU]; exact hS.2.1 a ha hb)⟩⟩
  have hf : ce + q.2.2.2.2.2.1 ≤ R.cells ∧ sl + q.2.2.2.2.2.2 ≤ R.slots := by omega
  have hlen1 : (as1.map (zval ro b)).length = np := by simp at hlen ⊢; omega
  have hcw : Cond.code q.1 q.2.1 q.2.2.1 none ∈ zwsm q := by unfold zwsm; rw [hret]; exact List.mem_cons_self
  rcases hlk with h | ⟨host, h⟩
  · refine zcall (mc := q.2.2.2.2.2.1) (ms := q.2.2.2.2.2.2) (va_runI (Ts := zgt) (rm := zrm q) (bytes := q.2.1) (maxL := q.2.2.1) ⟨hx, hb, hml, hown, hts⟩ (hcon n) ⟨⟨rfl, rfl, hfr, hlo2, hws, hcw, hts _ hcode, hts _ hini, hnm, hpar, hts _ h⟩, hnam, hts _ hin⟩ hPV rfl hlen1 hl.1 hstk (lv_room hsum) hd hf) hS (fun n1 H1 locs1 hv hH1 hS1 => ?_)
    have k3 := K n1 H1 locs1 (ce + q.2.2.2.2.2.1) (sl + q.2.2.2.2.2.2) la hH1 hS1 hn hl (by show ce + q.2.2.2.2.2.1 + (bc - q.2.2.2.2.2.1) ≤ mcT; omega) (by show sl + q.2.2.2.2.2.2 + (bs - q.2.2.2.2.2.2) ≤ msT; omega)
    rw [List.map_append] at k3
    exact k3
  · refine zcall (mc := q.2.2.2.2.2.1) (ms := q.2.2.2.2.2.2) (va_runIN (Ts := zgt) (rm := zrm q) (bytes := q.2.1) (maxL := q.2.2.1) ⟨hx, hb, hml, hown, hts⟩ (hcon n) ⟨⟨⟨rfl, rfl, hfr, hlo2, hws, hcw⟩, hts _ hcode, hts _ hini, hnm, hpar, va_Nw.use rfl (hNst _ h)⟩, hnam, hts _ hin⟩ hPV rfl hlen1 hl.1 hstk (lv_room hsum) hd hf) hS (fun n1 H1 locs1 hv hH1 hS1 => ?_)
    have k3 := K n1 H1 locs1 (ce + q.2.2.2.2.2.1) (sl + q.2.2.2.2.2.2) la hH1 hS1 hn hl (by show ce + q.2.2.2.2.2.1 + (bc - q.2.2.2.2.2.1) ≤ mcT; omega) (by show sl + q.2.2.2.2.2.2 + (bs - q.2.2.2.2.2.2) ≤ msT; omega)
    rw [List.map_append] at k3
    exact k3
theorem zo_ret0 (C : zCx p s m c args cc nL own D cA ro b w0)   (hr : meth.sig.returnType = none) (hlocks : meth.locks = false) (hd : decode cc pc = .ok (.return_, 1)) : zG p l e R s m args below meth c (MQ below (zQc D cA ro b w0 [] w) args s mcT msT (fun q => b ≤ q)) D cA ro b w0 nL mcT msT pc (ls, [], w, bc, bs) := by
  intro n H locs ce sl la hH hS hn hl h1 h2
  change zHR D cA ro b w0 n w H at hH
  change ls.length = nL at hn
  change lv_has la nL (zlv ro b 0 ls) at hl
  change ce + bc ≤ mcT at h1
  change sl + bs ≤ msT at h2
  obtain ⟨hx, hb, hml, hown, hts, hK, hNst, hAO, hSt, hRo, hW0⟩ := C
  refine W.widen (k := mcT) (n := msT) (by omega) (by omega) ?_
  exact W.vret hx hb hr (fun t ht hW => ⟨rfl, Nat.le_of_ble_eq_true rfl, ⟨n, by rw [ht]; exact hH⟩, hS.F ht⟩) hS.2.2 hd hlocks
theorem zo_ret1 (C : zCx p s m c args cc nL own D cA ro b w0) {v : Int}  (hr : meth.sig.returnType = some .int) (hlocks : meth.locks = false) (hd : decode cc pc = .ok (.ireturn, 1)) : zG p l e R s m args below meth c (MQ below (zQc D cA ro b w0 [(0, v)] w) args s mcT msT (fun q => b ≤ q)) D cA ro b w0 nL mcT msT pc (ls, [(0, v)], w, bc, bs) := by
  intro n H locs ce sl la hH hS hn hl h1 h2
  change zHR D cA ro b w0 n w H at hH
  change ls.length = nL at hn
  change lv_has la nL (zlv ro b 0 ls) at hl
  change ce + bc ≤ mcT at h1
  change sl + bs ≤ msT at h2
  obtain ⟨hx, hb, hml, hown, hts, hK, hNst, hAO, hSt, hRo, hW0⟩ := C
  refine W.widen (k := mcT) (n := msT) (by omega) (by omega) ?_
  exact W.iret hx hb hr (fun t ht hW => ⟨rfl, Nat.le_of_ble_eq_true rfl, ⟨n, by rw [ht]; exact hH⟩, hS.F ht⟩) hS.2.2 hd hlocks
theorem zo_ret2 (C : zCx p s m c args cc nL own D cA ro b w0) {v : Int}  (hr : meth.sig.returnType = some .long) (hlocks : meth.locks = false) (hd : decode cc pc = .ok (.lreturn, 1)) : zG p l e R s m args below meth c (MQ below (zQc D cA ro b w0 [(1, v)] w) args s mcT msT (fun q => b ≤ q)) D cA ro b w0 nL mcT msT pc (ls, [(1, v)], w, bc, bs) := by
  intro n H locs ce sl la hH hS hn hl h1 h2
  change zHR D cA ro b w0 n w H at hH
  change ls.length = nL at hn
  change lv_has la nL (zlv ro b 0 ls) at hl
  change ce + bc ≤ mcT at h1
  change sl + bs ≤ msT at h2
  obtain ⟨hx, hb, hml, hown, hts, hK, hNst, hAO, hSt, hRo, hW0⟩ := C
  refine W.widen (k := mcT) (n := msT) (by omega) (by omega) ?_
  exact W.lret hx hb hr (fun t ht hW => ⟨rfl, Nat.le_of_ble_eq_true rfl, ⟨n, by rw [ht]; exact hH⟩, hS.F ht⟩) hS.2.2 hd hlocks
theorem zo_ret3 (C : zCx p s m c args cc nL own D cA ro b w0) {v : Int} (hbo : v = 0 ∨ v = 1) (hr : meth.sig.returnType = some .boolean) (hlocks : meth.locks = false) (hd : decode cc pc = .ok (.ireturn, 1)) : zG p l e R s m args below meth c (MQ below (zQc D cA ro b w0 [(0, v)] w) args s mcT msT (fun q => b ≤ q)) D cA ro b w0 nL mcT msT pc (ls, [(0, v)], w, bc, bs) := by
  intro n H locs ce sl la hH hS hn hl h1 h2
  change zHR D cA ro b w0 n w H at hH
  change ls.length = nL at hn
  change lv_has la nL (zlv ro b 0 ls) at hl
  change ce + bc ≤ mcT at h1
  change sl + bs ≤ msT at h2
  obtain ⟨hx, hb, hml, hown, hts, hK, hNst, hAO, hSt, hRo, hW0⟩ := C
  have hnar : narrow FieldType.boolean (.int (Int32.ofInt v)) = .int (Int32.ofInt v) := by
    rcases hbo with rfl | rfl <;> decide +kernel
  refine W.widen (k := mcT) (n := msT) (by omega) (by omega) ?_
  exact W.zret hx hb hr hnar (fun t ht hW => ⟨rfl, Nat.le_of_ble_eq_true rfl, ⟨n, by rw [ht]; exact hH⟩, hS.F ht⟩) hS.2.2 hd hlocks
theorem zo_table (C : zCx p s m c args cc nL own D cA ro b w0) {x dflt lo hi : Int} {offs : Array Int} {len t : Nat} {cs : List (Int × Nat)} {d : Nat} {tp : Nat → Nat} (hd : decode cc pc = .ok (.tableswitch dflt lo hi offs, len)) (hdf : (pc : Int) + dflt = (tp d : Int)) (hlen : (cs.length : Int) = hi - lo + 1) (hcs : ∀ i : Nat, i < cs.length → (cs.getD i (0, 0)).1 = lo + i ∧ ∃ off, offs[i]? = some off ∧ (pc : Int) + off = (tp (cs.getD i (0, 0)).2 : Int)) (ht : zsw cs d (wr x) = t) (K : zG p l e R s m args below meth c Q D cA ro b w0 nL mcT msT (tp t) (ls, st, w, bc, bs)) : zG p l e R s m args below meth c Q D cA ro b w0 nL mcT msT pc (ls, (0, x) :: st, w, bc, bs) := by
  intro n H locs ce sl la hH hS hn hl h1 h2
  obtain ⟨hx, hb, -⟩ := C
  have k3 := K n H locs ce sl la hH hS hn hl h1 h2
  have key : ∀ (cs : List (Int × Nat)) (lo : Int), (∀ i : Nat, i < cs.length → (cs.getD i (0, 0)).1 = lo + i) → ∀ z : Int, zsw cs d z = if lo ≤ z ∧ z < lo + cs.length then (cs.getD (z - lo).toNat (0, 0)).2 else d := by
    intro cs
    induction cs with
    | nil => intro lo _ z; simp [zsw]; omega
    | cons q cs ih =>
      intro lo h z
      have h0 : q.1 = lo := by simpa using h 0 (by simp)
      unfold zsw
      by_cases e : z = q.1
      · rw [if_pos e, if_pos ⟨by omega, by simp; omega⟩]
        rw [show (z - lo).toNat = 0 by omega]
        simp
      · rw [if_neg e, ih (lo + 1) (fun i hi => by have h9 := h (i + 1) (by simpa using hi); rw [List.getD_cons_succ] at h9; rw [h9]; push_cast; omega) z]
        by_cases g : lo ≤ z ∧ z < lo + ((q :: cs).length : Int)
        · rw [if_pos g, if_pos ⟨by omega, by simp at g; omega⟩]
          rw [show (z - lo).toNat = (z - (lo + 1)).toNat + 1 by omega]
          simp
        · rw [if_neg g, if_neg (fun g2 => g ⟨by omega, by simp; omega⟩)]
  have hk := key cs lo (fun i hi => (hcs i hi).1) (wr x)
  rw [ht] at hk
  by_cases g : lo ≤ wr x ∧ wr x < lo + (cs.length : Int)
  · rw [if_pos g] at hk
    obtain ⟨-, off, h5, h6⟩ := hcs (wr x - lo).toNat (by omega)
    rw [← hk] at h6
    exact lv_tableIn hx hb hd (by show ¬ wr x < lo; omega) (by show ¬ hi < wr x; omega) h5 h6 k3
  · rw [if_neg g] at hk
    rw [hk] at k3
    exact lv_tableOut hx hb hd (by show wr x < lo ∨ hi < wr x; omega) hdf k3
theorem zo_lookup (C : zCx p s m c args cc nL own D cA ro b w0) {x dflt : Int} {ps : Array (Int × Int)} {len t : Nat} {cs : List (Int × Nat)} {d : Nat} {tp : Nat → Nat} (hd : decode cc pc = .ok (.lookupswitch dflt ps, len)) (hdf : (pc : Int) + dflt = (tp d : Int)) (hp : (ps.toList.zip (ps.toList.drop 1)).all (fun (a, next) => a.1 < next.1) = true) (hlen : cs.length = ps.toList.length) (hcs : ∀ i : Nat, i < cs.length → (cs.getD i (0, 0)).1 = (ps.toList.getD i (0, 0)).1 ∧ (pc : Int) + (ps.toList.getD i (0, 0)).2 = (tp (cs.getD i (0, 0)).2 : Int)) (ht : zsw cs d (wr x) = t) (K : zG p l e R s m args below meth c Q D cA ro b w0 nL mcT msT (tp t) (ls, st, w, bc, bs)) : zG p l e R s m args below meth c Q D cA ro b w0 nL mcT msT pc (ls, (0, x) :: st, w, bc, bs) := by
  intro n H locs ce sl la hH hS hn hl h1 h2
  obtain ⟨hx, hb, -⟩ := C
  have k3 := K n H locs ce sl la hH hS hn hl h1 h2
  have key : ∀ (cs : List (Int × Nat)) (l : List (Int × Int)), cs.length = l.length → (∀ i : Nat, i < cs.length → (cs.getD i (0, 0)).1 = (l.getD i (0, 0)).1 ∧ (pc : Int) + (l.getD i (0, 0)).2 = (tp (cs.getD i (0, 0)).2 : Int)) → (pc : Int) + Op.lookupswitch.offset l dflt (wr x) = (tp (zsw cs d (wr x)) : Int) := by
    intro cs
    induction cs with
    | nil => intro l h _; cases l with
      | nil => exact hdf
      | cons _ _ => simp at h
    | cons q cs ih =>
      intro l h h3
      cases l with
      | nil => simp at h
      | cons r l =>
        obtain ⟨h4, h5⟩ := h3 0 (by simp)
        simp at h4 h5
        have ih2 := ih l (by simpa using h) (fun i hi => by simpa using h3 (i + 1) (by simpa using hi))
        unfold zsw
        unfold Op.lookupswitch.offset
        by_cases e : wr x = q.1
        · rw [if_pos e]
          simp [e, h4] at h5 ⊢
          first | exact h5 | (rw [if_pos (by omega)]; exact h5) | omega
        · rw [if_neg e]
          have e2 : ¬ r.1 = wr x := fun h => e (by omega)
          first | (simp [e2]; exact ih2) | (simp [Ne.symm e2]; exact ih2)
  have hk := key cs ps.toList hlen hcs
  rw [ht] at hk
  exact lv_lookup hx hb hd hp rfl hk k3
end
