/-- what a callee needs of the machine's tables and of what lay there from the start -/
def zIsNest : Cond → Bool
  | .fieldLinkNest _ _ _ _ _ _ => true
  | .methodLinkNest _ _ _ _ => true
  | _ => false
def zNest (U : State) : Prop := ∀ w ∈ lw_tbl.filter zIsNest, va_Nw w U
def zAO (U : State) : Prop := (Cond.arrayOver (.array .int)).before #[] U = true ∧ (Cond.arrayOver (.array .long)).before #[] U = true
def zStat (ro : Nat → Nat) (b : Nat) (U : State) : Prop := va_Z "WordLinks$Matcher" "TAKEN_0" "[I" (.ref (ro 1)) (fun q => b ≤ q) U U.heap ∧ va_Z "WordLinks$Matcher" "TAKEN_1" "[I" (.ref (ro 2)) (fun q => b ≤ q) U U.heap ∧ va_Z "WordLinks$Matcher" "KIND_COSTS" "[I" (.ref (ro 3)) (fun q => b ≤ q) U U.heap
def zRo (ro : Nat → Nat) (b : Nat) (w0 : zW) (U : State) : Prop := ∀ r, 1 ≤ r → r < 10 → (w0 r).1 = 30 → va_T .int (ro r) (w0 r).2.1 (fun j => .int (Int32.ofInt ((w0 r).2.2 j))) (fun q => b ≤ q) U U.heap
def zKp (D : va_G) (cA : Nat → ClassId) (ro : Nat → Nat) (b : Nat) (w0 : zW) (U : State) : Prop := va_K D vwCl (ztys cA) U ∧ zNest U ∧ zAO U ∧ zStat ro b U ∧ zRo ro b w0 U ∧ zW0 w0
theorem zAO_spec {U : State} {t : FieldType} (h : (Cond.arrayOver (.array t)).before #[] U = true) :
    ∃ comp c k, U.vm.findClass (FieldType.array t).toString = some comp ∧ (U.vm.classes.findIdx? fun (x : Class) => match x.kind with | .array component _ => component == comp | _ => false) = some c ∧ U.vm.classes[c]? = some k ∧ k.kind = .array comp (.array t) ∧ U.vm.findClass ("[" ++ (FieldType.array t).toString) = some c := by
  simp only [Cond.before, Cond.holds, Cond.value, beq_iff_eq] at h
  cases hc : U.vm.findClass (FieldType.array t).toString with
  | none => simp [hc] at h
  | some comp =>
    simp only [hc, Option.bind_some, Option.bind_eq_some_iff, Option.map_eq_some_iff] at h
    obtain ⟨c, hi, k, hk, hb⟩ := h
    obtain ⟨hlt, hp, -⟩ := Array.findIdx?_eq_some_iff_getElem.mp hi
    have hkk : U.vm.classes[c] = k := (Array.getElem?_eq_some_iff.mp hk).2
    rw [hkk] at hp
    cases hkind : k.kind with
    | array component ty =>
      rw [hkind] at hb hp
      simp at hb hp
      exact ⟨comp, c, k, rfl, hi, hk, by rw [hkind, hp, hb.1], hb.2⟩
    | _ => rw [hkind] at hb; simp at hb
theorem zAO_moved {t : FieldType} {u U : State} (hvm : u.vm.Alike U.vm) (h : (Cond.arrayOver (.array t)).before #[] u = true) : (Cond.arrayOver (.array t)).before #[] U = true := by
  obtain ⟨comp, c, k, h1, h2, h3, h4, h5⟩ := zAO_spec h
  obtain ⟨k', hk', he⟩ := hvm.2.2 _ _ h3
  have hi : (U.vm.classes.findIdx? fun (x : Class) => match x.kind with | .array component _ => component == comp | _ => false) = some c := by
    have e1 := va_idx_bare U.vm comp
    have e2 := va_idx_bare u.vm comp
    have e3 : U.vm.bare = u.vm.bare := by first | exact hvm.bare_eq | exact hvm.bare_eq.symm
    rw [e3] at e1
    exact e1.symm.trans (e2.trans h2)
  have hkind : k'.kind = .array comp (.array t) := by rw [he]; exact h4
  have f1 : U.vm.findClass (FieldType.array t).toString = some comp := by rw [hvm.findClass]; exact h1
  have f2 : U.vm.findClass ("[" ++ (FieldType.array t).toString) = some c := by rw [hvm.findClass]; exact h5
  unfold Cond.before Cond.holds
  simp only [Cond.value]
  rw [f1, Option.bind_some]
  refine (congrArg (fun o : Option Nat => (o.bind (fun c => (U.vm.classes[c]?).map fun (k : Class) => match k.kind with | .array _ ty => decide (ty = FieldType.array t) && decide (U.vm.findClass ("[" ++ (FieldType.array t).toString) = some c) | _ => false) == some true)) hi).trans ?_
  simp [hk', hkind, f2]
theorem zNest_warm {s U : State} (hW : s.WarmedH U.vm) (h : zNest s) : zNest U := by
  intro w hw
  have h1 := h w hw
  have h2 := (List.mem_filter.mp hw).2
  match w, h1, h2 with
  | .fieldLinkNest _ _ _ _ _ _, h1, _ => exact va_Nw.warmF hW h1
  | .methodLinkNest _ _ _ _, h1, _ => exact va_Nw.warmM hW h1
theorem zNest_same {s U : State} (hv : s.vm = U.vm) (h : zNest s) : zNest U := by
  intro w hw
  have h1 := h w hw
  have h2 := (List.mem_filter.mp hw).2
  match w, h1, h2 with
  | .fieldLinkNest _ _ _ _ _ _, h1, _ => exact va_Nw.same rfl hv h1
  | .methodLinkNest _ _ _ _, h1, _ => exact va_Nw.same rfl hv h1
/-- on the way into a callee -/
theorem zKp.go {D : va_G} {cA : Nat → ClassId} {ro : Nat → Nat} {b : Nat} {w0 : zW} {s U : State} (h : zKp D cA ro b w0 s) (hW : s.WarmedH U.vm) (hq : ∀ a : Nat, a < s.heap.size → ¬ b ≤ a → U.heap[a]? = s.heap[a]?) : zKp D cA ro b w0 U := by
  obtain ⟨h1, h2, h3, ⟨h4, h5, h6⟩, h7, h8⟩ := h
  have hv := hW.alike
  exact ⟨va_K.moved hv h1, zNest_warm hW h2, ⟨zAO_moved hv h3.1, zAO_moved hv h3.2⟩, ⟨(h4.moved hv).kept hq, (h5.moved hv).kept hq, (h6.moved hv).kept hq⟩, fun r r1 r2 r3 => ((h7 r r1 r2 r3).moved hv).kept hq, h8⟩
theorem zKp.same {D : va_G} {cA : Nat → ClassId} {ro : Nat → Nat} {b : Nat} {w0 : zW} {s U : State} (h : zKp D cA ro b w0 s) (hv : s.vm = U.vm) (hq : U.heap = s.heap) : zKp D cA ro b w0 U := by
  obtain ⟨h1, h2, h3, ⟨h4, h5, h6⟩, h7, h8⟩ := h
  have ha : s.vm.Alike U.vm := by rw [← hv]; exact Vm.Alike.refl s.vm
  refine ⟨va_K.moved ha h1, zNest_same hv h2, ⟨zAO_moved ha h3.1, zAO_moved ha h3.2⟩, ⟨?_, ?_, ?_⟩, fun r r1 r2 r3 => ?_, h8⟩
  · rw [hq]; exact h4.moved ha
  · rw [hq]; exact h5.moved ha
  · rw [hq]; exact h6.moved ha
  · rw [hq]; exact (h7 r r1 r2 r3).moved ha
/-- an activation -/
def zCx (p : Program) (s : State) (m : MethodId) (c : Code) (args : Array Value) (cc : ByteArray) (nL : Nat) (own : String) (D : va_G) (cA : Nat → ClassId) (ro : Nat → Nat) (b : Nat) (w0 : zW) : Prop :=
  p.tables.exec = Jvm.exec ∧ c.code = cc ∧ c.maxLocals = nL ∧ s.vm.findClass own = some m.cls ∧ (∀ w ∈ zgt, w.before args s = true) ∧ zKp D cA ro b w0 s
/-- from this place, with this state of the abstract machine, the walk comes to Q -/
def zG (p : Program) (l : Launch) (e : Env) (R : Room) (s : State) (m : MethodId) (args : Array Value) (below : List Frame) (meth : Method) (c : Code) (Q : State → Prop) (D : va_G) (cA : Nat → ClassId) (ro : Nat → Nat) (b : Nat) (w0 : zW) (nL mcT msT : Nat) (pc : Nat) (x : zS) : Prop :=
  ∀ (n : Nat) (H : Heap) (locs : List Loc) (cells slots : Nat) (la : Array Slot), zHR D cA ro b w0 n x.2.2.1 H → va_S (fun q => b ≤ q) s.heap H locs → x.1.length = nL → lv_has la nL (zlv ro b 0 x.1) → cells + x.2.2.2.1 ≤ mcT → slots + x.2.2.2.2 ≤ msT →
    W p l e R s m args below meth c H locs cells slots Q (F0 m pc la (x.2.1.map (zval ro b)))
section
variable {p : Program} {l : Launch} {e : Env} {R : Room} {s : State} {m : MethodId} {args : Array Value} {below : List Frame} {meth : Method} {c : Code} {Q : State → Prop} {D : va_G} {cA : Nat → ClassId} {ro : Nat → Nat} {b : Nat} {w0 : zW} {nL mcT msT : Nat} {cc : ByteArray} {own : String} {pc : Nat} {ls st : List zV} {w : zW} {bc bs : Nat}
theorem zb8 {n : Int} (h : -128 ≤ n ∧ n ≤ 127) : (Int8.ofInt n).toInt32 = Int32.ofInt n := by
  have e8 : (Int8.size : Nat) = 256 := rfl
  have e32 : (Int32.size : Nat) = 4294967296 := rfl
  apply Int32.toInt_inj.mp
  rw [Int8.toInt_toInt32, Int8.toInt_ofInt, Int32.toInt_ofInt, Int.bmod_eq_of_le (by omega) (by omega), Int.bmod_eq_of_le (by omega) (by omega)]
theorem zb16 {n : Int} (h : -32768 ≤ n ∧ n ≤ 32767) : (Int16.ofInt n).toInt32 = Int32.ofInt n := by
  have e8 : (Int16.size : Nat) = 65536 := rfl
  have e32 : (Int32.size : Nat) = 4294967296 := rfl
  apply Int32.toInt_inj.mp
  rw [Int16.toInt_toInt32, Int16.toInt_ofInt, Int32.toInt_ofInt, Int.bmod_eq_of_le (by omega) (by omega), Int.bmod_eq_of_le (by omega) (by omega)]
theorem zo_iconst (C : zCx p s m c args cc nL own D cA ro b w0) {k : Int} (hd : decode cc pc = .ok (.iconst k, 1)) (K : zG p l e R s m args below meth c Q D cA ro b w0 nL mcT msT (pc + 1) (ls, (0, k) :: st, w, bc, bs)) : zG p l e R s m args below meth c Q D cA ro b w0 nL mcT msT pc (ls, st, w, bc, bs) := by
  intro n H locs ce sl la hH hS hn hl h1 h2
  obtain ⟨hx, hb, hml, hown, hts, hK, hNst, hAO, hSt, hRo, hW0⟩ := C
  exact lv_iconst hx hb hd rfl (K n H locs ce sl la hH hS hn hl h1 h2)
theorem zo_bipush (C : zCx p s m c args cc nL own D cA ro b w0) {k : Int} (hr : -128 ≤ k ∧ k ≤ 127) (hd : decode cc pc = .ok (.bipush k, 2)) (K : zG p l e R s m args below meth c Q D cA ro b w0 nL mcT msT (pc + 2) (ls, (0, k) :: st, w, bc, bs)) : zG p l e R s m args below meth c Q D cA ro b w0 nL mcT msT pc (ls, st, w, bc, bs) := by
  intro n H locs ce sl la hH hS hn hl h1 h2
  obtain ⟨hx, hb, hml, hown, hts, hK, hNst, hAO, hSt, hRo, hW0⟩ := C
  exact lv_bipush hx hb hd (zb8 hr) (K n H locs ce sl la hH hS hn hl h1 h2)
theorem zo_sipush (C : zCx p s m c args cc nL own D cA ro b w0) {k : Int} (hr : -32768 ≤ k ∧ k ≤ 32767) (hd : decode cc pc = .ok (.sipush k, 3)) (K : zG p l e R s m args below meth c Q D cA ro b w0 nL mcT msT (pc + 3) (ls, (0, k) :: st, w, bc, bs)) : zG p l e R s m args below meth c Q D cA ro b w0 nL mcT msT pc (ls, st, w, bc, bs) := by
  intro n H locs ce sl la hH hS hn hl h1 h2
  obtain ⟨hx, hb, hml, hown, hts, hK, hNst, hAO, hSt, hRo, hW0⟩ := C
  exact lv_sipush hx hb hd (zb16 hr) (K n H locs ce sl la hH hS hn hl h1 h2)
theorem zo_ldc (C : zCx p s m c args cc nL own D cA ro b w0) {k : Int} {ix : Nat} (hw : Cond.constant own ix (Int32.ofInt k) ∈ zgt) (hd : decode cc pc = .ok (.ldc ix, 2)) (K : zG p l e R s m args below meth c Q D cA ro b w0 nL mcT msT (pc + 2) (ls, (0, k) :: st, w, bc, bs)) : zG p l e R s m args below meth c Q D cA ro b w0 nL mcT msT pc (ls, st, w, bc, bs) := by
  intro n H locs ce sl la hH hS hn hl h1 h2
  obtain ⟨hx, hb, hml, hown, hts, hK, hNst, hAO, hSt, hRo, hW0⟩ := C
  exact lv_ldc hx hb hown (hts _ hw) hd (K n H locs ce sl la hH hS hn hl h1 h2)
theorem zo_ldcw (C : zCx p s m c args cc nL own D cA ro b w0) {k : Int} {ix : Nat} (hw : Cond.constant own ix (Int32.ofInt k) ∈ zgt) (hd : decode cc pc = .ok (.ldc_w ix, 3)) (K : zG p l e R s m args below meth c Q D cA ro b w0 nL mcT msT (pc + 3) (ls, (0, k) :: st, w, bc, bs)) : zG p l e R s m args below meth c Q D cA ro b w0 nL mcT msT pc (ls, st, w, bc, bs) := by
  intro n H locs ce sl la hH hS hn hl h1 h2
  obtain ⟨hx, hb, hml, hown, hts, hK, hNst, hAO, hSt, hRo, hW0⟩ := C
  exact lv_ldcw hx hb hown (hts _ hw) hd (K n H locs ce sl la hH hS hn hl h1 h2)
theorem zo_ldc2 (C : zCx p s m c args cc nL own D cA ro b w0) {k : Int} {ix : Nat} (hw : Cond.constantLong own ix (Int64.ofInt k) ∈ zgt) (hd : decode cc pc = .ok (.ldc2_w ix, 3)) (K : zG p l e R s m args below meth c Q D cA ro b w0 nL mcT msT (pc + 3) (ls, (1, k) :: st, w, bc, bs)) : zG p l e R s m args below meth c Q D cA ro b w0 nL mcT msT pc (ls, st, w, bc, bs) := by
  intro n H locs ce sl la hH hS hn hl h1 h2
  obtain ⟨hx, hb, hml, hown, hts, hK, hNst, hAO, hSt, hRo, hW0⟩ := C
  exact lv_ldc2 hx hb hown (hts _ hw) hd (K n H locs ce sl la hH hS hn hl h1 h2)
theorem zo_lconst (C : zCx p s m c args cc nL own D cA ro b w0) {k : Fin 2} (hd : decode cc pc = .ok (.lconst k, 1)) (K : zG p l e R s m args below meth c Q D cA ro b w0 nL mcT msT (pc + 1) (ls, (1, ((k : Nat) : Int)) :: st, w, bc, bs)) : zG p l e R s m args below meth c Q D cA ro b w0 nL mcT msT pc (ls, st, w, bc, bs) := by
  intro n H locs ce sl la hH hS hn hl h1 h2
  obtain ⟨hx, hb, hml, hown, hts, hK, hNst, hAO, hSt, hRo, hW0⟩ := C
  exact lv_lconst hx hb hd (by rfl) (K n H locs ce sl la hH hS hn hl h1 h2)
theorem zo_iload (C : zCx p s m c args cc nL own D cA ro b w0) {k : Nat} {x : Int} (hk : znth ls k = (0, x)) (hd : decode cc pc = .ok (.iload k, 2)) (K : zG p l e R s m args below meth c Q D cA ro b w0 nL mcT msT (pc + 2) (ls, (0, x) :: st, w, bc, bs)) : zG p l e R s m args below meth c Q D cA ro b w0 nL mcT msT pc (ls, st, w, bc, bs) := by
  intro n H locs ce sl la hH hS hn hl h1 h2
  obtain ⟨hx, hb, hml, hown, hts, hK, hNst, hAO, hSt, hRo, hW0⟩ := C
  exact lv_iload hx hb hd (zlv_at hl hk (by decide)) (K n H locs ce sl la hH hS hn hl h1 h2)
theorem zo_iload_n (C : zCx p s m c args cc nL own D cA ro b w0) {k : Fin 4} {x : Int} (hk : znth ls k = (0, x)) (hd : decode cc pc = .ok (.iload_n k, 1)) (K : zG p l e R s m args below meth c Q D cA ro b w0 nL mcT msT (pc + 1) (ls, (0, x) :: st, w, bc, bs)) : zG p l e R s m args below meth c Q D cA ro b w0 nL mcT msT pc (ls, st, w, bc, bs) := by
  intro n H locs ce sl la hH hS hn hl h1 h2
  obtain ⟨hx, hb, hml, hown, hts, hK, hNst, hAO, hSt, hRo, hW0⟩ := C
  exact lv_iload_n hx hb hd rfl (zlv_at hl hk (by decide)) (K n H locs ce sl la hH hS hn hl h1 h2)
theorem zo_lload (C : zCx p s m c args cc nL own D cA ro b w0) {k : Nat} {x : Int} (hk : znth ls k = (1, x)) (hd : decode cc pc = .ok (.lload k, 2)) (K : zG p l e R s m args below meth c Q D cA ro b w0 nL mcT msT (pc + 2) (ls, (1, x) :: st, w, bc, bs)) : zG p l e R s m args below meth c Q D cA ro b w0 nL mcT msT pc (ls, st, w, bc, bs) := by
  intro n H locs ce sl la hH hS hn hl h1 h2
  obtain ⟨hx, hb, hml, hown, hts, hK, hNst, hAO, hSt, hRo, hW0⟩ := C
  exact lv_lload hx hb hd (zlv_at hl hk (by decide)) (K n H locs ce sl la hH hS hn hl h1 h2)
theorem zo_lload_n (C : zCx p s m c args cc nL own D cA ro b w0) {k : Fin 4} {x : Int} (hk : znth ls k = (1, x)) (hd : decode cc pc = .ok (.lload_n k, 1)) (K : zG p l e R s m args below meth c Q D cA ro b w0 nL mcT msT (pc + 1) (ls, (1, x) :: st, w, bc, bs)) : zG p l e R s m args below meth c Q D cA ro b w0 nL mcT msT pc (ls, st, w, bc, bs) := by
  intro n H locs ce sl la hH hS hn hl h1 h2
  obtain ⟨hx, hb, hml, hown, hts, hK, hNst, hAO, hSt, hRo, hW0⟩ := C
  exact lv_lload_n hx hb hd rfl (zlv_at hl hk (by decide)) (K n H locs ce sl la hH hS hn hl h1 h2)
theorem zo_aload (C : zCx p s m c args cc nL own D cA ro b w0) {k : Nat} {x : Int} (hk : znth ls k = (2, x)) (hd : decode cc pc = .ok (.aload k, 2)) (K : zG p l e R s m args below meth c Q D cA ro b w0 nL mcT msT (pc + 2) (ls, (2, x) :: st, w, bc, bs)) : zG p l e R s m args below meth c Q D cA ro b w0 nL mcT msT pc (ls, st, w, bc, bs) := by
  intro n H locs ce sl la hH hS hn hl h1 h2
  obtain ⟨hx, hb, hml, hown, hts, hK, hNst, hAO, hSt, hRo, hW0⟩ := C
  have h3 := zlv_at hl hk (by decide)
  have k3 := K n H locs ce sl la hH hS hn hl h1 h2
  by_cases h : 0 ≤ x
  · rw [List.map_cons, zval_r ro b h] at k3
    rw [zval_r ro b h] at h3
    exact lv_aload hx hb hd h3 k3
  · rw [List.map_cons, zval_n ro b h] at k3
    rw [zval_n ro b h] at h3
    exact lv_aloadN hx hb hd h3 k3
theorem zo_aload_n (C : zCx p s m c args cc nL own D cA ro b w0) {k : Fin 4} {x : Int} (hk : znth ls k = (2, x)) (hd : decode cc pc = .ok (.aload_n k, 1)) (K : zG p l e R s m args below meth c Q D cA ro b w0 nL mcT msT (pc + 1) (ls, (2, x) :: st, w, bc, bs)) : zG p l e R s m args below meth c Q D cA ro b w0 nL mcT msT pc (ls, st, w, bc, bs) := by
  intro n H locs ce sl la hH hS hn hl h1 h2
  obtain ⟨hx, hb, hml, hown, hts, hK, hNst, hAO, hSt, hRo, hW0⟩ := C
  have h3 := zlv_at hl hk (by decide)
  have k3 := K n H locs ce sl la hH hS hn hl h1 h2
  by_cases h : 0 ≤ x
  · rw [List.map_cons, zval_r ro b h] at k3
    rw [zval_r ro b h] at h3
    exact lv_aload_n hx hb hd rfl h3 k3
  · rw [List.map_cons, zval_n ro b h] at k3
    rw [zval_n ro b h] at h3
    exact lv_aload_nN hx hb hd rfl h3 k3
theorem zo_istore (C : zCx p s m c args cc nL own D cA ro b w0) {k : Nat} {x : Int} (hk : (k : Nat) < ls.length) (hd : decode cc pc = .ok (.istore k, 2)) (K : zG p l e R s m args below meth c Q D cA ro b w0 nL mcT msT (pc + 2) (zst1 ls k (0, x), st, w, bc, bs)) : zG p l e R s m args below meth c Q D cA ro b w0 nL mcT msT pc (ls, (0, x) :: st, w, bc, bs) := by
  intro n H locs ce sl la hH hS hn hl h1 h2
  obtain ⟨hx, hb, hml, hown, hts, hK, hNst, hAO, hSt, hRo, hW0⟩ := C
  refine lv_istore hx hb hd  hl (by have hq : ls.length = nL := hn; omega) rfl (fun la2 hl2 => ?_)
  exact K n H locs ce sl la2 hH hS (by rw [zst1_len]; exact hn) (zlv_less hl2 (zlv_st1 hk)) h1 h2
theorem zo_istore_n (C : zCx p s m c args cc nL own D cA ro b w0) {k : Fin 4} {x : Int} (hk : (k : Nat) < ls.length) (hd : decode cc pc = .ok (.istore_n k, 1)) (K : zG p l e R s m args below meth c Q D cA ro b w0 nL mcT msT (pc + 1) (zst1 ls k (0, x), st, w, bc, bs)) : zG p l e R s m args below meth c Q D cA ro b w0 nL mcT msT pc (ls, (0, x) :: st, w, bc, bs) := by
  intro n H locs ce sl la hH hS hn hl h1 h2
  obtain ⟨hx, hb, hml, hown, hts, hK, hNst, hAO, hSt, hRo, hW0⟩ := C
  refine lv_istore_n hx hb hd rfl hl (by have hq : ls.length = nL := hn; omega) rfl (fun la2 hl2 => ?_)
  exact K n H locs ce sl la2 hH hS (by rw [zst1_len]; exact hn) (zlv_less hl2 (zlv_st1 hk)) h1 h2
theorem zo_lstore (C : zCx p s m c args cc nL own D cA ro b w0) {k : Nat} {x : Int} (hk : k + 1 < ls.length) (hd : decode cc pc = .ok (.lstore k, 2)) (K : zG p l e R s m args below meth c Q D cA ro b w0 nL mcT msT (pc + 2) (zst2 ls k (1, x), st, w, bc, bs)) : zG p l e R s m args below meth c Q D cA ro b w0 nL mcT msT pc (ls, (1, x) :: st, w, bc, bs) := by
  intro n H locs ce sl la hH hS hn hl h1 h2
  obtain ⟨hx, hb, hml, hown, hts, hK, hNst, hAO, hSt, hRo, hW0⟩ := C
  refine lv_lstore hx hb hd  hl (by have hq : ls.length = nL := hn; omega) rfl (fun la2 hl2 => ?_)
  exact K n H locs ce sl la2 hH hS (by rw [zst2_len]; exact hn) (zlv_less hl2 (zlv_st2 hk)) h1 h2
theorem zo_lstore_n (C : zCx p s m c args cc nL own D cA ro b w0) {k : Fin 4} {x : Int} (hk : (k : Nat) + 1 < ls.length) (hd : decode cc pc = .ok (.lstore_n k, 1)) (K : zG p l e R s m args below meth c Q D cA ro b w0 nL mcT msT (pc + 1) (zst2 ls k (1, x), st, w, bc, bs)) : zG p l e R s m args below meth c Q D cA ro b w0 nL mcT msT pc (ls, (1, x) :: st, w, bc, bs) := by
  intro n H locs ce sl la hH hS hn hl h1 h2
  obtain ⟨hx, hb, hml, hown, hts, hK, hNst, hAO, hSt, hRo, hW0⟩ := C
  refine lv_lstore_n hx hb hd rfl hl (by have hq : ls.length = nL := hn; omega) rfl (fun la2 hl2 => ?_)
  exact K n H locs ce sl la2 hH hS (by rw [zst2_len]; exact hn) (zlv_less hl2 (zlv_st2 hk)) h1 h2
theorem zo_astore (C : zCx p s m c args cc nL own D cA ro b w0) {k : Nat} {x : Int} (hk : (k : Nat) < ls.length) (hd : decode cc pc = .ok (.astore k, 2)) (K : zG p l e R s m args below meth c Q D cA ro b w0 nL mcT msT (pc + 2) (zst1 ls k (2, x), st, w, bc, bs)) : zG p l e R s m args below meth c Q D cA ro b w0 nL mcT msT pc (ls, (2, x) :: st, w, bc, bs) := by
  intro n H locs ce sl la hH hS hn hl h1 h2
  obtain ⟨hx, hb, hml, hown, hts, hK, hNst, hAO, hSt, hRo, hW0⟩ := C
  have h5 := @zlv_st1 ro b ls k (2, x) hk
  have k3 := fun la2 hl2 => K n H locs ce sl la2 hH hS (by rw [zst1_len]; exact hn) (zlv_less hl2 h5) h1 h2
  rw [List.map_cons]
  by_cases h : 0 ≤ x
  · rw [zval_r ro b h] at h5 k3 ⊢
    exact lv_astore hx hb hd hl (by have hq : ls.length = nL := hn; omega) rfl k3
  · rw [zval_n ro b h] at h5 k3 ⊢
    exact lv_astoreN hx hb hd hl (by have hq : ls.length = nL := hn; omega) rfl k3
theorem zo_astore_n (C : zCx p s m c args cc nL own D cA ro b w0) {k : Fin 4} {x : Int} (hk : (k : Nat) < ls.length) (hd : decode cc pc = .ok (.astore_n k, 1)) (K : zG p l e R s m args below meth c Q D cA ro b w0 nL mcT msT (pc + 1) (zst1 ls k (2, x), st, w, bc, bs)) : zG p l e R s m args below meth c Q D cA ro b w0 nL mcT msT pc (ls, (2, x) :: st, w, bc, bs) := by
  intro n H locs ce sl la hH hS hn hl h1 h2
  obtain ⟨hx, hb, hml, hown, hts, hK, hNst, hAO, hSt, hRo, hW0⟩ := C
  have h5 := @zlv_st1 ro b ls k (2, x) hk
  have k3 := fun la2 hl2 => K n H locs ce sl la2 hH hS (by rw [zst1_len]; exact hn) (zlv_less hl2 h5) h1 h2
  rw [List.map_cons]
  by_cases h : 0 ≤ x
  · rw [zval_r ro b h] at h5 k3 ⊢
    exact lv_astore_n hx hb hd rfl hl (by have hq : ls.length = nL := hn; omega) rfl k3
  · rw [zval_n ro b h] at h5 k3 ⊢
    exact lv_astore_nN hx hb hd rfl hl (by have hq : ls.length = nL := hn; omega) rfl k3
theorem zo_iinc (C : zCx p s m c args cc nL own D cA ro b w0) {k : Nat} {x v : Int} (hk : znth ls k = (0, x)) (hd : decode cc pc = .ok (.iinc k v, 3)) (K : zG p l e R s m args below meth c Q D cA ro b w0 nL mcT msT (pc + 3) (zst1 ls k (0, x + v), st, w, bc, bs)) : zG p l e R s m args below meth c Q D cA ro b w0 nL mcT msT pc (ls, st, w, bc, bs) := by
  intro n H locs ce sl la hH hS hn hl h1 h2
  obtain ⟨hx, hb, hml, hown, hts, hK, hNst, hAO, hSt, hRo, hW0⟩ := C
  have hm : (k, Value.int (Int32.ofInt x)) ∈ zlv ro b 0 ls := by
    have hl : k < ls.length := Nat.lt_of_not_le fun h => by
      have : ∀ (l : List zV) (k : Nat), l.length ≤ k → znth l k = (3, 0) := by
        intro l
        induction l with
        | nil => intro k _; rfl
        | cons a l ih => intro k hk; cases k with
          | zero => simp at hk
          | succ k => exact ih k (by simpa using hk)
      rw [this ls k h] at hk
      cases hk
    exact (zlv_mem ls 0).mpr ⟨k, hl, by rw [hk]; exact (by decide : (0 : Nat) ≠ 3), by rw [hk, zval_0]; simp⟩
  have hkl : k < ls.length := by
    obtain ⟨i, h3, -, h4⟩ := (zlv_mem ls 0).mp hm
    have : k = 0 + i := congrArg Prod.fst h4
    omega
  obtain ⟨i, hi⟩ := List.getElem?_of_mem hm
  refine lv_iinc (v := Int32.ofInt (x + v)) hx hb hd hl hi (by rw [Int32.ofInt_add]) (by have hq : ls.length = nL := hn; omega) rfl (fun la2 hl2 => ?_)
  exact K n H locs ce sl la2 hH hS (by rw [zst1_len]; exact hn) (zlv_less hl2 (zlv_st1 hkl)) h1 h2
theorem zo_iadd (C : zCx p s m c args cc nL own D cA ro b w0) {x y : Int} (hd : decode cc pc = .ok (.iadd, 1)) (K : zG p l e R s m args below meth c Q D cA ro b w0 nL mcT msT (pc + 1) (ls, (0, zbin 0 x y) :: st, w, bc, bs)) : zG p l e R s m args below meth c Q D cA ro b w0 nL mcT msT pc (ls, (0, y) :: (0, x) :: st, w, bc, bs) := by
  intro n H locs ce sl la hH hS hn hl h1 h2
  obtain ⟨hx, hb, hml, hown, hts, hK, hNst, hAO, hSt, hRo, hW0⟩ := C
  have k3 := K n H locs ce sl la hH hS hn hl h1 h2
  rw [List.map_cons, zval_0, show Int32.ofInt (zbin 0 x y) = _ from Int32.ofInt_add x y] at k3
  exact lv_iadd hx hb hd k3
theorem zo_isub (C : zCx p s m c args cc nL own D cA ro b w0) {x y : Int} (hd : decode cc pc = .ok (.isub, 1)) (K : zG p l e R s m args below meth c Q D cA ro b w0 nL mcT msT (pc + 1) (ls, (0, zbin 1 x y) :: st, w, bc, bs)) : zG p l e R s m args below meth c Q D cA ro b w0 nL mcT msT pc (ls, (0, y) :: (0, x) :: st, w, bc, bs) := by
  intro n H locs ce sl la hH hS hn hl h1 h2
  obtain ⟨hx, hb, hml, hown, hts, hK, hNst, hAO, hSt, hRo, hW0⟩ := C
  have k3 := K n H locs ce sl la hH hS hn hl h1 h2
  rw [List.map_cons, zval_0, show Int32.ofInt (zbin 1 x y) = _ from Int32.ofInt_sub x y] at k3
  exact lv_isub hx hb hd k3
theorem zo_imul (C : zCx p s m c args cc nL own D cA ro b w0) {x y : Int} (hd : decode cc pc = .ok (.imul, 1)) (K : zG p l e R s m args below meth c Q D cA ro b w0 nL mcT msT (pc + 1) (ls, (0, zbin 2 x y) :: st, w, bc, bs)) : zG p l e R s m args below meth c Q D cA ro b w0 nL mcT msT pc (ls, (0, y) :: (0, x) :: st, w, bc, bs) := by
  intro n H locs ce sl la hH hS hn hl h1 h2
  obtain ⟨hx, hb, hml, hown, hts, hK, hNst, hAO, hSt, hRo, hW0⟩ := C
  have k3 := K n H locs ce sl la hH hS hn hl h1 h2
  rw [List.map_cons, zval_0, show Int32.ofInt (zbin 2 x y) = _ from Int32.ofInt_mul x y] at k3
  exact lv_imul hx hb hd k3
theorem zo_iand (C : zCx p s m c args cc nL own D cA ro b w0) {x y : Int} (hd : decode cc pc = .ok (.iand, 1)) (K : zG p l e R s m args below meth c Q D cA ro b w0 nL mcT msT (pc + 1) (ls, (0, zbin 3 x y) :: st, w, bc, bs)) : zG p l e R s m args below meth c Q D cA ro b w0 nL mcT msT pc (ls, (0, y) :: (0, x) :: st, w, bc, bs) := by
  intro n H locs ce sl la hH hS hn hl h1 h2
  obtain ⟨hx, hb, hml, hown, hts, hK, hNst, hAO, hSt, hRo, hW0⟩ := C
  have k3 := K n H locs ce sl la hH hS hn hl h1 h2
  rw [List.map_cons, zval_0, show Int32.ofInt (zbin 3 x y) = _ from Int32.ofInt_toInt _] at k3
  exact lv_iand hx hb hd k3
theorem zo_ior (C : zCx p s m c args cc nL own D cA ro b w0) {x y : Int} (hd : decode cc pc = .ok (.ior, 1)) (K : zG p l e R s m args below meth c Q D cA ro b w0 nL mcT msT (pc + 1) (ls, (0, zbin 4 x y) :: st, w, bc, bs)) : zG p l e R s m args below meth c Q D cA ro b w0 nL mcT msT pc (ls, (0, y) :: (0, x) :: st, w, bc, bs) := by
  intro n H locs ce sl la hH hS hn hl h1 h2
  obtain ⟨hx, hb, hml, hown, hts, hK, hNst, hAO, hSt, hRo, hW0⟩ := C
  have k3 := K n H locs ce sl la hH hS hn hl h1 h2
  rw [List.map_cons, zval_0, show Int32.ofInt (zbin 4 x y) = _ from Int32.ofInt_toInt _] at k3
  exact lv_ior hx hb hd k3
theorem zo_ixor (C : zCx p s m c args cc nL own D cA ro b w0) {x y : Int} (hd : decode cc pc = .ok (.ixor, 1)) (K : zG p l e R s m args below meth c Q D cA ro b w0 nL mcT msT (pc + 1) (ls, (0, zbin 5 x y) :: st, w, bc, bs)) : zG p l e R s m args below meth c Q D cA ro b w0 nL mcT msT pc (ls, (0, y) :: (0, x) :: st, w, bc, bs) := by
  intro n H locs ce sl la hH hS hn hl h1 h2
  obtain ⟨hx, hb, hml, hown, hts, hK, hNst, hAO, hSt, hRo, hW0⟩ := C
  have k3 := K n H locs ce sl la hH hS hn hl h1 h2
  rw [List.map_cons, zval_0, show Int32.ofInt (zbin 5 x y) = _ from Int32.ofInt_toInt _] at k3
  exact lv_ixor hx hb hd k3
theorem zo_ishl (C : zCx p s m c args cc nL own D cA ro b w0) {x y : Int} (hd : decode cc pc = .ok (.ishl, 1)) (K : zG p l e R s m args below meth c Q D cA ro b w0 nL mcT msT (pc + 1) (ls, (0, zbin 6 x y) :: st, w, bc, bs)) : zG p l e R s m args below meth c Q D cA ro b w0 nL mcT msT pc (ls, (0, y) :: (0, x) :: st, w, bc, bs) := by
  intro n H locs ce sl la hH hS hn hl h1 h2
  obtain ⟨hx, hb, hml, hown, hts, hK, hNst, hAO, hSt, hRo, hW0⟩ := C
  have k3 := K n H locs ce sl la hH hS hn hl h1 h2
  rw [List.map_cons, zval_0, show Int32.ofInt (zbin 6 x y) = _ from Int32.ofInt_toInt _] at k3
  exact lv_ishl hx hb hd k3
theorem zo_ishr (C : zCx p s m c args cc nL own D cA ro b w0) {x y : Int} (hd : decode cc pc = .ok (.ishr, 1)) (K : zG p l e R s m args below meth c Q D cA ro b w0 nL mcT msT (pc + 1) (ls, (0, zbin 7 x y) :: st, w, bc, bs)) : zG p l e R s m args below meth c Q D cA ro b w0 nL mcT msT pc (ls, (0, y) :: (0, x) :: st, w, bc, bs) := by
  intro n H locs ce sl la hH hS hn hl h1 h2
  obtain ⟨hx, hb, hml, hown, hts, hK, hNst, hAO, hSt, hRo, hW0⟩ := C
  have k3 := K n H locs ce sl la hH hS hn hl h1 h2
  rw [List.map_cons, zval_0, show Int32.ofInt (zbin 7 x y) = _ from Int32.ofInt_toInt _] at k3
  exact lv_ishr hx hb hd k3
theorem zo_iushr (C : zCx p s m c args cc nL own D cA ro b w0) {x y : Int} (hd : decode cc pc = .ok (.iushr, 1)) (K : zG p l e R s m args below meth c Q D cA ro b w0 nL mcT msT (pc + 1) (ls, (0, zbin 8 x y) :: st, w, bc, bs)) : zG p l e R s m args below meth c Q D cA ro b w0 nL mcT msT pc (ls, (0, y) :: (0, x) :: st, w, bc, bs) := by
  intro n H locs ce sl la hH hS hn hl h1 h2
  obtain ⟨hx, hb, hml, hown, hts, hK, hNst, hAO, hSt, hRo, hW0⟩ := C
  have k3 := K n H locs ce sl la hH hS hn hl h1 h2
  rw [List.map_cons, zval_0, show Int32.ofInt (zbin 8 x y) = _ from Int32.ofInt_toInt _] at k3
  exact lv_iushr hx hb hd rfl k3
theorem zo_ineg (C : zCx p s m c args cc nL own D cA ro b w0) {x : Int} (hd : decode cc pc = .ok (.ineg, 1)) (K : zG p l e R s m args below meth c Q D cA ro b w0 nL mcT msT (pc + 1) (ls, (0, -x) :: st, w, bc, bs)) : zG p l e R s m args below meth c Q D cA ro b w0 nL mcT msT pc (ls, (0, x) :: st, w, bc, bs) := by
  intro n H locs ce sl la hH hS hn hl h1 h2
  obtain ⟨hx, hb, hml, hown, hts, hK, hNst, hAO, hSt, hRo, hW0⟩ := C
  have k3 := K n H locs ce sl la hH hS hn hl h1 h2
  rw [List.map_cons, zval_0, Int32.ofInt_neg] at k3
  exact lv_ineg hx hb hd k3
theorem zo_idiv (C : zCx p s m c args cc nL own D cA ro b w0) {x y : Int} (hy : ¬ wr y = 0) (hd : decode cc pc = .ok (.idiv, 1)) (K : zG p l e R s m args below meth c Q D cA ro b w0 nL mcT msT (pc + 1) (ls, (0, zdiv 0 x y) :: st, w, bc, bs)) : zG p l e R s m args below meth c Q D cA ro b w0 nL mcT msT pc (ls, (0, y) :: (0, x) :: st, w, bc, bs) := by
  intro n H locs ce sl la hH hS hn hl h1 h2
  obtain ⟨hx, hb, hml, hown, hts, hK, hNst, hAO, hSt, hRo, hW0⟩ := C
  have k3 := K n H locs ce sl la hH hS hn hl h1 h2
  rw [List.map_cons, zval_0, show Int32.ofInt (zdiv 0 x y) = _ from Int32.ofInt_toInt _] at k3
  exact lv_idiv hx hb hd (fun h => hy (by unfold wr; rw [h]; rfl)) k3
theorem zo_irem (C : zCx p s m c args cc nL own D cA ro b w0) {x y : Int} (hy : ¬ wr y = 0) (hd : decode cc pc = .ok (.irem, 1)) (K : zG p l e R s m args below meth c Q D cA ro b w0 nL mcT msT (pc + 1) (ls, (0, zdiv 1 x y) :: st, w, bc, bs)) : zG p l e R s m args below meth c Q D cA ro b w0 nL mcT msT pc (ls, (0, y) :: (0, x) :: st, w, bc, bs) := by
  intro n H locs ce sl la hH hS hn hl h1 h2
  obtain ⟨hx, hb, hml, hown, hts, hK, hNst, hAO, hSt, hRo, hW0⟩ := C
  have k3 := K n H locs ce sl la hH hS hn hl h1 h2
  rw [List.map_cons, zval_0, show Int32.ofInt (zdiv 1 x y) = _ from Int32.ofInt_toInt _] at k3
  exact lv_irem hx hb hd (fun h => hy (by unfold wr; rw [h]; rfl)) k3
theorem zo_ladd (C : zCx p s m c args cc nL own D cA ro b w0) {x y : Int} (hd : decode cc pc = .ok (.ladd, 1)) (K : zG p l e R s m args below meth c Q D cA ro b w0 nL mcT msT (pc + 1) (ls, (1, zlbin 0 x y) :: st, w, bc, bs)) : zG p l e R s m args below meth c Q D cA ro b w0 nL mcT msT pc (ls, (1, y) :: (1, x) :: st, w, bc, bs) := by
  intro n H locs ce sl la hH hS hn hl h1 h2
  obtain ⟨hx, hb, hml, hown, hts, hK, hNst, hAO, hSt, hRo, hW0⟩ := C
  have k3 := K n H locs ce sl la hH hS hn hl h1 h2
  rw [List.map_cons, zval_1, show Int64.ofInt (zlbin 0 x y) = _ from Int64.ofInt_add x y] at k3
  exact lv_ladd hx hb hd k3
theorem zo_lsub (C : zCx p s m c args cc nL own D cA ro b w0) {x y : Int} (hd : decode cc pc = .ok (.lsub, 1)) (K : zG p l e R s m args below meth c Q D cA ro b w0 nL mcT msT (pc + 1) (ls, (1, zlbin 1 x y) :: st, w, bc, bs)) : zG p l e R s m args below meth c Q D cA ro b w0 nL mcT msT pc (ls, (1, y) :: (1, x) :: st, w, bc, bs) := by
  intro n H locs ce sl la hH hS hn hl h1 h2
  obtain ⟨hx, hb, hml, hown, hts, hK, hNst, hAO, hSt, hRo, hW0⟩ := C
  have k3 := K n H locs ce sl la hH hS hn hl h1 h2
  rw [List.map_cons, zval_1, show Int64.ofInt (zlbin 1 x y) = _ from Int64.ofInt_sub x y] at k3
  exact lv_lsub hx hb hd k3
theorem zo_lmul (C : zCx p s m c args cc nL own D cA ro b w0) {x y : Int} (hd : decode cc pc = .ok (.lmul, 1)) (K : zG p l e R s m args below meth c Q D cA ro b w0 nL mcT msT (pc + 1) (ls, (1, zlbin 2 x y) :: st, w, bc, bs)) : zG p l e R s m args below meth c Q D cA ro b w0 nL mcT msT pc (ls, (1, y) :: (1, x) :: st, w, bc, bs) := by
  intro n H locs ce sl la hH hS hn hl h1 h2
  obtain ⟨hx, hb, hml, hown, hts, hK, hNst, hAO, hSt, hRo, hW0⟩ := C
  have k3 := K n H locs ce sl la hH hS hn hl h1 h2
  rw [List.map_cons, zval_1, show Int64.ofInt (zlbin 2 x y) = _ from Int64.ofInt_mul x y] at k3
  exact lv_lmul hx hb hd k3
theorem zo_land (C : zCx p s m c args cc nL own D cA ro b w0) {x y : Int} (hd : decode cc pc = .ok (.land, 1)) (K : zG p l e R s m args below meth c Q D cA ro b w0 nL mcT msT (pc + 1) (ls, (1, zlbin 3 x y) :: st, w, bc, bs)) : zG p l e R s m args below meth c Q D cA ro b w0 nL mcT msT pc (ls, (1, y) :: (1, x) :: st, w, bc, bs) := by
  intro n H locs ce sl la hH hS hn hl h1 h2
  obtain ⟨hx, hb, hml, hown, hts, hK, hNst, hAO, hSt, hRo, hW0⟩ := C
  have k3 := K n H locs ce sl la hH hS hn hl h1 h2
  rw [List.map_cons, zval_1, show Int64.ofInt (zlbin 3 x y) = _ from Int64.ofInt_toInt _] at k3
  exact lv_land hx hb hd k3
theorem zo_lor (C : zCx p s m c args cc nL own D cA ro b w0) {x y : Int} (hd : decode cc pc = .ok (.lor, 1)) (K : zG p l e R s m args below meth c Q D cA ro b w0 nL mcT msT (pc + 1) (ls, (1, zlbin 4 x y) :: st, w, bc, bs)) : zG p l e R s m args below meth c Q D cA ro b w0 nL mcT msT pc (ls, (1, y) :: (1, x) :: st, w, bc, bs) := by
  intro n H locs ce sl la hH hS hn hl h1 h2
  obtain ⟨hx, hb, hml, hown, hts, hK, hNst, hAO, hSt, hRo, hW0⟩ := C
  have k3 := K n H locs ce sl la hH hS hn hl h1 h2
  rw [List.map_cons, zval_1, show Int64.ofInt (zlbin 4 x y) = _ from Int64.ofInt_toInt _] at k3
  exact lv_lor hx hb hd k3
theorem zo_ldiv (C : zCx p s m c args cc nL own D cA ro b w0) {x y : Int} (hy : ¬ wrl y = 0) (hd : decode cc pc = .ok (.ldiv, 1)) (K : zG p l e R s m args below meth c Q D cA ro b w0 nL mcT msT (pc + 1) (ls, (1, zldiv 0 x y) :: st, w, bc, bs)) : zG p l e R s m args below meth c Q D cA ro b w0 nL mcT msT pc (ls, (1, y) :: (1, x) :: st, w, bc, bs) := by
  intro n H locs ce sl la hH hS hn hl h1 h2
  obtain ⟨hx, hb, hml, hown, hts, hK, hNst, hAO, hSt, hRo, hW0⟩ := C
  have k3 := K n H locs ce sl la hH hS hn hl h1 h2
  rw [List.map_cons, zval_1, show Int64.ofInt (zldiv 0 x y) = _ from Int64.ofInt_toInt _] at k3
  exact lv_ldiv hx hb hd (fun h => hy (by unfold wrl; rw [h]; rfl)) k3
theorem zo_lrem (C : zCx p s m c args cc nL own D cA ro b w0) {x y : Int} (hy : ¬ wrl y = 0) (hd : decode cc pc = .ok (.lrem, 1)) (K : zG p l e R s m args below meth c Q D cA ro b w0 nL mcT msT (pc + 1) (ls, (1, zldiv 1 x y) :: st, w, bc, bs)) : zG p l e R s m args below meth c Q D cA ro b w0 nL mcT msT pc (ls, (1, y) :: (1, x) :: st, w, bc, bs) := by
  intro n H locs ce sl la hH hS hn hl h1 h2
  obtain ⟨hx, hb, hml, hown, hts, hK, hNst, hAO, hSt, hRo, hW0⟩ := C
  have k3 := K n H locs ce sl la hH hS hn hl h1 h2
  rw [List.map_cons, zval_1, show Int64.ofInt (zldiv 1 x y) = _ from Int64.ofInt_toInt _] at k3
  exact lv_lrem hx hb hd (fun h => hy (by unfold wrl; rw [h]; rfl)) k3
theorem zo_lshl (C : zCx p s m c args cc nL own D cA ro b w0) {x y : Int} (hd : decode cc pc = .ok (.lshl, 1)) (K : zG p l e R s m args below meth c Q D cA ro b w0 nL mcT msT (pc + 1) (ls, (1, zlsh 0 x y) :: st, w, bc, bs)) : zG p l e R s m args below meth c Q D cA ro b w0 nL mcT msT pc (ls, (0, y) :: (1, x) :: st, w, bc, bs) := by
  intro n H locs ce sl la hH hS hn hl h1 h2
  obtain ⟨hx, hb, hml, hown, hts, hK, hNst, hAO, hSt, hRo, hW0⟩ := C
  have k3 := K n H locs ce sl la hH hS hn hl h1 h2
  rw [List.map_cons, zval_1, show Int64.ofInt (zlsh 0 x y) = _ from Int64.ofInt_toInt _] at k3
  exact lv_lshl hx hb hd rfl k3
theorem zo_lushr (C : zCx p s m c args cc nL own D cA ro b w0) {x y : Int} (hd : decode cc pc = .ok (.lushr, 1)) (K : zG p l e R s m args below meth c Q D cA ro b w0 nL mcT msT (pc + 1) (ls, (1, zlsh 1 x y) :: st, w, bc, bs)) : zG p l e R s m args below meth c Q D cA ro b w0 nL mcT msT pc (ls, (0, y) :: (1, x) :: st, w, bc, bs) := by
  intro n H locs ce sl la hH hS hn hl h1 h2
  obtain ⟨hx, hb, hml, hown, hts, hK, hNst, hAO, hSt, hRo, hW0⟩ := C
  have k3 := K n H locs ce sl la hH hS hn hl h1 h2
  rw [List.map_cons, zval_1, show Int64.ofInt (zlsh 1 x y) = _ from Int64.ofInt_toInt _] at k3
  exact lv_lushr hx hb hd rfl k3
theorem zlcmp_eq (x y : Int) : Int32.ofInt (zlcmp x y) = lg_cmp (Int64.ofInt x) (Int64.ofInt y) := by
  unfold zlcmp lg_cmp wrl
  by_cases h1 : (Int64.ofInt y).toInt < (Int64.ofInt x).toInt
  · rw [if_pos h1]
    have h1' : Int64.ofInt y < Int64.ofInt x := Int64.lt_iff_toInt_lt.mpr h1
    simp [h1']
  · rw [if_neg h1]
    have h1' : ¬ Int64.ofInt y < Int64.ofInt x := fun h => h1 (Int64.lt_iff_toInt_lt.mp h)
    by_cases h2 : (Int64.ofInt x).toInt = (Int64.ofInt y).toInt
    · rw [if_pos h2]
      have h2' : Int64.ofInt x = Int64.ofInt y := Int64.toInt_inj.mp h2
      simp [h1', h2']
    · rw [if_neg h2]
      have h2' : ¬ Int64.ofInt x = Int64.ofInt y := fun h => h2 (by rw [h])
      simp [h1', h2']
theorem zo_lcmp (C : zCx p s m c args cc nL own D cA ro b w0) {x y : Int} (hd : decode cc pc = .ok (.lcmp, 1)) (K : zG p l e R s m args below meth c Q D cA ro b w0 nL mcT msT (pc + 1) (ls, (0, zlcmp x y) :: st, w, bc, bs)) : zG p l e R s m args below meth c Q D cA ro b w0 nL mcT msT pc (ls, (1, y) :: (1, x) :: st, w, bc, bs) := by
  intro n H locs ce sl la hH hS hn hl h1 h2
  obtain ⟨hx, hb, hml, hown, hts, hK, hNst, hAO, hSt, hRo, hW0⟩ := C
  have k3 := K n H locs ce sl la hH hS hn hl h1 h2
  rw [List.map_cons, zval_0, zlcmp_eq] at k3
  exact W.lcmp hx hb hd k3
theorem zo_i2l (C : zCx p s m c args cc nL own D cA ro b w0) {x : Int} (hd : decode cc pc = .ok (.i2l, 1)) (K : zG p l e R s m args below meth c Q D cA ro b w0 nL mcT msT (pc + 1) (ls, (1, wr x) :: st, w, bc, bs)) : zG p l e R s m args below meth c Q D cA ro b w0 nL mcT msT pc (ls, (0, x) :: st, w, bc, bs) := by
  intro n H locs ce sl la hH hS hn hl h1 h2
  obtain ⟨hx, hb, hml, hown, hts, hK, hNst, hAO, hSt, hRo, hW0⟩ := C
  exact lv_i2l hx hb hd (by unfold wr; rw [← Int32.toInt_toInt64, Int64.ofInt_toInt]) (K n H locs ce sl la hH hS hn hl h1 h2)
theorem zl2i (x : Int) : (Int64.ofInt x).toInt32 = Int32.ofInt x := by
  apply Int32.toInt_inj.mp
  rw [Int64.toInt_toInt32, Int64.toInt_ofInt, Int32.toInt_ofInt]
  exact Int.bmod_bmod_of_dvd (by decide)
theorem zo_l2i (C : zCx p s m c args cc nL own D cA ro b w0) {x : Int} (hd : decode cc pc = .ok (.l2i, 1)) (K : zG p l e R s m args below meth c Q D cA ro b w0 nL mcT msT (pc + 1) (ls, (0, x) :: st, w, bc, bs)) : zG p l e R s m args below meth c Q D cA ro b w0 nL mcT msT pc (ls, (1, x) :: st, w, bc, bs) := by
  intro n H locs ce sl la hH hS hn hl h1 h2
  obtain ⟨hx, hb, hml, hown, hts, hK, hNst, hAO, hSt, hRo, hW0⟩ := C
  exact lv_l2i hx hb hd (zl2i x) (K n H locs ce sl la hH hS hn hl h1 h2)
theorem zo_i2b (C : zCx p s m c args cc nL own D cA ro b w0) {x : Int} (hd : decode cc pc = .ok (.i2b, 1)) (K : zG p l e R s m args below meth c Q D cA ro b w0 nL mcT msT (pc + 1) (ls, (0, zby x) :: st, w, bc, bs)) : zG p l e R s m args below meth c Q D cA ro b w0 nL mcT msT pc (ls, (0, x) :: st, w, bc, bs) := by
  intro n H locs ce sl la hH hS hn hl h1 h2
  obtain ⟨hx, hb, hml, hown, hts, hK, hNst, hAO, hSt, hRo, hW0⟩ := C
  exact lv_i2b hx hb hd (by unfold zby; rw [← Int8.toInt_toInt32, Int32.ofInt_toInt]) (K n H locs ce sl la hH hS hn hl h1 h2)
theorem zcat1 {t : Nat} {x : Int} (h : t = 0 ∨ t = 2) : (zval ro b (t, x)).category = 1 := by
  rcases h with rfl | rfl
  · rfl
  · by_cases h : 0 ≤ x
    · rw [zval_r ro b h]; rfl
    · rw [zval_n ro b h]; rfl
theorem zo_dup (C : zCx p s m c args cc nL own D cA ro b w0) {t : Nat} {x : Int} (ht : t = 0 ∨ t = 2) (hd : decode cc pc = .ok (.dup, 1)) (K : zG p l e R s m args below meth c Q D cA ro b w0 nL mcT msT (pc + 1) (ls, (t, x) :: (t, x) :: st, w, bc, bs)) : zG p l e R s m args below meth c Q D cA ro b w0 nL mcT msT pc (ls, (t, x) :: st, w, bc, bs) := by
  intro n H locs ce sl la hH hS hn hl h1 h2
  obtain ⟨hx, hb, hml, hown, hts, hK, hNst, hAO, hSt, hRo, hW0⟩ := C
  exact lv_dup hx hb hd (zcat1 ht) (K n H locs ce sl la hH hS hn hl h1 h2)
theorem zo_dup2 (C : zCx p s m c args cc nL own D cA ro b w0) {t u : Nat} {x y : Int} (ht : t = 0 ∨ t = 2) (hu : u = 0 ∨ u = 2) (hd : decode cc pc = .ok (.dup2, 1)) (K : zG p l e R s m args below meth c Q D cA ro b w0 nL mcT msT (pc + 1) (ls, (t, x) :: (u, y) :: (t, x) :: (u, y) :: st, w, bc, bs)) : zG p l e R s m args below meth c Q D cA ro b w0 nL mcT msT pc (ls, (t, x) :: (u, y) :: st, w, bc, bs) := by
  intro n H locs ce sl la hH hS hn hl h1 h2
  obtain ⟨hx, hb, hml, hown, hts, hK, hNst, hAO, hSt, hRo, hW0⟩ := C
  exact lv_dup2_11 hx hb hd (zcat1 ht) (zcat1 hu) (K n H locs ce sl la hH hS hn hl h1 h2)
theorem zo_pop (C : zCx p s m c args cc nL own D cA ro b w0) {t : Nat} {x : Int} (ht : t = 0 ∨ t = 2) (hd : decode cc pc = .ok (.pop, 1)) (K : zG p l e R s m args below meth c Q D cA ro b w0 nL mcT msT (pc + 1) (ls, st, w, bc, bs)) : zG p l e R s m args below meth c Q D cA ro b w0 nL mcT msT pc (ls, (t, x) :: st, w, bc, bs) := by
  intro n H locs ce sl la hH hS hn hl h1 h2
  obtain ⟨hx, hb, hml, hown, hts, hK, hNst, hAO, hSt, hRo, hW0⟩ := C
  exact lv_pop hx hb hd (zcat1 ht) (K n H locs ce sl la hH hS hn hl h1 h2)
theorem zc_eq (x y : Int) : zcond 0 x y ↔ Int32.ofInt x = Int32.ofInt y := by unfold zcond wr; rw [if_pos rfl, decide_eq_true_iff, Int32.toInt_inj]
theorem zc_ne (x y : Int) : zcond 1 x y ↔ ¬ Int32.ofInt x = Int32.ofInt y := by unfold zcond wr; rw [if_neg (by decide), if_pos rfl, Bool.not_eq_true', decide_eq_false_iff_not, Int32.toInt_inj]
theorem zc_lt (x y : Int) : zcond 2 x y ↔ Int32.ofInt x < Int32.ofInt y := by unfold zcond wr; rw [if_neg (by decide), if_neg (by decide), if_pos rfl, decide_eq_true_iff, Int32.lt_iff_toInt_lt]
theorem zc_ge (x y : Int) : zcond 3 x y ↔ Int32.ofInt y ≤ Int32.ofInt x := by unfold zcond wr; rw [if_neg (by decide), if_neg (by decide), if_neg (by decide), if_pos rfl, decide_eq_true_iff, Int32.le_iff_toInt_le]
theorem zc_gt (x y : Int) : zcond 4 x y ↔ Int32.ofInt y < Int32.ofInt x := by unfold zcond wr; rw [if_neg (by decide), if_neg (by decide), if_neg (by decide), if_neg (by decide), if_pos rfl, decide_eq_true_iff, Int32.lt_iff_toInt_lt]
theorem zc_le (x y : Int) : zcond 5 x y ↔ Int32.ofInt x ≤ Int32.ofInt y := by unfold zcond wr; rw [if_neg (by decide), if_neg (by decide), if_neg (by decide), if_neg (by decide), if_neg (by decide), decide_eq_true_iff, Int32.le_iff_toInt_le]
theorem zo_icmp_eq (C : zCx p s m c args cc nL own D cA ro b w0) {x y off : Int} {tgt : Nat} (hd : decode cc pc = .ok (.if_icmp .eq off, 3)) (ht : (pc : Int) + off = (tgt : Int)) (Kt : zcond 0 x y → zG p l e R s m args below meth c Q D cA ro b w0 nL mcT msT tgt (ls, st, w, bc, bs)) (Kf : ¬ zcond 0 x y → zG p l e R s m args below meth c Q D cA ro b w0 nL mcT msT (pc + 3) (ls, st, w, bc, bs)) : zG p l e R s m args below meth c Q D cA ro b w0 nL mcT msT pc (ls, (0, y) :: (0, x) :: st, w, bc, bs) := by
  intro n H locs ce sl la hH hS hn hl h1 h2
  obtain ⟨hx, hb, hml, hown, hts, hK, hNst, hAO, hSt, hRo, hW0⟩ := C
  exact lv_icmp_eq hx hb hd ht (fun h => Kt ((zc_eq x y).mpr h) n H locs ce sl la hH hS hn hl h1 h2) (fun h => Kf (fun g => h ((zc_eq x y).mp g)) n H locs ce sl la hH hS hn hl h1 h2)
theorem zo_if_eq (C : zCx p s m c args cc nL own D cA ro b w0) {x off : Int} {tgt : Nat} (hd : decode cc pc = .ok (.ifCond .eq off, 3)) (ht : (pc : Int) + off = (tgt : Int)) (Kt : zcond 0 x 0 → zG p l e R s m args below meth c Q D cA ro b w0 nL mcT msT tgt (ls, st, w, bc, bs)) (Kf : ¬ zcond 0 x 0 → zG p l e R s m args below meth c Q D cA ro b w0 nL mcT msT (pc + 3) (ls, st, w, bc, bs)) : zG p l e R s m args below meth c Q D cA ro b w0 nL mcT msT pc (ls, (0, x) :: st, w, bc, bs) := by
  intro n H locs ce sl la hH hS hn hl h1 h2
  obtain ⟨hx, hb, hml, hown, hts, hK, hNst, hAO, hSt, hRo, hW0⟩ := C
  exact lv_if_eq hx hb hd ht (fun h => Kt ((zc_eq x 0).mpr h) n H locs ce sl la hH hS hn hl h1 h2) (fun h => Kf (fun g => h ((zc_eq x 0).mp g)) n H locs ce sl la hH hS hn hl h1 h2)
theorem zo_icmp_ne (C : zCx p s m c args cc nL own D cA ro b w0) {x y off : Int} {tgt : Nat} (hd : decode cc pc = .ok (.if_icmp .ne off, 3)) (ht : (pc : Int) + off = (tgt : Int)) (Kt : zcond 1 x y → zG p l e R s m args below meth c Q D cA ro b w0 nL mcT msT tgt (ls, st, w, bc, bs)) (Kf : ¬ zcond 1 x y → zG p l e R s m args below meth c Q D cA ro b w0 nL mcT msT (pc + 3) (ls, st, w, bc, bs)) : zG p l e R s m args below meth c Q D cA ro b w0 nL mcT msT pc (ls, (0, y) :: (0, x) :: st, w, bc, bs) := by
  intro n H locs ce sl la hH hS hn hl h1 h2
  obtain ⟨hx, hb, hml, hown, hts, hK, hNst, hAO, hSt, hRo, hW0⟩ := C
  exact lv_icmp_ne hx hb hd ht (fun h => Kt ((zc_ne x y).mpr h) n H locs ce sl la hH hS hn hl h1 h2) (fun h => Kf (fun g => (zc_ne x y).mp g h) n H locs ce sl la hH hS hn hl h1 h2)
theorem zo_if_ne (C : zCx p s m c args cc nL own D cA ro b w0) {x off : Int} {tgt : Nat} (hd : decode cc pc = .ok (.ifCond .ne off, 3)) (ht : (pc : Int) + off = (tgt : Int)) (Kt : zcond 1 x 0 → zG p l e R s m args below meth c Q D cA ro b w0 nL mcT msT tgt (ls, st, w, bc, bs)) (Kf : ¬ zcond 1 x 0 → zG p l e R s m args below meth c Q D cA ro b w0 nL mcT msT (pc + 3) (ls, st, w, bc, bs)) : zG p l e R s m args below meth c Q D cA ro b w0 nL mcT msT pc (ls, (0, x) :: st, w, bc, bs) := by
  intro n H locs ce sl la hH hS hn hl h1 h2
  obtain ⟨hx, hb, hml, hown, hts, hK, hNst, hAO, hSt, hRo, hW0⟩ := C
  exact lv_if_ne hx hb hd ht (fun h => Kt ((zc_ne x 0).mpr h) n H locs ce sl la hH hS hn hl h1 h2) (fun h => Kf (fun g => (zc_ne x 0).mp g h) n H locs ce sl la hH hS hn hl h1 h2)
theorem zo_icmp_lt (C : zCx p s m c args cc nL own D cA ro b w0) {x y off : Int} {tgt : Nat} (hd : decode cc pc = .ok (.if_icmp .lt off, 3)) (ht : (pc : Int) + off = (tgt : Int)) (Kt : zcond 2 x y → zG p l e R s m args below meth c Q D cA ro b w0 nL mcT msT tgt (ls, st, w, bc, bs)) (Kf : ¬ zcond 2 x y → zG p l e R s m args below meth c Q D cA ro b w0 nL mcT msT (pc + 3) (ls, st, w, bc, bs)) : zG p l e R s m args below meth c Q D cA ro b w0 nL mcT msT pc (ls, (0, y) :: (0, x) :: st, w, bc, bs) := by
  intro n H locs ce sl la hH hS hn hl h1 h2
  obtain ⟨hx, hb, hml, hown, hts, hK, hNst, hAO, hSt, hRo, hW0⟩ := C
  exact lv_icmp_lt hx hb hd ht (fun h => Kt ((zc_lt x y).mpr h) n H locs ce sl la hH hS hn hl h1 h2) (fun h => Kf (fun g => h ((zc_lt x y).mp g)) n H locs ce sl la hH hS hn hl h1 h2)
theorem zo_if_lt (C : zCx p s m c args cc nL own D cA ro b w0) {x off : Int} {tgt : Nat} (hd : decode cc pc = .ok (.ifCond .lt off, 3)) (ht : (pc : Int) + off = (tgt : Int)) (Kt : zcond 2 x 0 → zG p l e R s m args below meth c Q D cA ro b w0 nL mcT msT tgt (ls, st, w, bc, bs)) (Kf : ¬ zcond 2 x 0 → zG p l e R s m args below meth c Q D cA ro b w0 nL mcT msT (pc + 3) (ls, st, w, bc, bs)) : zG p l e R s m args below meth c Q D cA ro b w0 nL mcT msT pc (ls, (0, x) :: st, w, bc, bs) := by
  intro n H locs ce sl la hH hS hn hl h1 h2
  obtain ⟨hx, hb, hml, hown, hts, hK, hNst, hAO, hSt, hRo, hW0⟩ := C
  exact lv_if_lt hx hb hd ht (fun h => Kt ((zc_lt x 0).mpr h) n H locs ce sl la hH hS hn hl h1 h2) (fun h => Kf (fun g => h ((zc_lt x 0).mp g)) n H locs ce sl la hH hS hn hl h1 h2)
theorem zo_icmp_ge (C : zCx p s m c args cc nL own D cA ro b w0) {x y off : Int} {tgt : Nat} (hd : decode cc pc = .ok (.if_icmp .ge off, 3)) (ht : (pc : Int) + off = (tgt : Int)) (Kt : zcond 3 x y → zG p l e R s m args below meth c Q D cA ro b w0 nL mcT msT tgt (ls, st, w, bc, bs)) (Kf : ¬ zcond 3 x y → zG p l e R s m args below meth c Q D cA ro b w0 nL mcT msT (pc + 3) (ls, st, w, bc, bs)) : zG p l e R s m args below meth c Q D cA ro b w0 nL mcT msT pc (ls, (0, y) :: (0, x) :: st, w, bc, bs) := by
  intro n H locs ce sl la hH hS hn hl h1 h2
  obtain ⟨hx, hb, hml, hown, hts, hK, hNst, hAO, hSt, hRo, hW0⟩ := C
  exact lv_icmp_ge hx hb hd ht (fun h => Kt ((zc_ge x y).mpr h) n H locs ce sl la hH hS hn hl h1 h2) (fun h => Kf (fun g => h ((zc_ge x y).mp g)) n H locs ce sl la hH hS hn hl h1 h2)
theorem zo_if_ge (C : zCx p s m c args cc nL own D cA ro b w0) {x off : Int} {tgt : Nat} (hd : decode cc pc = .ok (.ifCond .ge off, 3)) (ht : (pc : Int) + off = (tgt : Int)) (Kt : zcond 3 x 0 → zG p l e R s m args below meth c Q D cA ro b w0 nL mcT msT tgt (ls, st, w, bc, bs)) (Kf : ¬ zcond 3 x 0 → zG p l e R s m args below meth c Q D cA ro b w0 nL mcT msT (pc + 3) (ls, st, w, bc, bs)) : zG p l e R s m args below meth c Q D cA ro b w0 nL mcT msT pc (ls, (0, x) :: st, w, bc, bs) := by
  intro n H locs ce sl la hH hS hn hl h1 h2
  obtain ⟨hx, hb, hml, hown, hts, hK, hNst, hAO, hSt, hRo, hW0⟩ := C
  exact lv_if_ge hx hb hd ht (fun h => Kt ((zc_ge x 0).mpr h) n H locs ce sl la hH hS hn hl h1 h2) (fun h => Kf (fun g => h ((zc_ge x 0).mp g)) n H locs ce sl la hH hS hn hl h1 h2)
theorem zo_icmp_gt (C : zCx p s m c args cc nL own D cA ro b w0) {x y off : Int} {tgt : Nat} (hd : decode cc pc = .ok (.if_icmp .gt off, 3)) (ht : (pc : Int) + off = (tgt : Int)) (Kt : zcond 4 x y → zG p l e R s m args below meth c Q D cA ro b w0 nL mcT msT tgt (ls, st, w, bc, bs)) (Kf : ¬ zcond 4 x y → zG p l e R s m args below meth c Q D cA ro b w0 nL mcT msT (pc + 3) (ls, st, w, bc, bs)) : zG p l e R s m args below meth c Q D cA ro b w0 nL mcT msT pc (ls, (0, y) :: (0, x) :: st, w, bc, bs) := by
  intro n H locs ce sl la hH hS hn hl h1 h2
  obtain ⟨hx, hb, hml, hown, hts, hK, hNst, hAO, hSt, hRo, hW0⟩ := C
  exact lv_icmp_gt hx hb hd ht (fun h => Kt ((zc_gt x y).mpr h) n H locs ce sl la hH hS hn hl h1 h2) (fun h => Kf (fun g => h ((zc_gt x y).mp g)) n H locs ce sl la hH hS hn hl h1 h2)
theorem zo_if_gt (C : zCx p s m c args cc nL own D cA ro b w0) {x off : Int} {tgt : Nat} (hd : decode cc pc = .ok (.ifCond .gt off, 3)) (ht : (pc : Int) + off = (tgt : Int)) (Kt : zcond 4 x 0 → zG p l e R s m args below meth c Q D cA ro b w0 nL mcT msT tgt (ls, st, w, bc, bs)) (Kf : ¬ zcond 4 x 0 → zG p l e R s m args below meth c Q D cA ro b w0 nL mcT msT (pc + 3) (ls, st, w, bc, bs)) : zG p l e R s m args below meth c Q D cA ro b w0 nL mcT msT pc (ls, (0, x) :: st, w, bc, bs) := by
  intro n H locs ce sl la hH hS hn hl h1 h2
  obtain ⟨hx, hb, hml, hown, hts, hK, hNst, hAO, hSt, hRo, hW0⟩ := C
  exact lv_if_gt hx hb hd ht (fun h => Kt ((zc_gt x 0).mpr h) n H locs ce sl la hH hS hn hl h1 h2) (fun h => Kf (fun g => h ((zc_gt x 0).mp g)) n H locs ce sl la hH hS hn hl h1 h2)
theorem zo_icmp_le (C : zCx p s m c args cc nL own D cA ro b w0) {x y off : Int} {tgt : Nat} (hd : decode cc pc = .ok (.if_icmp .le off, 3)) (ht : (pc : Int) + off = (tgt : Int)) (Kt : zcond 5 x y → zG p l e R s m args below meth c Q D cA ro b w0 nL mcT msT tgt (ls, st, w, bc, bs)) (Kf : ¬ zcond 5 x y → zG p l e R s m args below meth c Q D cA ro b w0 nL mcT msT (pc + 3) (ls, st, w, bc, bs)) : zG p l e R s m args below meth c Q D cA ro b w0 nL mcT msT pc (ls, (0, y) :: (0, x) :: st, w, bc, bs) := by
  intro n H locs ce sl la hH hS hn hl h1 h2
  obtain ⟨hx, hb, hml, hown, hts, hK, hNst, hAO, hSt, hRo, hW0⟩ := C
  exact lv_icmp_le hx hb hd ht (fun h => Kt ((zc_le x y).mpr h) n H locs ce sl la hH hS hn hl h1 h2) (fun h => Kf (fun g => h ((zc_le x y).mp g)) n H locs ce sl la hH hS hn hl h1 h2)
theorem zo_if_le (C : zCx p s m c args cc nL own D cA ro b w0) {x off : Int} {tgt : Nat} (hd : decode cc pc = .ok (.ifCond .le off, 3)) (ht : (pc : Int) + off = (tgt : Int)) (Kt : zcond 5 x 0 → zG p l e R s m args below meth c Q D cA ro b w0 nL mcT msT tgt (ls, st, w, bc, bs)) (Kf : ¬ zcond 5 x 0 → zG p l e R s m args below meth c Q D cA ro b w0 nL mcT msT (pc + 3) (ls, st, w, bc, bs)) : zG p l e R s m args below meth c Q D cA ro b w0 nL mcT msT pc (ls, (0, x) :: st, w, bc, bs) := by
  intro n H locs ce sl la hH hS hn hl h1 h2
  obtain ⟨hx, hb, hml, hown, hts, hK, hNst, hAO, hSt, hRo, hW0⟩ := C
  exact lv_if_le hx hb hd ht (fun h => Kt ((zc_le x 0).mpr h) n H locs ce sl la hH hS hn hl h1 h2) (fun h => Kf (fun g => h ((zc_le x 0).mp g)) n H locs ce sl la hH hS hn hl h1 h2)
theorem zo_goto (C : zCx p s m c args cc nL own D cA ro b w0) {off : Int} {tgt : Nat} (hd : decode cc pc = .ok (.goto off, 3)) (ht : (pc : Int) + off = (tgt : Int)) (K : zG p l e R s m args below meth c Q D cA ro b w0 nL mcT msT tgt (ls, st, w, bc, bs)) : zG p l e R s m args below meth c Q D cA ro b w0 nL mcT msT pc (ls, st, w, bc, bs) := by
  intro n H locs ce sl la hH hS hn hl h1 h2
  obtain ⟨hx, hb, hml, hown, hts, hK, hNst, hAO, hSt, hRo, hW0⟩ := C
  exact lv_goto hx hb hd ht (K n H locs ce sl la hH hS hn hl h1 h2)
end
