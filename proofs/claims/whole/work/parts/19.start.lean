/-! THE CLAIM OUT OF ONE WALK OF THE LAW'S BODY. Your part is whole_start (and what it stands on); all else here is the same for every law, but numbers. -/
def R_law : String := "WordLinksLaw"
def lw_P (b : Addr) (xs : List Int32) (args : Array Value) (s : State) : Prop := args = #[.ref b] ∧ s.IntsAt b xs ∧ xs.length ≤ 3072 ∧ (Jvm.Cond.and given_1 narrow_1).before args s = true
def lw_Q (_ : Array Value) (s : State) (o : Outcome) (t : State) : Prop := o = .returned (some (.int 1)) ∧ Framed s o t [] 600000 7302250
def lw_Z (below : List Frame) (a : Array Value) (s : State) : State → Prop := fun t => ∃ o, t.status = .running ∧ Ended t below o ∧ lw_Q a s o t
/-- the law's own end, with 1 on the stack, nothing written that was there before, its room as the claim has it -/
theorem lw_ret {p : Program} {l : Launch} {e : Env} {s : State} {m : MethodId} {below : List Frame} {meth : Method} {c : Code} {b : Nat} (hx : p.tables.exec = Jvm.exec) (hb : c.code = code) (hr : meth.sig.returnType = ret) (hlocks : meth.locks = false) {pc : Nat} {H : Heap} {ls : Array Slot} (hdg : decode code pc = .ok (.ireturn, 1)) : W p l e room_1 s m #[Value.ref b] below meth c H [] 600000 7302250 (lw_Z below #[Value.ref b] s) (F0 m pc ls [.int 1]) := by
  intro T hT X
  obtain ⟨fs, hret, hrun, hended, hW, hframe⟩ := X.leave (v := some (.int 1)) (hlocks := hlocks) (fun h => by rw [hr] at h; cases h)
  have hmeth' : T.vm.method? m = some meth := X.method'
  refine ⟨T.setFrames fs, ?_, .returned (some (.int 1)), hrun, hended, rfl, ⟨_, rfl⟩, hW, hframe⟩
  jvm_step X.here [X.here.top, hx, hb, hdg, hmeth', hr, ret, narrow_b1]
  (try refine ⟨rfl, ?_⟩); (try refine ⟨rfl, ?_⟩)
  first | (intro acts; rw [hret _ acts rfl rfl rfl]) | rw [hret _ _ rfl rfl rfl]
  exact Steps.refl _
/-- what holds at the law's entry: the machine, the code, the tables' words (any of lw_tbl by 'hts w (by decide +kernel)'), the script of L ints xs at the cell b, what the Statement gives of the start (any of its parts by flat_of_before) -/
def lw_At (p : Program) (s : State) (m : MethodId) (meth : Method) (c : Code) (b L : Nat) (xs : Nat → Int32) : Prop :=
  p.tables.exec = Jvm.exec ∧ c.code = code ∧ meth.sig.returnType = ret ∧ c.maxLocals = 4 ∧ s.vm.findClass R_law = some m.cls ∧ (∀ w ∈ lw_tbl, w.before #[Value.ref b] s = true) ∧ va_X b L xs s s.heap ∧ b < s.heap.size ∧ meth.locks = false ∧ (Jvm.Cond.and given_1 narrow_1).before #[Value.ref b] s = true
-- ===== YOUR PART BEGINS =====
/-! THE LAW'S START: at the entry the machine stands as the abstract machine's world w_init says; what remains is the law's own code there. -/
def zt0 (k : Nat) : Int := [(1 : Int), 1, 0, 2, 1].getD k 0
def zt1 (k : Nat) : Int := [(1 : Int), 0, 1, 1, 2].getD k 0
def zt2 (k : Nat) : Int := [(0 : Int), 45, 45, 20, 20].getD k 0
/-- the world at the entry: the script has L ints -/
def wini (L : Nat) (xs : Nat → Int) : zW := fun r => if r = 0 then (98, 0, fun _ => 0) else if r = 1 then (30, 5, zt0) else if r = 2 then (30, 5, zt1) else if r = 3 then (30, 5, zt2) else if r = 4 then (30, L, xs) else (99, 0, fun _ => 0)
def zro (a1 a2 a3 a4 : Nat) (r : Nat) : Nat := if r = 1 then a1 else if r = 2 then a2 else if r = 3 then a3 else a4
/-- THE LAW IN THE ABSTRACT MACHINE -/
def zLaw : Prop := ∀ (L : Nat) (xs : Nat → Int), L ≤ 3072 → (∀ k, -2147483648 ≤ xs k ∧ xs k ≤ 2147483647) → ∃ w', zF zT 334 [(2, 4)] (wini L xs) = some ([(0, 1)], w')
theorem zprim {s : State} {ty : FieldType} {args : Array Value} (h : (Cond.arrayClass ty).before args s = true) (hne : ∀ C, ty ≠ .object C) : ∃ cA, ArrOfT s cA ty ∧ va_RA s cA ty := by
  obtain ⟨cA, kA, comp, h1, h2, h3⟩ := Cond.arrayClass_spec h
  refine ⟨cA, fun n z => ⟨fun k h => (by cases h), kA, h2, comp, h3⟩, ?_⟩
  cases ty with
  | object C => exact absurd rfl (hne C)
  | _ => exact h1
theorem znestA {s : State} {t : FieldType} (h : (Cond.arrayOver (.array t)).before #[] s = true) : ∃ cA, ArrOfT s cA (.array t) ∧ va_RA s cA (.array t) := by
  obtain ⟨comp, c, k, h1, h2, h3, h4, h5⟩ := zAO_spec h
  exact ⟨c, fun n z => ⟨fun k h => (by cases h), k, h3, comp, h4⟩, h5⟩
theorem zstat5 {args : Array Value} {s : State} {C n : String} {x0 x1 x2 x3 x4 : Int32} (hl : (Cond.laysStatic C n "[I").before args s = true) (hini : (Cond.initialized C).before args s = true) (harr : (Cond.arrayOf (.static C n "[I") .int).before args s = true) (hlen : (Cond.eq (.length (.static C n "[I")) (.int 5)).before args s = true) (e0 : (Cond.eq (.elem (.static C n "[I") (.int 0)) (.int x0)).before args s = true) (e1 : (Cond.eq (.elem (.static C n "[I") (.int 1)) (.int x1)).before args s = true) (e2 : (Cond.eq (.elem (.static C n "[I") (.int 2)) (.int x2)).before args s = true) (e3 : (Cond.eq (.elem (.static C n "[I") (.int 3)) (.int x3)).before args s = true) (e4 : (Cond.eq (.elem (.static C n "[I") (.int 4)) (.int x4)).before args s = true) (f : Nat → Value) (hf : f 0 = .int x0 ∧ f 1 = .int x1 ∧ f 2 = .int x2 ∧ f 3 = .int x3 ∧ f 4 = .int x4) : ∃ t : Nat, va_Z C n "[I" (.ref t) (fun q => s.heap.size ≤ q) s s.heap ∧ va_T .int t 5 f (fun q => s.heap.size ≤ q) s s.heap := by
  have hA : ∀ a : Nat, a < s.heap.size → ¬ (fun q => s.heap.size ≤ q) a := fun a h1 h2 => Nat.not_le.mpr h1 h2
  obtain ⟨t, h1, h2⟩ := va_Tof (f := f) (N := 5) (by decide) harr (va_eqt hlen) (fun j hj => by
    match j, hj with
    | 0, _ => rw [hf.1]; exact va_eqt e0
    | 1, _ => rw [hf.2.1]; exact va_eqt e1
    | 2, _ => rw [hf.2.2.1]; exact va_eqt e2
    | 3, _ => rw [hf.2.2.2.1]; exact va_eqt e3
    | 4, _ => rw [hf.2.2.2.2]; exact va_eqt e4) hA
  exact ⟨t, va_Zref hl hini h1 hA, h2⟩
set_option maxRecDepth 100000 in
theorem zknown {s : State} {args : Array Value} (hts : ∀ w ∈ lw_tbl, w.before args s = true) : ∃ (dC : Nat → ClassId) (dI : Nat → Nat → Nat), ∀ (k : Nat) (q : vw_C), vwCl[k]? = some q → u_Kn s q.1 q.2.1 q.2.2 (dC k) (dI k) := by
  obtain ⟨c0, i0, h0⟩ := u_known (C := RX0) (T := TX0) (N := 7) hts (fun w hw => (List.mem_filter.mp ((zcl_ok 0 _ rfl).1 w hw)).1) (hts _ (List.mem_of_getElem? (i := 198) rfl))
  obtain ⟨c1, i1, h1⟩ := u_known (C := RX1) (T := TX1) (N := 6) hts (fun w hw => (List.mem_filter.mp ((zcl_ok 1 _ rfl).1 w hw)).1) (hts _ (List.mem_of_getElem? (i := 379) rfl))
  obtain ⟨c2, i2, h2⟩ := u_known (C := RX2) (T := TX2) (N := 7) hts (fun w hw => (List.mem_filter.mp ((zcl_ok 2 _ rfl).1 w hw)).1) (hts _ (List.mem_of_getElem? (i := 312) rfl))
  obtain ⟨c3, i3, h3⟩ := u_known (C := RX3) (T := TX3) (N := 4) hts (fun w hw => (List.mem_filter.mp ((zcl_ok 3 _ rfl).1 w hw)).1) (hts _ (List.mem_of_getElem? (i := 348) rfl))
  obtain ⟨c4, i4, h4⟩ := u_known (C := RX4) (T := TX4) (N := 3) hts (fun w hw => (List.mem_filter.mp ((zcl_ok 4 _ rfl).1 w hw)).1) (hts _ (List.mem_of_getElem? (i := 429) rfl))
  obtain ⟨c5, i5, h5⟩ := u_known (C := RX5) (T := TX5) (N := 9) hts (fun w hw => (List.mem_filter.mp ((zcl_ok 5 _ rfl).1 w hw)).1) (hts _ (List.mem_of_getElem? (i := 448) rfl))
  obtain ⟨c6, i6, h6⟩ := u_known (C := RX6) (T := TX6) (N := 3) hts (fun w hw => (List.mem_filter.mp ((zcl_ok 6 _ rfl).1 w hw)).1) (hts _ (List.mem_of_getElem? (i := 342) rfl))
  obtain ⟨c7, i7, h7⟩ := u_known (C := RX7) (T := TX7) (N := 3) hts (fun w hw => (List.mem_filter.mp ((zcl_ok 7 _ rfl).1 w hw)).1) (hts _ (List.mem_of_getElem? (i := 246) rfl))
  obtain ⟨c8, i8, h8⟩ := u_known (C := RX8) (T := TX8) (N := 4) hts (fun w hw => (List.mem_filter.mp ((zcl_ok 8 _ rfl).1 w hw)).1) (hts _ (List.mem_of_getElem? (i := 407) rfl))
  obtain ⟨c9, i9, h9⟩ := u_known (C := RX9) (T := TX9) (N := 8) hts (fun w hw => (List.mem_filter.mp ((zcl_ok 9 _ rfl).1 w hw)).1) (hts _ (List.mem_of_getElem? (i := 192) rfl))
  obtain ⟨c10, i10, h10⟩ := u_known (C := RX10) (T := TX10) (N := 5) hts (fun w hw => (List.mem_filter.mp ((zcl_ok 10 _ rfl).1 w hw)).1) (hts _ (List.mem_of_getElem? (i := 168) rfl))
  obtain ⟨c11, i11, h11⟩ := u_known (C := RX11) (T := TX11) (N := 13) hts (fun w hw => (List.mem_filter.mp ((zcl_ok 11 _ rfl).1 w hw)).1) (hts _ (List.mem_of_getElem? (i := 160) rfl))
  obtain ⟨c12, i12, h12⟩ := u_known (C := RX12) (T := TX12) (N := 36) hts (fun w hw => (List.mem_filter.mp ((zcl_ok 12 _ rfl).1 w hw)).1) (hts _ (List.mem_of_getElem? (i := 1315) rfl))
  refine ⟨fun k => if k = 0 then c0 else if k = 1 then c1 else if k = 2 then c2 else if k = 3 then c3 else if k = 4 then c4 else if k = 5 then c5 else if k = 6 then c6 else if k = 7 then c7 else if k = 8 then c8 else if k = 9 then c9 else if k = 10 then c10 else if k = 11 then c11 else c12, fun k => if k = 0 then i0 else if k = 1 then i1 else if k = 2 then i2 else if k = 3 then i3 else if k = 4 then i4 else if k = 5 then i5 else if k = 6 then i6 else if k = 7 then i7 else if k = 8 then i8 else if k = 9 then i9 else if k = 10 then i10 else if k = 11 then i11 else i12, ?_⟩
  intro k q hq
  match k, hq with
  | 0, hq => cases hq; exact h0
  | 1, hq => cases hq; exact h1
  | 2, hq => cases hq; exact h2
  | 3, hq => cases hq; exact h3
  | 4, hq => cases hq; exact h4
  | 5, hq => cases hq; exact h5
  | 6, hq => cases hq; exact h6
  | 7, hq => cases hq; exact h7
  | 8, hq => cases hq; exact h8
  | 9, hq => cases hq; exact h9
  | 10, hq => cases hq; exact h10
  | 11, hq => cases hq; exact h11
  | 12, hq => cases hq; exact h12
  | k + 13, hq => simp [vwCl] at hq
set_option maxRecDepth 100000 in
theorem zkeeps {s : State} {bs L : Nat} {xs : Nat → Int32} (hts : ∀ w ∈ lw_tbl, w.before #[Value.ref bs] s = true) (hX : va_X bs L xs s s.heap) (hbl : bs < s.heap.size) (hL : L ≤ 3072) (hgv : (Jvm.Cond.and given_1 narrow_1).before #[Value.ref bs] s = true) : ∃ (D : va_G) (cA : Nat → ClassId) (ro : Nat → Nat), zKp D cA ro s.heap.size (wini L (fun k => (xs k).toInt)) s ∧ ro 4 = bs := by
  have hs := flat_of_before _ hgv
  obtain ⟨dC, dI, hKc⟩ := zknown hts
  obtain ⟨ca0, a0, b0⟩ := zprim (hts _ (List.mem_of_getElem? (i := 190) rfl)) (fun C h => by cases h)
  obtain ⟨ca1, a1, b1⟩ := zprim (hts _ (List.mem_of_getElem? (i := 244) rfl)) (fun C h => by cases h)
  obtain ⟨ca2, a2, b2⟩ := zprim (hts _ (List.mem_of_getElem? (i := 1487) rfl)) (fun C h => by cases h)
  have o3 : (Cond.arrayOver (.array .int)).before #[] s = true := by
    have h := hts (.arrayOver (.array .int)) (List.mem_of_getElem? (i := 206) rfl)
    unfold Cond.before Cond.holds at h ⊢
    simp only [Cond.value] at h ⊢
    exact h
  have o4 : (Cond.arrayOver (.array .long)).before #[] s = true := by
    have h := hts (.arrayOver (.array .long)) (List.mem_of_getElem? (i := 204) rfl)
    unfold Cond.before Cond.holds at h ⊢
    simp only [Cond.value] at h ⊢
    exact h
  obtain ⟨ca3, a3, b3⟩ := znestA o3
  obtain ⟨ca4, a4, b4⟩ := znestA o4
  obtain ⟨t0, z0, y0⟩ := zstat5 (C := "WordLinks$Matcher") (n := "TAKEN_0") (x0 := 1) (x1 := 1) (x2 := 0) (x3 := 2) (x4 := 1) (hts _ (List.mem_of_getElem? (i := 764) rfl)) (hts _ (List.mem_of_getElem? (i := 147) rfl)) (hs _ (by decide +kernel)) (hs _ (by decide +kernel)) (hs _ (by decide +kernel)) (hs _ (by decide +kernel)) (hs _ (by decide +kernel)) (hs _ (by decide +kernel)) (hs _ (by decide +kernel)) (fun k => .int (Int32.ofInt (zt0 k))) ⟨rfl, rfl, rfl, rfl, rfl⟩
  obtain ⟨t1, z1, y1⟩ := zstat5 (C := "WordLinks$Matcher") (n := "TAKEN_1") (x0 := 1) (x1 := 0) (x2 := 1) (x3 := 1) (x4 := 2) (hts _ (List.mem_of_getElem? (i := 766) rfl)) (hts _ (List.mem_of_getElem? (i := 147) rfl)) (hs _ (by decide +kernel)) (hs _ (by decide +kernel)) (hs _ (by decide +kernel)) (hs _ (by decide +kernel)) (hs _ (by decide +kernel)) (hs _ (by decide +kernel)) (hs _ (by decide +kernel)) (fun k => .int (Int32.ofInt (zt1 k))) ⟨rfl, rfl, rfl, rfl, rfl⟩
  obtain ⟨t2, z2, y2⟩ := zstat5 (C := "WordLinks$Matcher") (n := "KIND_COSTS") (x0 := 0) (x1 := 45) (x2 := 45) (x3 := 20) (x4 := 20) (hts _ (List.mem_of_getElem? (i := 762) rfl)) (hts _ (List.mem_of_getElem? (i := 147) rfl)) (hs _ (by decide +kernel)) (hs _ (by decide +kernel)) (hs _ (by decide +kernel)) (hs _ (by decide +kernel)) (hs _ (by decide +kernel)) (hs _ (by decide +kernel)) (hs _ (by decide +kernel)) (fun k => .int (Int32.ofInt (zt2 k))) ⟨rfl, rfl, rfl, rfl, rfl⟩
  refine ⟨(dC, dI), fun k => if k = 0 then ca0 else if k = 1 then ca1 else if k = 2 then ca2 else if k = 3 then ca3 else ca4, zro t0 t1 t2 bs, ⟨⟨hKc, fun k q hq => ?_⟩, fun w hw => va_Nw.of ?_ (hts w (List.mem_filter.mp hw).1), ⟨o3, o4⟩, ⟨z0, z1, z2⟩, fun r r1 r2 r3 => ?_, fun r r1 r2 => ?_⟩, rfl⟩
  · match k, hq with
    | 0, hq => cases hq; exact ⟨a0, b0⟩
    | 1, hq => cases hq; exact ⟨a1, b1⟩
    | 2, hq => cases hq; exact ⟨a2, b2⟩
    | 3, hq => cases hq; exact ⟨a3, b3⟩
    | 4, hq => cases hq; exact ⟨a4, b4⟩
    | k + 5, hq => simp [ztys] at hq
  · have h2 := (List.mem_filter.mp hw).2
    match w, h2 with
    | .fieldLinkNest _ _ _ _ _ _, _ => rfl
    | .methodLinkNest _ _ _ _, _ => rfl
  · match r, r1, r2, r3 with
    | 1, _, _, _ => exact y0
    | 2, _, _, _ => exact y1
    | 3, _, _, _ => exact y2
    | 4, _, _, _ =>
      obtain ⟨scr, h1, h2, h3, h4, h5⟩ := hX
      refine ⟨scr, h1, h2, h3, by rw [h4]; exact Nat.le_refl _, by rw [h4]; rfl, fun j hj => ?_, Nat.not_le.mpr hbl⟩
      rw [h5 j hj]
      show some (Value.int (xs j)) = some (Value.int (Int32.ofInt (xs j).toInt))
      rw [Int32.ofInt_toInt]
    | 5, _, _, h => exact absurd (show (99 : Nat) = 30 from h) (by decide)
    | 6, _, _, h => exact absurd (show (99 : Nat) = 30 from h) (by decide)
    | 7, _, _, h => exact absurd (show (99 : Nat) = 30 from h) (by decide)
    | 8, _, _, h => exact absurd (show (99 : Nat) = 30 from h) (by decide)
    | 9, _, _, h => exact absurd (show (99 : Nat) = 30 from h) (by decide)
  · match r, r1, r2 with
    | 1, _, _ => exact Or.inl ⟨rfl, (show (5 : Nat) < 2147483648 by decide)⟩
    | 2, _, _ => exact Or.inl ⟨rfl, (show (5 : Nat) < 2147483648 by decide)⟩
    | 3, _, _ => exact Or.inl ⟨rfl, (show (5 : Nat) < 2147483648 by decide)⟩
    | 4, _, _ => exact Or.inl ⟨rfl, Nat.lt_of_le_of_lt hL (by decide)⟩
    | 5, _, _ => exact Or.inr rfl
    | 6, _, _ => exact Or.inr rfl
    | 7, _, _ => exact Or.inr rfl
    | 8, _, _ => exact Or.inr rfl
    | 9, _, _ => exact Or.inr rfl
/-- the words of the law's own start come down to the abstract machine -/
theorem zstart {p : Program} {e : Env} {s : State} {m : MethodId} {below : List Frame} {meth : Method} {c : Code} (l : Launch) {b L : Nat} {xs : Nat → Int32} (hL : L ≤ 3072) (C0 : lw_At p s m meth c b L xs) (hlaw : zLaw) : W p l e room_1 s m #[Value.ref b] below meth c s.heap [] 0 0 (lw_Z below #[Value.ref b] s) (entryFrame m ([Value.ref b] : List Value).toArray 4) := by
  obtain ⟨hx, hb, hr, hml, hown, hts, hX, hbl, hlocks, hgv⟩ := id C0
  obtain ⟨D, cA, ro, hKp, hro⟩ := zkeeps hts hX hbl hL hgv
  obtain ⟨w', hF⟩ := hlaw L (fun k => (xs k).toInt) hL (fun k => ⟨(xs k).le_toInt, (by have := (xs k).toInt_lt; omega)⟩)
  unfold zF at hF
  rw [zT_334, if_pos (by decide)] at hF
  obtain ⟨F, hev⟩ := (zX_iff zT).mp hF
  have C : zCx p s m c #[Value.ref b] code 4 (zon ze_334.1) D cA ro s.heap.size (wini L (fun k => (xs k).toInt)) := ⟨hx, hb, hml, hown, fun w hw => hts w (List.mem_filter.mp hw).1, hKp⟩
  have key := zwalk (T := zT) (X := zXt) (M := ze_334) (res := ([(0, 1)], w')) (R := room_1) (l := l) (e := e) (below := below) (meth := meth) (Q := lw_Z below #[Value.ref b] s) (mcT := 600000) (msT := 7302250) C zXt_ok ⟨Nat.le_refl _, Nat.le_refl _⟩ (by decide) (by decide) (fun h => by cases h) (by
    intro pc ls vs1 w1 bc bs hres hd
    cases hres
    rcases hd with ⟨g1, -⟩ | ⟨g1, -⟩ | ⟨g1, -⟩ | ⟨-, -, hd⟩
    · cases g1
    · cases g1
    · cases g1
    · intro n H locs ce sl la hH hS hn hl h1 h2
      refine va_forget (fun q hq => hS.2.2 q hq) ?_
      have h1' : ce + bc ≤ 600000 := h1
      have h2' : sl + bs ≤ 7302250 := h2
      refine W.widen (k := 600000) (n := 7302250) (by omega) (by omega) ?_
      exact lw_ret hx hb hr hlocks hd) zk_334 (F := F) (fun g hg j2 hrk as2 w2 vs2 w2' hl2 hev2 => zcons l D cA ro s.heap.size _ zXt_ok zM_all g j2 (Nat.lt_trans hrk (by decide)) as2 w2 vs2 w2' hl2 hev2) F (Nat.le_refl _) zc_334 0 0 _ zk_334 hev
  have hlen : (zarg [((2 : Nat), (4 : Int))]).length ≤ 4 := by decide
  have k2 := key 0 s.heap [] 0 0 _ ⟨rfl, rfl, fun r r1 r2 => rfl, fun r hr0 => (by
    show (wini L (fun k => (xs k).toInt) r).1 = 99
    unfold wini
    rw [if_neg (by omega), if_neg (by omega), if_neg (by omega), if_neg (by omega), if_neg (by omega)]), fun r r1 r2 => (by omega), fun k q h => (by simp [zws] at h)⟩ va_S.rf (zini_len hlen) (zini_has (ro := ro) (b := s.heap.size) hlen) (Nat.le_of_eq (Nat.zero_add _)) (Nat.le_of_eq (Nat.zero_add _))
  rw [lg_entry_eq]
  have hargs : ([((2 : Nat), (4 : Int))] : List zV).map (zval ro s.heap.size) = [Value.ref b] := by
    show [zval ro s.heap.size (2, 4)] = _
    rw [zval_r _ _ (by decide)]
    show [Value.ref (zad ro s.heap.size 4)] = _
    rw [show zad ro s.heap.size 4 = ro 4 from rfl, hro]
  rw [hargs] at k2
  exact k2
