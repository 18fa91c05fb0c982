section
variable {p : Program} {l : Launch} {e : Env} {R : Room} {s : State} {m : MethodId} {args : Array Value} {below : List Frame} {meth : Method} {c : Code} {Q : State → Prop} {D : va_G} {cA : Nat → ClassId} {ro : Nat → Nat} {b : Nat} {w0 : zW} {nL mcT msT : Nat} {cc : ByteArray} {own : String} {pc : Nat} {ls st : List zV} {w : zW} {bc bs : Nat}
variable {X : zTabs} {M : zMe} {tp : Nat → Nat} {res : zR}
theorem zk_iconst (C : zCx p s m c args cc nL (zon M.1) D cA ro b w0) (hX : zTabsOk X) (hR : mcT ≤ R.cells ∧ msT ≤ R.slots) (hfr : M.2.2.2 ≤ R.frames) (hlo : 40 * M.2.2.2 + 40 ≤ R.locals) (hini : M.2.2.1 = true → meth.name = "<init>") (hRet : ∀ (pc : Nat) (ls : List zV) (vs : List zV) (w : zW) (bc bs : Nat), (vs, w) = res → ((M.2.1 = 0 ∧ vs = [] ∧ decode cc pc = .ok (.return_, 1)) ∨ (M.2.1 = 1 ∧ (∃ v, vs = [(0, v)]) ∧ decode cc pc = .ok (.ireturn, 1)) ∨ (M.2.1 = 2 ∧ (∃ v, vs = [(1, v)]) ∧ decode cc pc = .ok (.lreturn, 1)) ∨ (M.2.1 = 3 ∧ (∃ v, vs = [(0, v)] ∧ (v = 0 ∨ v = 1)) ∧ decode cc pc = .ok (.ireturn, 1))) → zG p l e R s m args below meth c Q D cA ro b w0 nL mcT msT pc (ls, vs, w, bc, bs)) {i : zI} {len : Nat} {k : Int} (hd : decode cc pc = .ok (.iconst k, len)) (hk : zck X M tp pc (.iconst k) len i = true) (x : zS) : zSO p l e R s m args below meth c Q D cA ro b w0 nL mcT msT X.2.2.2.2.2.2.2.2 M.2.2.2 res tp pc len x (zstp i x) := by
  obtain ⟨ls, st, w, bc, bs⟩ := x
  simp only [zck, Bool.and_eq_true, decide_eq_true_iff, beq_iff_eq] at hk
  obtain ⟨rfl, rfl⟩ := hk
  show zSO p l e R s m args below meth c Q D cA ro b w0 nL mcT msT X.2.2.2.2.2.2.2.2 M.2.2.2 res tp pc _ _ (zs0 0 k (ls, st, w, bc, bs))
  unfold zs0
  exact fun K => zo_iconst C hd K
theorem zk_bipush (C : zCx p s m c args cc nL (zon M.1) D cA ro b w0) (hX : zTabsOk X) (hR : mcT ≤ R.cells ∧ msT ≤ R.slots) (hfr : M.2.2.2 ≤ R.frames) (hlo : 40 * M.2.2.2 + 40 ≤ R.locals) (hini : M.2.2.1 = true → meth.name = "<init>") (hRet : ∀ (pc : Nat) (ls : List zV) (vs : List zV) (w : zW) (bc bs : Nat), (vs, w) = res → ((M.2.1 = 0 ∧ vs = [] ∧ decode cc pc = .ok (.return_, 1)) ∨ (M.2.1 = 1 ∧ (∃ v, vs = [(0, v)]) ∧ decode cc pc = .ok (.ireturn, 1)) ∨ (M.2.1 = 2 ∧ (∃ v, vs = [(1, v)]) ∧ decode cc pc = .ok (.lreturn, 1)) ∨ (M.2.1 = 3 ∧ (∃ v, vs = [(0, v)] ∧ (v = 0 ∨ v = 1)) ∧ decode cc pc = .ok (.ireturn, 1))) → zG p l e R s m args below meth c Q D cA ro b w0 nL mcT msT pc (ls, vs, w, bc, bs)) {i : zI} {len : Nat} {k : Int} (hd : decode cc pc = .ok (.bipush k, len)) (hk : zck X M tp pc (.bipush k) len i = true) (x : zS) : zSO p l e R s m args below meth c Q D cA ro b w0 nL mcT msT X.2.2.2.2.2.2.2.2 M.2.2.2 res tp pc len x (zstp i x) := by
  obtain ⟨ls, st, w, bc, bs⟩ := x
  simp only [zck, Bool.and_eq_true, decide_eq_true_iff, beq_iff_eq] at hk
  obtain ⟨⟨rfl, rfl⟩, hr⟩ := hk
  show zSO p l e R s m args below meth c Q D cA ro b w0 nL mcT msT X.2.2.2.2.2.2.2.2 M.2.2.2 res tp pc _ _ (zs0 0 k (ls, st, w, bc, bs))
  unfold zs0
  exact fun K => zo_bipush C hr hd K
theorem zk_sipush (C : zCx p s m c args cc nL (zon M.1) D cA ro b w0) (hX : zTabsOk X) (hR : mcT ≤ R.cells ∧ msT ≤ R.slots) (hfr : M.2.2.2 ≤ R.frames) (hlo : 40 * M.2.2.2 + 40 ≤ R.locals) (hini : M.2.2.1 = true → meth.name = "<init>") (hRet : ∀ (pc : Nat) (ls : List zV) (vs : List zV) (w : zW) (bc bs : Nat), (vs, w) = res → ((M.2.1 = 0 ∧ vs = [] ∧ decode cc pc = .ok (.return_, 1)) ∨ (M.2.1 = 1 ∧ (∃ v, vs = [(0, v)]) ∧ decode cc pc = .ok (.ireturn, 1)) ∨ (M.2.1 = 2 ∧ (∃ v, vs = [(1, v)]) ∧ decode cc pc = .ok (.lreturn, 1)) ∨ (M.2.1 = 3 ∧ (∃ v, vs = [(0, v)] ∧ (v = 0 ∨ v = 1)) ∧ decode cc pc = .ok (.ireturn, 1))) → zG p l e R s m args below meth c Q D cA ro b w0 nL mcT msT pc (ls, vs, w, bc, bs)) {i : zI} {len : Nat} {k : Int} (hd : decode cc pc = .ok (.sipush k, len)) (hk : zck X M tp pc (.sipush k) len i = true) (x : zS) : zSO p l e R s m args below meth c Q D cA ro b w0 nL mcT msT X.2.2.2.2.2.2.2.2 M.2.2.2 res tp pc len x (zstp i x) := by
  obtain ⟨ls, st, w, bc, bs⟩ := x
  simp only [zck, Bool.and_eq_true, decide_eq_true_iff, beq_iff_eq] at hk
  obtain ⟨⟨rfl, rfl⟩, hr⟩ := hk
  show zSO p l e R s m args below meth c Q D cA ro b w0 nL mcT msT X.2.2.2.2.2.2.2.2 M.2.2.2 res tp pc _ _ (zs0 0 k (ls, st, w, bc, bs))
  unfold zs0
  exact fun K => zo_sipush C hr hd K
theorem zk_ldc (C : zCx p s m c args cc nL (zon M.1) D cA ro b w0) (hX : zTabsOk X) (hR : mcT ≤ R.cells ∧ msT ≤ R.slots) (hfr : M.2.2.2 ≤ R.frames) (hlo : 40 * M.2.2.2 + 40 ≤ R.locals) (hini : M.2.2.1 = true → meth.name = "<init>") (hRet : ∀ (pc : Nat) (ls : List zV) (vs : List zV) (w : zW) (bc bs : Nat), (vs, w) = res → ((M.2.1 = 0 ∧ vs = [] ∧ decode cc pc = .ok (.return_, 1)) ∨ (M.2.1 = 1 ∧ (∃ v, vs = [(0, v)]) ∧ decode cc pc = .ok (.ireturn, 1)) ∨ (M.2.1 = 2 ∧ (∃ v, vs = [(1, v)]) ∧ decode cc pc = .ok (.lreturn, 1)) ∨ (M.2.1 = 3 ∧ (∃ v, vs = [(0, v)] ∧ (v = 0 ∨ v = 1)) ∧ decode cc pc = .ok (.ireturn, 1))) → zG p l e R s m args below meth c Q D cA ro b w0 nL mcT msT pc (ls, vs, w, bc, bs)) {i : zI} {len : Nat} {ix : Nat} (hd : decode cc pc = .ok (.ldc ix, len)) (hk : zck X M tp pc (.ldc ix) len i = true) (x : zS) : zSO p l e R s m args below meth c Q D cA ro b w0 nL mcT msT X.2.2.2.2.2.2.2.2 M.2.2.2 res tp pc len x (zstp i x) := by
  obtain ⟨ls, st, w, bc, bs⟩ := x
  simp only [zck, Bool.and_eq_true, decide_eq_true_iff, beq_iff_eq] at hk
  obtain ⟨rfl, hk⟩ := hk
  obtain ⟨en, he, hk⟩ := List.any_eq_true.mp hk
  simp only [Bool.and_eq_true, decide_eq_true_iff, beq_iff_eq] at hk
  obtain ⟨⟨⟨h1, h2⟩, h3⟩, rfl⟩ := hk
  have hw := (hX.2.2.1 en he).1 h3
  rw [h1, h2] at hw
  show zSO p l e R s m args below meth c Q D cA ro b w0 nL mcT msT X.2.2.2.2.2.2.2.2 M.2.2.2 res tp pc _ _ (zs0 0 en.2.2.2 (ls, st, w, bc, bs))
  exact fun K => zo_ldc C hw hd K
theorem zk_ldc_w (C : zCx p s m c args cc nL (zon M.1) D cA ro b w0) (hX : zTabsOk X) (hR : mcT ≤ R.cells ∧ msT ≤ R.slots) (hfr : M.2.2.2 ≤ R.frames) (hlo : 40 * M.2.2.2 + 40 ≤ R.locals) (hini : M.2.2.1 = true → meth.name = "<init>") (hRet : ∀ (pc : Nat) (ls : List zV) (vs : List zV) (w : zW) (bc bs : Nat), (vs, w) = res → ((M.2.1 = 0 ∧ vs = [] ∧ decode cc pc = .ok (.return_, 1)) ∨ (M.2.1 = 1 ∧ (∃ v, vs = [(0, v)]) ∧ decode cc pc = .ok (.ireturn, 1)) ∨ (M.2.1 = 2 ∧ (∃ v, vs = [(1, v)]) ∧ decode cc pc = .ok (.lreturn, 1)) ∨ (M.2.1 = 3 ∧ (∃ v, vs = [(0, v)] ∧ (v = 0 ∨ v = 1)) ∧ decode cc pc = .ok (.ireturn, 1))) → zG p l e R s m args below meth c Q D cA ro b w0 nL mcT msT pc (ls, vs, w, bc, bs)) {i : zI} {len : Nat} {ix : Nat} (hd : decode cc pc = .ok (.ldc_w ix, len)) (hk : zck X M tp pc (.ldc_w ix) len i = true) (x : zS) : zSO p l e R s m args below meth c Q D cA ro b w0 nL mcT msT X.2.2.2.2.2.2.2.2 M.2.2.2 res tp pc len x (zstp i x) := by
  obtain ⟨ls, st, w, bc, bs⟩ := x
  simp only [zck, Bool.and_eq_true, decide_eq_true_iff, beq_iff_eq] at hk
  obtain ⟨rfl, hk⟩ := hk
  obtain ⟨en, he, hk⟩ := List.any_eq_true.mp hk
  simp only [Bool.and_eq_true, decide_eq_true_iff, beq_iff_eq] at hk
  obtain ⟨⟨⟨h1, h2⟩, h3⟩, rfl⟩ := hk
  have hw := (hX.2.2.1 en he).1 h3
  rw [h1, h2] at hw
  show zSO p l e R s m args below meth c Q D cA ro b w0 nL mcT msT X.2.2.2.2.2.2.2.2 M.2.2.2 res tp pc _ _ (zs0 0 en.2.2.2 (ls, st, w, bc, bs))
  exact fun K => zo_ldcw C hw hd K
theorem zk_ldc2_w (C : zCx p s m c args cc nL (zon M.1) D cA ro b w0) (hX : zTabsOk X) (hR : mcT ≤ R.cells ∧ msT ≤ R.slots) (hfr : M.2.2.2 ≤ R.frames) (hlo : 40 * M.2.2.2 + 40 ≤ R.locals) (hini : M.2.2.1 = true → meth.name = "<init>") (hRet : ∀ (pc : Nat) (ls : List zV) (vs : List zV) (w : zW) (bc bs : Nat), (vs, w) = res → ((M.2.1 = 0 ∧ vs = [] ∧ decode cc pc = .ok (.return_, 1)) ∨ (M.2.1 = 1 ∧ (∃ v, vs = [(0, v)]) ∧ decode cc pc = .ok (.ireturn, 1)) ∨ (M.2.1 = 2 ∧ (∃ v, vs = [(1, v)]) ∧ decode cc pc = .ok (.lreturn, 1)) ∨ (M.2.1 = 3 ∧ (∃ v, vs = [(0, v)] ∧ (v = 0 ∨ v = 1)) ∧ decode cc pc = .ok (.ireturn, 1))) → zG p l e R s m args below meth c Q D cA ro b w0 nL mcT msT pc (ls, vs, w, bc, bs)) {i : zI} {len : Nat} {ix : Nat} (hd : decode cc pc = .ok (.ldc2_w ix, len)) (hk : zck X M tp pc (.ldc2_w ix) len i = true) (x : zS) : zSO p l e R s m args below meth c Q D cA ro b w0 nL mcT msT X.2.2.2.2.2.2.2.2 M.2.2.2 res tp pc len x (zstp i x) := by
  obtain ⟨ls, st, w, bc, bs⟩ := x
  simp only [zck, Bool.and_eq_true, decide_eq_true_iff, beq_iff_eq] at hk
  obtain ⟨rfl, hk⟩ := hk
  obtain ⟨en, he, hk⟩ := List.any_eq_true.mp hk
  simp only [Bool.and_eq_true, decide_eq_true_iff, beq_iff_eq] at hk
  obtain ⟨⟨⟨h1, h2⟩, h3⟩, rfl⟩ := hk
  have hw := (hX.2.2.1 en he).2 h3
  rw [h1, h2] at hw
  show zSO p l e R s m args below meth c Q D cA ro b w0 nL mcT msT X.2.2.2.2.2.2.2.2 M.2.2.2 res tp pc _ _ (zs0 1 en.2.2.2 (ls, st, w, bc, bs))
  exact fun K => zo_ldc2 C hw hd K
theorem zk_lconst (C : zCx p s m c args cc nL (zon M.1) D cA ro b w0) (hX : zTabsOk X) (hR : mcT ≤ R.cells ∧ msT ≤ R.slots) (hfr : M.2.2.2 ≤ R.frames) (hlo : 40 * M.2.2.2 + 40 ≤ R.locals) (hini : M.2.2.1 = true → meth.name = "<init>") (hRet : ∀ (pc : Nat) (ls : List zV) (vs : List zV) (w : zW) (bc bs : Nat), (vs, w) = res → ((M.2.1 = 0 ∧ vs = [] ∧ decode cc pc = .ok (.return_, 1)) ∨ (M.2.1 = 1 ∧ (∃ v, vs = [(0, v)]) ∧ decode cc pc = .ok (.ireturn, 1)) ∨ (M.2.1 = 2 ∧ (∃ v, vs = [(1, v)]) ∧ decode cc pc = .ok (.lreturn, 1)) ∨ (M.2.1 = 3 ∧ (∃ v, vs = [(0, v)] ∧ (v = 0 ∨ v = 1)) ∧ decode cc pc = .ok (.ireturn, 1))) → zG p l e R s m args below meth c Q D cA ro b w0 nL mcT msT pc (ls, vs, w, bc, bs)) {i : zI} {len : Nat} {k : Fin 2} (hd : decode cc pc = .ok (.lconst k, len)) (hk : zck X M tp pc (.lconst k) len i = true) (x : zS) : zSO p l e R s m args below meth c Q D cA ro b w0 nL mcT msT X.2.2.2.2.2.2.2.2 M.2.2.2 res tp pc len x (zstp i x) := by
  obtain ⟨ls, st, w, bc, bs⟩ := x
  simp only [zck, Bool.and_eq_true, decide_eq_true_iff, beq_iff_eq] at hk
  obtain ⟨rfl, rfl⟩ := hk
  show zSO p l e R s m args below meth c Q D cA ro b w0 nL mcT msT X.2.2.2.2.2.2.2.2 M.2.2.2 res tp pc _ _ (zs0 1 ((k : Nat) : Int) (ls, st, w, bc, bs))
  unfold zs0
  exact fun K => zo_lconst C hd K
theorem zk_iload (C : zCx p s m c args cc nL (zon M.1) D cA ro b w0) (hX : zTabsOk X) (hR : mcT ≤ R.cells ∧ msT ≤ R.slots) (hfr : M.2.2.2 ≤ R.frames) (hlo : 40 * M.2.2.2 + 40 ≤ R.locals) (hini : M.2.2.1 = true → meth.name = "<init>") (hRet : ∀ (pc : Nat) (ls : List zV) (vs : List zV) (w : zW) (bc bs : Nat), (vs, w) = res → ((M.2.1 = 0 ∧ vs = [] ∧ decode cc pc = .ok (.return_, 1)) ∨ (M.2.1 = 1 ∧ (∃ v, vs = [(0, v)]) ∧ decode cc pc = .ok (.ireturn, 1)) ∨ (M.2.1 = 2 ∧ (∃ v, vs = [(1, v)]) ∧ decode cc pc = .ok (.lreturn, 1)) ∨ (M.2.1 = 3 ∧ (∃ v, vs = [(0, v)] ∧ (v = 0 ∨ v = 1)) ∧ decode cc pc = .ok (.ireturn, 1))) → zG p l e R s m args below meth c Q D cA ro b w0 nL mcT msT pc (ls, vs, w, bc, bs)) {i : zI} {len : Nat} {k : Nat} (hd : decode cc pc = .ok (.iload k, len)) (hk : zck X M tp pc (.iload k) len i = true) (x : zS) : zSO p l e R s m args below meth c Q D cA ro b w0 nL mcT msT X.2.2.2.2.2.2.2.2 M.2.2.2 res tp pc len x (zstp i x) := by
  obtain ⟨ls, st, w, bc, bs⟩ := x
  simp only [zck, Bool.and_eq_true, decide_eq_true_iff, beq_iff_eq] at hk
  obtain ⟨rfl, rfl⟩ := hk
  show zSO p l e R s m args below meth c Q D cA ro b w0 nL mcT msT X.2.2.2.2.2.2.2.2 M.2.2.2 res tp pc _ _ (zs1 k 0 (ls, st, w, bc, bs))
  unfold zs1
  dsimp only
  split
  · rename_i hc
    have hk : znth ls k = (0, (znth ls k).2) := Prod.ext hc.1 rfl
    have e : znth ls k :: st = (0, (znth ls k).2) :: st := by rw [← hk]
    rw [e]
    exact fun K => zo_iload C hk hd K
  · trivial
theorem zk_iload_n (C : zCx p s m c args cc nL (zon M.1) D cA ro b w0) (hX : zTabsOk X) (hR : mcT ≤ R.cells ∧ msT ≤ R.slots) (hfr : M.2.2.2 ≤ R.frames) (hlo : 40 * M.2.2.2 + 40 ≤ R.locals) (hini : M.2.2.1 = true → meth.name = "<init>") (hRet : ∀ (pc : Nat) (ls : List zV) (vs : List zV) (w : zW) (bc bs : Nat), (vs, w) = res → ((M.2.1 = 0 ∧ vs = [] ∧ decode cc pc = .ok (.return_, 1)) ∨ (M.2.1 = 1 ∧ (∃ v, vs = [(0, v)]) ∧ decode cc pc = .ok (.ireturn, 1)) ∨ (M.2.1 = 2 ∧ (∃ v, vs = [(1, v)]) ∧ decode cc pc = .ok (.lreturn, 1)) ∨ (M.2.1 = 3 ∧ (∃ v, vs = [(0, v)] ∧ (v = 0 ∨ v = 1)) ∧ decode cc pc = .ok (.ireturn, 1))) → zG p l e R s m args below meth c Q D cA ro b w0 nL mcT msT pc (ls, vs, w, bc, bs)) {i : zI} {len : Nat} {k : Fin 4} (hd : decode cc pc = .ok (.iload_n k, len)) (hk : zck X M tp pc (.iload_n k) len i = true) (x : zS) : zSO p l e R s m args below meth c Q D cA ro b w0 nL mcT msT X.2.2.2.2.2.2.2.2 M.2.2.2 res tp pc len x (zstp i x) := by
  obtain ⟨ls, st, w, bc, bs⟩ := x
  simp only [zck, Bool.and_eq_true, decide_eq_true_iff, beq_iff_eq] at hk
  obtain ⟨rfl, rfl⟩ := hk
  show zSO p l e R s m args below meth c Q D cA ro b w0 nL mcT msT X.2.2.2.2.2.2.2.2 M.2.2.2 res tp pc _ _ (zs1 (k : Nat) 0 (ls, st, w, bc, bs))
  unfold zs1
  dsimp only
  split
  · rename_i hc
    have hk : znth ls (k : Nat) = (0, (znth ls (k : Nat)).2) := Prod.ext hc.1 rfl
    have e : znth ls (k : Nat) :: st = (0, (znth ls (k : Nat)).2) :: st := by rw [← hk]
    rw [e]
    exact fun K => zo_iload_n C hk hd K
  · trivial
theorem zk_lload (C : zCx p s m c args cc nL (zon M.1) D cA ro b w0) (hX : zTabsOk X) (hR : mcT ≤ R.cells ∧ msT ≤ R.slots) (hfr : M.2.2.2 ≤ R.frames) (hlo : 40 * M.2.2.2 + 40 ≤ R.locals) (hini : M.2.2.1 = true → meth.name = "<init>") (hRet : ∀ (pc : Nat) (ls : List zV) (vs : List zV) (w : zW) (bc bs : Nat), (vs, w) = res → ((M.2.1 = 0 ∧ vs = [] ∧ decode cc pc = .ok (.return_, 1)) ∨ (M.2.1 = 1 ∧ (∃ v, vs = [(0, v)]) ∧ decode cc pc = .ok (.ireturn, 1)) ∨ (M.2.1 = 2 ∧ (∃ v, vs = [(1, v)]) ∧ decode cc pc = .ok (.lreturn, 1)) ∨ (M.2.1 = 3 ∧ (∃ v, vs = [(0, v)] ∧ (v = 0 ∨ v = 1)) ∧ decode cc pc = .ok (.ireturn, 1))) → zG p l e R s m args below meth c Q D cA ro b w0 nL mcT msT pc (ls, vs, w, bc, bs)) {i : zI} {len : Nat} {k : Nat} (hd : decode cc pc = .ok (.lload k, len)) (hk : zck X M tp pc (.lload k) len i = true) (x : zS) : zSO p l e R s m args below meth c Q D cA ro b w0 nL mcT msT X.2.2.2.2.2.2.2.2 M.2.2.2 res tp pc len x (zstp i x) := by
  obtain ⟨ls, st, w, bc, bs⟩ := x
  simp only [zck, Bool.and_eq_true, decide_eq_true_iff, beq_iff_eq] at hk
  obtain ⟨rfl, rfl⟩ := hk
  show zSO p l e R s m args below meth c Q D cA ro b w0 nL mcT msT X.2.2.2.2.2.2.2.2 M.2.2.2 res tp pc _ _ (zs1 k 1 (ls, st, w, bc, bs))
  unfold zs1
  dsimp only
  split
  · rename_i hc
    have hk : znth ls k = (1, (znth ls k).2) := Prod.ext hc.1 rfl
    have e : znth ls k :: st = (1, (znth ls k).2) :: st := by rw [← hk]
    rw [e]
    exact fun K => zo_lload C hk hd K
  · trivial
theorem zk_lload_n (C : zCx p s m c args cc nL (zon M.1) D cA ro b w0) (hX : zTabsOk X) (hR : mcT ≤ R.cells ∧ msT ≤ R.slots) (hfr : M.2.2.2 ≤ R.frames) (hlo : 40 * M.2.2.2 + 40 ≤ R.locals) (hini : M.2.2.1 = true → meth.name = "<init>") (hRet : ∀ (pc : Nat) (ls : List zV) (vs : List zV) (w : zW) (bc bs : Nat), (vs, w) = res → ((M.2.1 = 0 ∧ vs = [] ∧ decode cc pc = .ok (.return_, 1)) ∨ (M.2.1 = 1 ∧ (∃ v, vs = [(0, v)]) ∧ decode cc pc = .ok (.ireturn, 1)) ∨ (M.2.1 = 2 ∧ (∃ v, vs = [(1, v)]) ∧ decode cc pc = .ok (.lreturn, 1)) ∨ (M.2.1 = 3 ∧ (∃ v, vs = [(0, v)] ∧ (v = 0 ∨ v = 1)) ∧ decode cc pc = .ok (.ireturn, 1))) → zG p l e R s m args below meth c Q D cA ro b w0 nL mcT msT pc (ls, vs, w, bc, bs)) {i : zI} {len : Nat} {k : Fin 4} (hd : decode cc pc = .ok (.lload_n k, len)) (hk : zck X M tp pc (.lload_n k) len i = true) (x : zS) : zSO p l e R s m args below meth c Q D cA ro b w0 nL mcT msT X.2.2.2.2.2.2.2.2 M.2.2.2 res tp pc len x (zstp i x) := by
  obtain ⟨ls, st, w, bc, bs⟩ := x
  simp only [zck, Bool.and_eq_true, decide_eq_true_iff, beq_iff_eq] at hk
  obtain ⟨rfl, rfl⟩ := hk
  show zSO p l e R s m args below meth c Q D cA ro b w0 nL mcT msT X.2.2.2.2.2.2.2.2 M.2.2.2 res tp pc _ _ (zs1 (k : Nat) 1 (ls, st, w, bc, bs))
  unfold zs1
  dsimp only
  split
  · rename_i hc
    have hk : znth ls (k : Nat) = (1, (znth ls (k : Nat)).2) := Prod.ext hc.1 rfl
    have e : znth ls (k : Nat) :: st = (1, (znth ls (k : Nat)).2) :: st := by rw [← hk]
    rw [e]
    exact fun K => zo_lload_n C hk hd K
  · trivial
theorem zk_aload (C : zCx p s m c args cc nL (zon M.1) D cA ro b w0) (hX : zTabsOk X) (hR : mcT ≤ R.cells ∧ msT ≤ R.slots) (hfr : M.2.2.2 ≤ R.frames) (hlo : 40 * M.2.2.2 + 40 ≤ R.locals) (hini : M.2.2.1 = true → meth.name = "<init>") (hRet : ∀ (pc : Nat) (ls : List zV) (vs : List zV) (w : zW) (bc bs : Nat), (vs, w) = res → ((M.2.1 = 0 ∧ vs = [] ∧ decode cc pc = .ok (.return_, 1)) ∨ (M.2.1 = 1 ∧ (∃ v, vs = [(0, v)]) ∧ decode cc pc = .ok (.ireturn, 1)) ∨ (M.2.1 = 2 ∧ (∃ v, vs = [(1, v)]) ∧ decode cc pc = .ok (.lreturn, 1)) ∨ (M.2.1 = 3 ∧ (∃ v, vs = [(0, v)] ∧ (v = 0 ∨ v = 1)) ∧ decode cc pc = .ok (.ireturn, 1))) → zG p l e R s m args below meth c Q D cA ro b w0 nL mcT msT pc (ls, vs, w, bc, bs)) {i : zI} {len : Nat} {k : Nat} (hd : decode cc pc = .ok (.aload k, len)) (hk : zck X M tp pc (.aload k) len i = true) (x : zS) : zSO p l e R s m args below meth c Q D cA ro b w0 nL mcT msT X.2.2.2.2.2.2.2.2 M.2.2.2 res tp pc len x (zstp i x) := by
  obtain ⟨ls, st, w, bc, bs⟩ := x
  simp only [zck, Bool.and_eq_true, decide_eq_true_iff, beq_iff_eq] at hk
  obtain ⟨rfl, rfl⟩ := hk
  show zSO p l e R s m args below meth c Q D cA ro b w0 nL mcT msT X.2.2.2.2.2.2.2.2 M.2.2.2 res tp pc _ _ (zs1 k 2 (ls, st, w, bc, bs))
  unfold zs1
  dsimp only
  split
  · rename_i hc
    have hk : znth ls k = (2, (znth ls k).2) := Prod.ext hc.1 rfl
    have e : znth ls k :: st = (2, (znth ls k).2) :: st := by rw [← hk]
    rw [e]
    exact fun K => zo_aload C hk hd K
  · trivial
theorem zk_aload_n (C : zCx p s m c args cc nL (zon M.1) D cA ro b w0) (hX : zTabsOk X) (hR : mcT ≤ R.cells ∧ msT ≤ R.slots) (hfr : M.2.2.2 ≤ R.frames) (hlo : 40 * M.2.2.2 + 40 ≤ R.locals) (hini : M.2.2.1 = true → meth.name = "<init>") (hRet : ∀ (pc : Nat) (ls : List zV) (vs : List zV) (w : zW) (bc bs : Nat), (vs, w) = res → ((M.2.1 = 0 ∧ vs = [] ∧ decode cc pc = .ok (.return_, 1)) ∨ (M.2.1 = 1 ∧ (∃ v, vs = [(0, v)]) ∧ decode cc pc = .ok (.ireturn, 1)) ∨ (M.2.1 = 2 ∧ (∃ v, vs = [(1, v)]) ∧ decode cc pc = .ok (.lreturn, 1)) ∨ (M.2.1 = 3 ∧ (∃ v, vs = [(0, v)] ∧ (v = 0 ∨ v = 1)) ∧ decode cc pc = .ok (.ireturn, 1))) → zG p l e R s m args below meth c Q D cA ro b w0 nL mcT msT pc (ls, vs, w, bc, bs)) {i : zI} {len : Nat} {k : Fin 4} (hd : decode cc pc = .ok (.aload_n k, len)) (hk : zck X M tp pc (.aload_n k) len i = true) (x : zS) : zSO p l e R s m args below meth c Q D cA ro b w0 nL mcT msT X.2.2.2.2.2.2.2.2 M.2.2.2 res tp pc len x (zstp i x) := by
  obtain ⟨ls, st, w, bc, bs⟩ := x
  simp only [zck, Bool.and_eq_true, decide_eq_true_iff, beq_iff_eq] at hk
  obtain ⟨rfl, rfl⟩ := hk
  show zSO p l e R s m args below meth c Q D cA ro b w0 nL mcT msT X.2.2.2.2.2.2.2.2 M.2.2.2 res tp pc _ _ (zs1 (k : Nat) 2 (ls, st, w, bc, bs))
  unfold zs1
  dsimp only
  split
  · rename_i hc
    have hk : znth ls (k : Nat) = (2, (znth ls (k : Nat)).2) := Prod.ext hc.1 rfl
    have e : znth ls (k : Nat) :: st = (2, (znth ls (k : Nat)).2) :: st := by rw [← hk]
    rw [e]
    exact fun K => zo_aload_n C hk hd K
  · trivial
theorem zk_istore (C : zCx p s m c args cc nL (zon M.1) D cA ro b w0) (hX : zTabsOk X) (hR : mcT ≤ R.cells ∧ msT ≤ R.slots) (hfr : M.2.2.2 ≤ R.frames) (hlo : 40 * M.2.2.2 + 40 ≤ R.locals) (hini : M.2.2.1 = true → meth.name = "<init>") (hRet : ∀ (pc : Nat) (ls : List zV) (vs : List zV) (w : zW) (bc bs : Nat), (vs, w) = res → ((M.2.1 = 0 ∧ vs = [] ∧ decode cc pc = .ok (.return_, 1)) ∨ (M.2.1 = 1 ∧ (∃ v, vs = [(0, v)]) ∧ decode cc pc = .ok (.ireturn, 1)) ∨ (M.2.1 = 2 ∧ (∃ v, vs = [(1, v)]) ∧ decode cc pc = .ok (.lreturn, 1)) ∨ (M.2.1 = 3 ∧ (∃ v, vs = [(0, v)] ∧ (v = 0 ∨ v = 1)) ∧ decode cc pc = .ok (.ireturn, 1))) → zG p l e R s m args below meth c Q D cA ro b w0 nL mcT msT pc (ls, vs, w, bc, bs)) {i : zI} {len : Nat} {k : Nat} (hd : decode cc pc = .ok (.istore k, len)) (hk : zck X M tp pc (.istore k) len i = true) (x : zS) : zSO p l e R s m args below meth c Q D cA ro b w0 nL mcT msT X.2.2.2.2.2.2.2.2 M.2.2.2 res tp pc len x (zstp i x) := by
  obtain ⟨ls, st, w, bc, bs⟩ := x
  simp only [zck, Bool.and_eq_true, decide_eq_true_iff, beq_iff_eq] at hk
  obtain ⟨rfl, rfl⟩ := hk
  show zSO p l e R s m args below meth c Q D cA ro b w0 nL mcT msT X.2.2.2.2.2.2.2.2 M.2.2.2 res tp pc _ _ (zs2 k 0 (ls, st, w, bc, bs))
  unfold zs2
  split
  · rename_i heq
    cases heq
    split
    · rename_i hc
      obtain ⟨rfl, hc⟩ := hc
      exact fun K => zo_istore C hc hd K
    · trivial
  · trivial
theorem zk_istore_n (C : zCx p s m c args cc nL (zon M.1) D cA ro b w0) (hX : zTabsOk X) (hR : mcT ≤ R.cells ∧ msT ≤ R.slots) (hfr : M.2.2.2 ≤ R.frames) (hlo : 40 * M.2.2.2 + 40 ≤ R.locals) (hini : M.2.2.1 = true → meth.name = "<init>") (hRet : ∀ (pc : Nat) (ls : List zV) (vs : List zV) (w : zW) (bc bs : Nat), (vs, w) = res → ((M.2.1 = 0 ∧ vs = [] ∧ decode cc pc = .ok (.return_, 1)) ∨ (M.2.1 = 1 ∧ (∃ v, vs = [(0, v)]) ∧ decode cc pc = .ok (.ireturn, 1)) ∨ (M.2.1 = 2 ∧ (∃ v, vs = [(1, v)]) ∧ decode cc pc = .ok (.lreturn, 1)) ∨ (M.2.1 = 3 ∧ (∃ v, vs = [(0, v)] ∧ (v = 0 ∨ v = 1)) ∧ decode cc pc = .ok (.ireturn, 1))) → zG p l e R s m args below meth c Q D cA ro b w0 nL mcT msT pc (ls, vs, w, bc, bs)) {i : zI} {len : Nat} {k : Fin 4} (hd : decode cc pc = .ok (.istore_n k, len)) (hk : zck X M tp pc (.istore_n k) len i = true) (x : zS) : zSO p l e R s m args below meth c Q D cA ro b w0 nL mcT msT X.2.2.2.2.2.2.2.2 M.2.2.2 res tp pc len x (zstp i x) := by
  obtain ⟨ls, st, w, bc, bs⟩ := x
  simp only [zck, Bool.and_eq_true, decide_eq_true_iff, beq_iff_eq] at hk
  obtain ⟨rfl, rfl⟩ := hk
  show zSO p l e R s m args below meth c Q D cA ro b w0 nL mcT msT X.2.2.2.2.2.2.2.2 M.2.2.2 res tp pc _ _ (zs2 (k : Nat) 0 (ls, st, w, bc, bs))
  unfold zs2
  split
  · rename_i heq
    cases heq
    split
    · rename_i hc
      obtain ⟨rfl, hc⟩ := hc
      exact fun K => zo_istore_n C hc hd K
    · trivial
  · trivial
theorem zk_astore (C : zCx p s m c args cc nL (zon M.1) D cA ro b w0) (hX : zTabsOk X) (hR : mcT ≤ R.cells ∧ msT ≤ R.slots) (hfr : M.2.2.2 ≤ R.frames) (hlo : 40 * M.2.2.2 + 40 ≤ R.locals) (hini : M.2.2.1 = true → meth.name = "<init>") (hRet : ∀ (pc : Nat) (ls : List zV) (vs : List zV) (w : zW) (bc bs : Nat), (vs, w) = res → ((M.2.1 = 0 ∧ vs = [] ∧ decode cc pc = .ok (.return_, 1)) ∨ (M.2.1 = 1 ∧ (∃ v, vs = [(0, v)]) ∧ decode cc pc = .ok (.ireturn, 1)) ∨ (M.2.1 = 2 ∧ (∃ v, vs = [(1, v)]) ∧ decode cc pc = .ok (.lreturn, 1)) ∨ (M.2.1 = 3 ∧ (∃ v, vs = [(0, v)] ∧ (v = 0 ∨ v = 1)) ∧ decode cc pc = .ok (.ireturn, 1))) → zG p l e R s m args below meth c Q D cA ro b w0 nL mcT msT pc (ls, vs, w, bc, bs)) {i : zI} {len : Nat} {k : Nat} (hd : decode cc pc = .ok (.astore k, len)) (hk : zck X M tp pc (.astore k) len i = true) (x : zS) : zSO p l e R s m args below meth c Q D cA ro b w0 nL mcT msT X.2.2.2.2.2.2.2.2 M.2.2.2 res tp pc len x (zstp i x) := by
  obtain ⟨ls, st, w, bc, bs⟩ := x
  simp only [zck, Bool.and_eq_true, decide_eq_true_iff, beq_iff_eq] at hk
  obtain ⟨rfl, rfl⟩ := hk
  show zSO p l e R s m args below meth c Q D cA ro b w0 nL mcT msT X.2.2.2.2.2.2.2.2 M.2.2.2 res tp pc _ _ (zs2 k 2 (ls, st, w, bc, bs))
  unfold zs2
  split
  · rename_i heq
    cases heq
    split
    · rename_i hc
      obtain ⟨rfl, hc⟩ := hc
      exact fun K => zo_astore C hc hd K
    · trivial
  · trivial
theorem zk_astore_n (C : zCx p s m c args cc nL (zon M.1) D cA ro b w0) (hX : zTabsOk X) (hR : mcT ≤ R.cells ∧ msT ≤ R.slots) (hfr : M.2.2.2 ≤ R.frames) (hlo : 40 * M.2.2.2 + 40 ≤ R.locals) (hini : M.2.2.1 = true → meth.name = "<init>") (hRet : ∀ (pc : Nat) (ls : List zV) (vs : List zV) (w : zW) (bc bs : Nat), (vs, w) = res → ((M.2.1 = 0 ∧ vs = [] ∧ decode cc pc = .ok (.return_, 1)) ∨ (M.2.1 = 1 ∧ (∃ v, vs = [(0, v)]) ∧ decode cc pc = .ok (.ireturn, 1)) ∨ (M.2.1 = 2 ∧ (∃ v, vs = [(1, v)]) ∧ decode cc pc = .ok (.lreturn, 1)) ∨ (M.2.1 = 3 ∧ (∃ v, vs = [(0, v)] ∧ (v = 0 ∨ v = 1)) ∧ decode cc pc = .ok (.ireturn, 1))) → zG p l e R s m args below meth c Q D cA ro b w0 nL mcT msT pc (ls, vs, w, bc, bs)) {i : zI} {len : Nat} {k : Fin 4} (hd : decode cc pc = .ok (.astore_n k, len)) (hk : zck X M tp pc (.astore_n k) len i = true) (x : zS) : zSO p l e R s m args below meth c Q D cA ro b w0 nL mcT msT X.2.2.2.2.2.2.2.2 M.2.2.2 res tp pc len x (zstp i x) := by
  obtain ⟨ls, st, w, bc, bs⟩ := x
  simp only [zck, Bool.and_eq_true, decide_eq_true_iff, beq_iff_eq] at hk
  obtain ⟨rfl, rfl⟩ := hk
  show zSO p l e R s m args below meth c Q D cA ro b w0 nL mcT msT X.2.2.2.2.2.2.2.2 M.2.2.2 res tp pc _ _ (zs2 (k : Nat) 2 (ls, st, w, bc, bs))
  unfold zs2
  split
  · rename_i heq
    cases heq
    split
    · rename_i hc
      obtain ⟨rfl, hc⟩ := hc
      exact fun K => zo_astore_n C hc hd K
    · trivial
  · trivial
theorem zk_lstore (C : zCx p s m c args cc nL (zon M.1) D cA ro b w0) (hX : zTabsOk X) (hR : mcT ≤ R.cells ∧ msT ≤ R.slots) (hfr : M.2.2.2 ≤ R.frames) (hlo : 40 * M.2.2.2 + 40 ≤ R.locals) (hini : M.2.2.1 = true → meth.name = "<init>") (hRet : ∀ (pc : Nat) (ls : List zV) (vs : List zV) (w : zW) (bc bs : Nat), (vs, w) = res → ((M.2.1 = 0 ∧ vs = [] ∧ decode cc pc = .ok (.return_, 1)) ∨ (M.2.1 = 1 ∧ (∃ v, vs = [(0, v)]) ∧ decode cc pc = .ok (.ireturn, 1)) ∨ (M.2.1 = 2 ∧ (∃ v, vs = [(1, v)]) ∧ decode cc pc = .ok (.lreturn, 1)) ∨ (M.2.1 = 3 ∧ (∃ v, vs = [(0, v)] ∧ (v = 0 ∨ v = 1)) ∧ decode cc pc = .ok (.ireturn, 1))) → zG p l e R s m args below meth c Q D cA ro b w0 nL mcT msT pc (ls, vs, w, bc, bs)) {i : zI} {len : Nat} {k : Nat} (hd : decode cc pc = .ok (.lstore k, len)) (hk : zck X M tp pc (.lstore k) len i = true) (x : zS) : zSO p l e R s m args below meth c Q D cA ro b w0 nL mcT msT X.2.2.2.2.2.2.2.2 M.2.2.2 res tp pc len x (zstp i x) := by
  obtain ⟨ls, st, w, bc, bs⟩ := x
  simp only [zck, Bool.and_eq_true, decide_eq_true_iff, beq_iff_eq] at hk
  obtain ⟨rfl, rfl⟩ := hk
  show zSO p l e R s m args below meth c Q D cA ro b w0 nL mcT msT X.2.2.2.2.2.2.2.2 M.2.2.2 res tp pc _ _ (zs3 k (ls, st, w, bc, bs))
  unfold zs3
  split
  · rename_i heq
    cases heq
    split
    · rename_i hc
      exact fun K => zo_lstore C hc hd K
    · trivial
  · trivial
theorem zk_lstore_n (C : zCx p s m c args cc nL (zon M.1) D cA ro b w0) (hX : zTabsOk X) (hR : mcT ≤ R.cells ∧ msT ≤ R.slots) (hfr : M.2.2.2 ≤ R.frames) (hlo : 40 * M.2.2.2 + 40 ≤ R.locals) (hini : M.2.2.1 = true → meth.name = "<init>") (hRet : ∀ (pc : Nat) (ls : List zV) (vs : List zV) (w : zW) (bc bs : Nat), (vs, w) = res → ((M.2.1 = 0 ∧ vs = [] ∧ decode cc pc = .ok (.return_, 1)) ∨ (M.2.1 = 1 ∧ (∃ v, vs = [(0, v)]) ∧ decode cc pc = .ok (.ireturn, 1)) ∨ (M.2.1 = 2 ∧ (∃ v, vs = [(1, v)]) ∧ decode cc pc = .ok (.lreturn, 1)) ∨ (M.2.1 = 3 ∧ (∃ v, vs = [(0, v)] ∧ (v = 0 ∨ v = 1)) ∧ decode cc pc = .ok (.ireturn, 1))) → zG p l e R s m args below meth c Q D cA ro b w0 nL mcT msT pc (ls, vs, w, bc, bs)) {i : zI} {len : Nat} {k : Fin 4} (hd : decode cc pc = .ok (.lstore_n k, len)) (hk : zck X M tp pc (.lstore_n k) len i = true) (x : zS) : zSO p l e R s m args below meth c Q D cA ro b w0 nL mcT msT X.2.2.2.2.2.2.2.2 M.2.2.2 res tp pc len x (zstp i x) := by
  obtain ⟨ls, st, w, bc, bs⟩ := x
  simp only [zck, Bool.and_eq_true, decide_eq_true_iff, beq_iff_eq] at hk
  obtain ⟨rfl, rfl⟩ := hk
  show zSO p l e R s m args below meth c Q D cA ro b w0 nL mcT msT X.2.2.2.2.2.2.2.2 M.2.2.2 res tp pc _ _ (zs3 (k : Nat) (ls, st, w, bc, bs))
  unfold zs3
  split
  · rename_i heq
    cases heq
    split
    · rename_i hc
      exact fun K => zo_lstore_n C hc hd K
    · trivial
  · trivial
theorem zk_iinc (C : zCx p s m c args cc nL (zon M.1) D cA ro b w0) (hX : zTabsOk X) (hR : mcT ≤ R.cells ∧ msT ≤ R.slots) (hfr : M.2.2.2 ≤ R.frames) (hlo : 40 * M.2.2.2 + 40 ≤ R.locals) (hini : M.2.2.1 = true → meth.name = "<init>") (hRet : ∀ (pc : Nat) (ls : List zV) (vs : List zV) (w : zW) (bc bs : Nat), (vs, w) = res → ((M.2.1 = 0 ∧ vs = [] ∧ decode cc pc = .ok (.return_, 1)) ∨ (M.2.1 = 1 ∧ (∃ v, vs = [(0, v)]) ∧ decode cc pc = .ok (.ireturn, 1)) ∨ (M.2.1 = 2 ∧ (∃ v, vs = [(1, v)]) ∧ decode cc pc = .ok (.lreturn, 1)) ∨ (M.2.1 = 3 ∧ (∃ v, vs = [(0, v)] ∧ (v = 0 ∨ v = 1)) ∧ decode cc pc = .ok (.ireturn, 1))) → zG p l e R s m args below meth c Q D cA ro b w0 nL mcT msT pc (ls, vs, w, bc, bs)) {i : zI} {len : Nat} {k : Nat} {v : Int} (hd : decode cc pc = .ok (.iinc k v, len)) (hk : zck X M tp pc (.iinc k v) len i = true) (x : zS) : zSO p l e R s m args below meth c Q D cA ro b w0 nL mcT msT X.2.2.2.2.2.2.2.2 M.2.2.2 res tp pc len x (zstp i x) := by
  obtain ⟨ls, st, w, bc, bs⟩ := x
  simp only [zck, Bool.and_eq_true, decide_eq_true_iff, beq_iff_eq] at hk
  obtain ⟨rfl, rfl⟩ := hk
  show zSO p l e R s m args below meth c Q D cA ro b w0 nL mcT msT X.2.2.2.2.2.2.2.2 M.2.2.2 res tp pc _ _ (zs4 k v (ls, st, w, bc, bs))
  unfold zs4
  dsimp only
  split
  · rename_i hc
    exact fun K => zo_iinc C (Prod.ext hc rfl) hd K
  · trivial
theorem zk_iadd (C : zCx p s m c args cc nL (zon M.1) D cA ro b w0) (hX : zTabsOk X) (hR : mcT ≤ R.cells ∧ msT ≤ R.slots) (hfr : M.2.2.2 ≤ R.frames) (hlo : 40 * M.2.2.2 + 40 ≤ R.locals) (hini : M.2.2.1 = true → meth.name = "<init>") (hRet : ∀ (pc : Nat) (ls : List zV) (vs : List zV) (w : zW) (bc bs : Nat), (vs, w) = res → ((M.2.1 = 0 ∧ vs = [] ∧ decode cc pc = .ok (.return_, 1)) ∨ (M.2.1 = 1 ∧ (∃ v, vs = [(0, v)]) ∧ decode cc pc = .ok (.ireturn, 1)) ∨ (M.2.1 = 2 ∧ (∃ v, vs = [(1, v)]) ∧ decode cc pc = .ok (.lreturn, 1)) ∨ (M.2.1 = 3 ∧ (∃ v, vs = [(0, v)] ∧ (v = 0 ∨ v = 1)) ∧ decode cc pc = .ok (.ireturn, 1))) → zG p l e R s m args below meth c Q D cA ro b w0 nL mcT msT pc (ls, vs, w, bc, bs)) {i : zI} {len : Nat}  (hd : decode cc pc = .ok (.iadd, len)) (hk : zck X M tp pc (.iadd) len i = true) (x : zS) : zSO p l e R s m args below meth c Q D cA ro b w0 nL mcT msT X.2.2.2.2.2.2.2.2 M.2.2.2 res tp pc len x (zstp i x) := by
  obtain ⟨ls, st, w, bc, bs⟩ := x
  simp only [zck, Bool.and_eq_true, decide_eq_true_iff, beq_iff_eq] at hk
  obtain ⟨rfl, rfl⟩ := hk
  show zSO p l e R s m args below meth c Q D cA ro b w0 nL mcT msT X.2.2.2.2.2.2.2.2 M.2.2.2 res tp pc _ _ (zs5 0 (ls, st, w, bc, bs))
  unfold zs5
  split
  · rename_i heq
    cases heq
    exact fun K => zo_iadd C hd K
  · trivial
theorem zk_isub (C : zCx p s m c args cc nL (zon M.1) D cA ro b w0) (hX : zTabsOk X) (hR : mcT ≤ R.cells ∧ msT ≤ R.slots) (hfr : M.2.2.2 ≤ R.frames) (hlo : 40 * M.2.2.2 + 40 ≤ R.locals) (hini : M.2.2.1 = true → meth.name = "<init>") (hRet : ∀ (pc : Nat) (ls : List zV) (vs : List zV) (w : zW) (bc bs : Nat), (vs, w) = res → ((M.2.1 = 0 ∧ vs = [] ∧ decode cc pc = .ok (.return_, 1)) ∨ (M.2.1 = 1 ∧ (∃ v, vs = [(0, v)]) ∧ decode cc pc = .ok (.ireturn, 1)) ∨ (M.2.1 = 2 ∧ (∃ v, vs = [(1, v)]) ∧ decode cc pc = .ok (.lreturn, 1)) ∨ (M.2.1 = 3 ∧ (∃ v, vs = [(0, v)] ∧ (v = 0 ∨ v = 1)) ∧ decode cc pc = .ok (.ireturn, 1))) → zG p l e R s m args below meth c Q D cA ro b w0 nL mcT msT pc (ls, vs, w, bc, bs)) {i : zI} {len : Nat}  (hd : decode cc pc = .ok (.isub, len)) (hk : zck X M tp pc (.isub) len i = true) (x : zS) : zSO p l e R s m args below meth c Q D cA ro b w0 nL mcT msT X.2.2.2.2.2.2.2.2 M.2.2.2 res tp pc len x (zstp i x) := by
  obtain ⟨ls, st, w, bc, bs⟩ := x
  simp only [zck, Bool.and_eq_true, decide_eq_true_iff, beq_iff_eq] at hk
  obtain ⟨rfl, rfl⟩ := hk
  show zSO p l e R s m args below meth c Q D cA ro b w0 nL mcT msT X.2.2.2.2.2.2.2.2 M.2.2.2 res tp pc _ _ (zs5 1 (ls, st, w, bc, bs))
  unfold zs5
  split
  · rename_i heq
    cases heq
    exact fun K => zo_isub C hd K
  · trivial
theorem zk_imul (C : zCx p s m c args cc nL (zon M.1) D cA ro b w0) (hX : zTabsOk X) (hR : mcT ≤ R.cells ∧ msT ≤ R.slots) (hfr : M.2.2.2 ≤ R.frames) (hlo : 40 * M.2.2.2 + 40 ≤ R.locals) (hini : M.2.2.1 = true → meth.name = "<init>") (hRet : ∀ (pc : Nat) (ls : List zV) (vs : List zV) (w : zW) (bc bs : Nat), (vs, w) = res → ((M.2.1 = 0 ∧ vs = [] ∧ decode cc pc = .ok (.return_, 1)) ∨ (M.2.1 = 1 ∧ (∃ v, vs = [(0, v)]) ∧ decode cc pc = .ok (.ireturn, 1)) ∨ (M.2.1 = 2 ∧ (∃ v, vs = [(1, v)]) ∧ decode cc pc = .ok (.lreturn, 1)) ∨ (M.2.1 = 3 ∧ (∃ v, vs = [(0, v)] ∧ (v = 0 ∨ v = 1)) ∧ decode cc pc = .ok (.ireturn, 1))) → zG p l e R s m args below meth c Q D cA ro b w0 nL mcT msT pc (ls, vs, w, bc, bs)) {i : zI} {len : Nat}  (hd : decode cc pc = .ok (.imul, len)) (hk : zck X M tp pc (.imul) len i = true) (x : zS) : zSO p l e R s m args below meth c Q D cA ro b w0 nL mcT msT X.2.2.2.2.2.2.2.2 M.2.2.2 res tp pc len x (zstp i x) := by
  obtain ⟨ls, st, w, bc, bs⟩ := x
  simp only [zck, Bool.and_eq_true, decide_eq_true_iff, beq_iff_eq] at hk
  obtain ⟨rfl, rfl⟩ := hk
  show zSO p l e R s m args below meth c Q D cA ro b w0 nL mcT msT X.2.2.2.2.2.2.2.2 M.2.2.2 res tp pc _ _ (zs5 2 (ls, st, w, bc, bs))
  unfold zs5
  split
  · rename_i heq
    cases heq
    exact fun K => zo_imul C hd K
  · trivial
theorem zk_iand (C : zCx p s m c args cc nL (zon M.1) D cA ro b w0) (hX : zTabsOk X) (hR : mcT ≤ R.cells ∧ msT ≤ R.slots) (hfr : M.2.2.2 ≤ R.frames) (hlo : 40 * M.2.2.2 + 40 ≤ R.locals) (hini : M.2.2.1 = true → meth.name = "<init>") (hRet : ∀ (pc : Nat) (ls : List zV) (vs : List zV) (w : zW) (bc bs : Nat), (vs, w) = res → ((M.2.1 = 0 ∧ vs = [] ∧ decode cc pc = .ok (.return_, 1)) ∨ (M.2.1 = 1 ∧ (∃ v, vs = [(0, v)]) ∧ decode cc pc = .ok (.ireturn, 1)) ∨ (M.2.1 = 2 ∧ (∃ v, vs = [(1, v)]) ∧ decode cc pc = .ok (.lreturn, 1)) ∨ (M.2.1 = 3 ∧ (∃ v, vs = [(0, v)] ∧ (v = 0 ∨ v = 1)) ∧ decode cc pc = .ok (.ireturn, 1))) → zG p l e R s m args below meth c Q D cA ro b w0 nL mcT msT pc (ls, vs, w, bc, bs)) {i : zI} {len : Nat}  (hd : decode cc pc = .ok (.iand, len)) (hk : zck X M tp pc (.iand) len i = true) (x : zS) : zSO p l e R s m args below meth c Q D cA ro b w0 nL mcT msT X.2.2.2.2.2.2.2.2 M.2.2.2 res tp pc len x (zstp i x) := by
  obtain ⟨ls, st, w, bc, bs⟩ := x
  simp only [zck, Bool.and_eq_true, decide_eq_true_iff, beq_iff_eq] at hk
  obtain ⟨rfl, rfl⟩ := hk
  show zSO p l e R s m args below meth c Q D cA ro b w0 nL mcT msT X.2.2.2.2.2.2.2.2 M.2.2.2 res tp pc _ _ (zs5 3 (ls, st, w, bc, bs))
  unfold zs5
  split
  · rename_i heq
    cases heq
    exact fun K => zo_iand C hd K
  · trivial
theorem zk_ior (C : zCx p s m c args cc nL (zon M.1) D cA ro b w0) (hX : zTabsOk X) (hR : mcT ≤ R.cells ∧ msT ≤ R.slots) (hfr : M.2.2.2 ≤ R.frames) (hlo : 40 * M.2.2.2 + 40 ≤ R.locals) (hini : M.2.2.1 = true → meth.name = "<init>") (hRet : ∀ (pc : Nat) (ls : List zV) (vs : List zV) (w : zW) (bc bs : Nat), (vs, w) = res → ((M.2.1 = 0 ∧ vs = [] ∧ decode cc pc = .ok (.return_, 1)) ∨ (M.2.1 = 1 ∧ (∃ v, vs = [(0, v)]) ∧ decode cc pc = .ok (.ireturn, 1)) ∨ (M.2.1 = 2 ∧ (∃ v, vs = [(1, v)]) ∧ decode cc pc = .ok (.lreturn, 1)) ∨ (M.2.1 = 3 ∧ (∃ v, vs = [(0, v)] ∧ (v = 0 ∨ v = 1)) ∧ decode cc pc = .ok (.ireturn, 1))) → zG p l e R s m args below meth c Q D cA ro b w0 nL mcT msT pc (ls, vs, w, bc, bs)) {i : zI} {len : Nat}  (hd : decode cc pc = .ok (.ior, len)) (hk : zck X M tp pc (.ior) len i = true) (x : zS) : zSO p l e R s m args below meth c Q D cA ro b w0 nL mcT msT X.2.2.2.2.2.2.2.2 M.2.2.2 res tp pc len x (zstp i x) := by
  obtain ⟨ls, st, w, bc, bs⟩ := x
  simp only [zck, Bool.and_eq_true, decide_eq_true_iff, beq_iff_eq] at hk
  obtain ⟨rfl, rfl⟩ := hk
  show zSO p l e R s m args below meth c Q D cA ro b w0 nL mcT msT X.2.2.2.2.2.2.2.2 M.2.2.2 res tp pc _ _ (zs5 4 (ls, st, w, bc, bs))
  unfold zs5
  split
  · rename_i heq
    cases heq
    exact fun K => zo_ior C hd K
  · trivial
theorem zk_ixor (C : zCx p s m c args cc nL (zon M.1) D cA ro b w0) (hX : zTabsOk X) (hR : mcT ≤ R.cells ∧ msT ≤ R.slots) (hfr : M.2.2.2 ≤ R.frames) (hlo : 40 * M.2.2.2 + 40 ≤ R.locals) (hini : M.2.2.1 = true → meth.name = "<init>") (hRet : ∀ (pc : Nat) (ls : List zV) (vs : List zV) (w : zW) (bc bs : Nat), (vs, w) = res → ((M.2.1 = 0 ∧ vs = [] ∧ decode cc pc = .ok (.return_, 1)) ∨ (M.2.1 = 1 ∧ (∃ v, vs = [(0, v)]) ∧ decode cc pc = .ok (.ireturn, 1)) ∨ (M.2.1 = 2 ∧ (∃ v, vs = [(1, v)]) ∧ decode cc pc = .ok (.lreturn, 1)) ∨ (M.2.1 = 3 ∧ (∃ v, vs = [(0, v)] ∧ (v = 0 ∨ v = 1)) ∧ decode cc pc = .ok (.ireturn, 1))) → zG p l e R s m args below meth c Q D cA ro b w0 nL mcT msT pc (ls, vs, w, bc, bs)) {i : zI} {len : Nat}  (hd : decode cc pc = .ok (.ixor, len)) (hk : zck X M tp pc (.ixor) len i = true) (x : zS) : zSO p l e R s m args below meth c Q D cA ro b w0 nL mcT msT X.2.2.2.2.2.2.2.2 M.2.2.2 res tp pc len x (zstp i x) := by
  obtain ⟨ls, st, w, bc, bs⟩ := x
  simp only [zck, Bool.and_eq_true, decide_eq_true_iff, beq_iff_eq] at hk
  obtain ⟨rfl, rfl⟩ := hk
  show zSO p l e R s m args below meth c Q D cA ro b w0 nL mcT msT X.2.2.2.2.2.2.2.2 M.2.2.2 res tp pc _ _ (zs5 5 (ls, st, w, bc, bs))
  unfold zs5
  split
  · rename_i heq
    cases heq
    exact fun K => zo_ixor C hd K
  · trivial
theorem zk_ishl (C : zCx p s m c args cc nL (zon M.1) D cA ro b w0) (hX : zTabsOk X) (hR : mcT ≤ R.cells ∧ msT ≤ R.slots) (hfr : M.2.2.2 ≤ R.frames) (hlo : 40 * M.2.2.2 + 40 ≤ R.locals) (hini : M.2.2.1 = true → meth.name = "<init>") (hRet : ∀ (pc : Nat) (ls : List zV) (vs : List zV) (w : zW) (bc bs : Nat), (vs, w) = res → ((M.2.1 = 0 ∧ vs = [] ∧ decode cc pc = .ok (.return_, 1)) ∨ (M.2.1 = 1 ∧ (∃ v, vs = [(0, v)]) ∧ decode cc pc = .ok (.ireturn, 1)) ∨ (M.2.1 = 2 ∧ (∃ v, vs = [(1, v)]) ∧ decode cc pc = .ok (.lreturn, 1)) ∨ (M.2.1 = 3 ∧ (∃ v, vs = [(0, v)] ∧ (v = 0 ∨ v = 1)) ∧ decode cc pc = .ok (.ireturn, 1))) → zG p l e R s m args below meth c Q D cA ro b w0 nL mcT msT pc (ls, vs, w, bc, bs)) {i : zI} {len : Nat}  (hd : decode cc pc = .ok (.ishl, len)) (hk : zck X M tp pc (.ishl) len i = true) (x : zS) : zSO p l e R s m args below meth c Q D cA ro b w0 nL mcT msT X.2.2.2.2.2.2.2.2 M.2.2.2 res tp pc len x (zstp i x) := by
  obtain ⟨ls, st, w, bc, bs⟩ := x
  simp only [zck, Bool.and_eq_true, decide_eq_true_iff, beq_iff_eq] at hk
  obtain ⟨rfl, rfl⟩ := hk
  show zSO p l e R s m args below meth c Q D cA ro b w0 nL mcT msT X.2.2.2.2.2.2.2.2 M.2.2.2 res tp pc _ _ (zs5 6 (ls, st, w, bc, bs))
  unfold zs5
  split
  · rename_i heq
    cases heq
    exact fun K => zo_ishl C hd K
  · trivial
theorem zk_ishr (C : zCx p s m c args cc nL (zon M.1) D cA ro b w0) (hX : zTabsOk X) (hR : mcT ≤ R.cells ∧ msT ≤ R.slots) (hfr : M.2.2.2 ≤ R.frames) (hlo : 40 * M.2.2.2 + 40 ≤ R.locals) (hini : M.2.2.1 = true → meth.name = "<init>") (hRet : ∀ (pc : Nat) (ls : List zV) (vs : List zV) (w : zW) (bc bs : Nat), (vs, w) = res → ((M.2.1 = 0 ∧ vs = [] ∧ decode cc pc = .ok (.return_, 1)) ∨ (M.2.1 = 1 ∧ (∃ v, vs = [(0, v)]) ∧ decode cc pc = .ok (.ireturn, 1)) ∨ (M.2.1 = 2 ∧ (∃ v, vs = [(1, v)]) ∧ decode cc pc = .ok (.lreturn, 1)) ∨ (M.2.1 = 3 ∧ (∃ v, vs = [(0, v)] ∧ (v = 0 ∨ v = 1)) ∧ decode cc pc = .ok (.ireturn, 1))) → zG p l e R s m args below meth c Q D cA ro b w0 nL mcT msT pc (ls, vs, w, bc, bs)) {i : zI} {len : Nat}  (hd : decode cc pc = .ok (.ishr, len)) (hk : zck X M tp pc (.ishr) len i = true) (x : zS) : zSO p l e R s m args below meth c Q D cA ro b w0 nL mcT msT X.2.2.2.2.2.2.2.2 M.2.2.2 res tp pc len x (zstp i x) := by
  obtain ⟨ls, st, w, bc, bs⟩ := x
  simp only [zck, Bool.and_eq_true, decide_eq_true_iff, beq_iff_eq] at hk
  obtain ⟨rfl, rfl⟩ := hk
  show zSO p l e R s m args below meth c Q D cA ro b w0 nL mcT msT X.2.2.2.2.2.2.2.2 M.2.2.2 res tp pc _ _ (zs5 7 (ls, st, w, bc, bs))
  unfold zs5
  split
  · rename_i heq
    cases heq
    exact fun K => zo_ishr C hd K
  · trivial
theorem zk_iushr (C : zCx p s m c args cc nL (zon M.1) D cA ro b w0) (hX : zTabsOk X) (hR : mcT ≤ R.cells ∧ msT ≤ R.slots) (hfr : M.2.2.2 ≤ R.frames) (hlo : 40 * M.2.2.2 + 40 ≤ R.locals) (hini : M.2.2.1 = true → meth.name = "<init>") (hRet : ∀ (pc : Nat) (ls : List zV) (vs : List zV) (w : zW) (bc bs : Nat), (vs, w) = res → ((M.2.1 = 0 ∧ vs = [] ∧ decode cc pc = .ok (.return_, 1)) ∨ (M.2.1 = 1 ∧ (∃ v, vs = [(0, v)]) ∧ decode cc pc = .ok (.ireturn, 1)) ∨ (M.2.1 = 2 ∧ (∃ v, vs = [(1, v)]) ∧ decode cc pc = .ok (.lreturn, 1)) ∨ (M.2.1 = 3 ∧ (∃ v, vs = [(0, v)] ∧ (v = 0 ∨ v = 1)) ∧ decode cc pc = .ok (.ireturn, 1))) → zG p l e R s m args below meth c Q D cA ro b w0 nL mcT msT pc (ls, vs, w, bc, bs)) {i : zI} {len : Nat}  (hd : decode cc pc = .ok (.iushr, len)) (hk : zck X M tp pc (.iushr) len i = true) (x : zS) : zSO p l e R s m args below meth c Q D cA ro b w0 nL mcT msT X.2.2.2.2.2.2.2.2 M.2.2.2 res tp pc len x (zstp i x) := by
  obtain ⟨ls, st, w, bc, bs⟩ := x
  simp only [zck, Bool.and_eq_true, decide_eq_true_iff, beq_iff_eq] at hk
  obtain ⟨rfl, rfl⟩ := hk
  show zSO p l e R s m args below meth c Q D cA ro b w0 nL mcT msT X.2.2.2.2.2.2.2.2 M.2.2.2 res tp pc _ _ (zs5 8 (ls, st, w, bc, bs))
  unfold zs5
  split
  · rename_i heq
    cases heq
    exact fun K => zo_iushr C hd K
  · trivial
theorem zk_idiv (C : zCx p s m c args cc nL (zon M.1) D cA ro b w0) (hX : zTabsOk X) (hR : mcT ≤ R.cells ∧ msT ≤ R.slots) (hfr : M.2.2.2 ≤ R.frames) (hlo : 40 * M.2.2.2 + 40 ≤ R.locals) (hini : M.2.2.1 = true → meth.name = "<init>") (hRet : ∀ (pc : Nat) (ls : List zV) (vs : List zV) (w : zW) (bc bs : Nat), (vs, w) = res → ((M.2.1 = 0 ∧ vs = [] ∧ decode cc pc = .ok (.return_, 1)) ∨ (M.2.1 = 1 ∧ (∃ v, vs = [(0, v)]) ∧ decode cc pc = .ok (.ireturn, 1)) ∨ (M.2.1 = 2 ∧ (∃ v, vs = [(1, v)]) ∧ decode cc pc = .ok (.lreturn, 1)) ∨ (M.2.1 = 3 ∧ (∃ v, vs = [(0, v)] ∧ (v = 0 ∨ v = 1)) ∧ decode cc pc = .ok (.ireturn, 1))) → zG p l e R s m args below meth c Q D cA ro b w0 nL mcT msT pc (ls, vs, w, bc, bs)) {i : zI} {len : Nat}  (hd : decode cc pc = .ok (.idiv, len)) (hk : zck X M tp pc (.idiv) len i = true) (x : zS) : zSO p l e R s m args below meth c Q D cA ro b w0 nL mcT msT X.2.2.2.2.2.2.2.2 M.2.2.2 res tp pc len x (zstp i x) := by
  obtain ⟨ls, st, w, bc, bs⟩ := x
  simp only [zck, Bool.and_eq_true, decide_eq_true_iff, beq_iff_eq] at hk
  obtain ⟨rfl, rfl⟩ := hk
  show zSO p l e R s m args below meth c Q D cA ro b w0 nL mcT msT X.2.2.2.2.2.2.2.2 M.2.2.2 res tp pc _ _ (zs6 0 (ls, st, w, bc, bs))
  unfold zs6
  split
  · rename_i heq
    cases heq
    split
    · trivial
    · rename_i hc
      exact fun K => zo_idiv C hc hd K
  · trivial
theorem zk_irem (C : zCx p s m c args cc nL (zon M.1) D cA ro b w0) (hX : zTabsOk X) (hR : mcT ≤ R.cells ∧ msT ≤ R.slots) (hfr : M.2.2.2 ≤ R.frames) (hlo : 40 * M.2.2.2 + 40 ≤ R.locals) (hini : M.2.2.1 = true → meth.name = "<init>") (hRet : ∀ (pc : Nat) (ls : List zV) (vs : List zV) (w : zW) (bc bs : Nat), (vs, w) = res → ((M.2.1 = 0 ∧ vs = [] ∧ decode cc pc = .ok (.return_, 1)) ∨ (M.2.1 = 1 ∧ (∃ v, vs = [(0, v)]) ∧ decode cc pc = .ok (.ireturn, 1)) ∨ (M.2.1 = 2 ∧ (∃ v, vs = [(1, v)]) ∧ decode cc pc = .ok (.lreturn, 1)) ∨ (M.2.1 = 3 ∧ (∃ v, vs = [(0, v)] ∧ (v = 0 ∨ v = 1)) ∧ decode cc pc = .ok (.ireturn, 1))) → zG p l e R s m args below meth c Q D cA ro b w0 nL mcT msT pc (ls, vs, w, bc, bs)) {i : zI} {len : Nat}  (hd : decode cc pc = .ok (.irem, len)) (hk : zck X M tp pc (.irem) len i = true) (x : zS) : zSO p l e R s m args below meth c Q D cA ro b w0 nL mcT msT X.2.2.2.2.2.2.2.2 M.2.2.2 res tp pc len x (zstp i x) := by
  obtain ⟨ls, st, w, bc, bs⟩ := x
  simp only [zck, Bool.and_eq_true, decide_eq_true_iff, beq_iff_eq] at hk
  obtain ⟨rfl, rfl⟩ := hk
  show zSO p l e R s m args below meth c Q D cA ro b w0 nL mcT msT X.2.2.2.2.2.2.2.2 M.2.2.2 res tp pc _ _ (zs6 1 (ls, st, w, bc, bs))
  unfold zs6
  split
  · rename_i heq
    cases heq
    split
    · trivial
    · rename_i hc
      exact fun K => zo_irem C hc hd K
  · trivial
theorem zk_ineg (C : zCx p s m c args cc nL (zon M.1) D cA ro b w0) (hX : zTabsOk X) (hR : mcT ≤ R.cells ∧ msT ≤ R.slots) (hfr : M.2.2.2 ≤ R.frames) (hlo : 40 * M.2.2.2 + 40 ≤ R.locals) (hini : M.2.2.1 = true → meth.name = "<init>") (hRet : ∀ (pc : Nat) (ls : List zV) (vs : List zV) (w : zW) (bc bs : Nat), (vs, w) = res → ((M.2.1 = 0 ∧ vs = [] ∧ decode cc pc = .ok (.return_, 1)) ∨ (M.2.1 = 1 ∧ (∃ v, vs = [(0, v)]) ∧ decode cc pc = .ok (.ireturn, 1)) ∨ (M.2.1 = 2 ∧ (∃ v, vs = [(1, v)]) ∧ decode cc pc = .ok (.lreturn, 1)) ∨ (M.2.1 = 3 ∧ (∃ v, vs = [(0, v)] ∧ (v = 0 ∨ v = 1)) ∧ decode cc pc = .ok (.ireturn, 1))) → zG p l e R s m args below meth c Q D cA ro b w0 nL mcT msT pc (ls, vs, w, bc, bs)) {i : zI} {len : Nat}  (hd : decode cc pc = .ok (.ineg, len)) (hk : zck X M tp pc (.ineg) len i = true) (x : zS) : zSO p l e R s m args below meth c Q D cA ro b w0 nL mcT msT X.2.2.2.2.2.2.2.2 M.2.2.2 res tp pc len x (zstp i x) := by
  obtain ⟨ls, st, w, bc, bs⟩ := x
  simp only [zck, Bool.and_eq_true, decide_eq_true_iff, beq_iff_eq] at hk
  obtain ⟨rfl, rfl⟩ := hk
  show zSO p l e R s m args below meth c Q D cA ro b w0 nL mcT msT X.2.2.2.2.2.2.2.2 M.2.2.2 res tp pc _ _ (zs7 (ls, st, w, bc, bs))
  unfold zs7
  split
  · rename_i heq
    cases heq
    exact fun K => zo_ineg C hd K
  · trivial
theorem zk_ladd (C : zCx p s m c args cc nL (zon M.1) D cA ro b w0) (hX : zTabsOk X) (hR : mcT ≤ R.cells ∧ msT ≤ R.slots) (hfr : M.2.2.2 ≤ R.frames) (hlo : 40 * M.2.2.2 + 40 ≤ R.locals) (hini : M.2.2.1 = true → meth.name = "<init>") (hRet : ∀ (pc : Nat) (ls : List zV) (vs : List zV) (w : zW) (bc bs : Nat), (vs, w) = res → ((M.2.1 = 0 ∧ vs = [] ∧ decode cc pc = .ok (.return_, 1)) ∨ (M.2.1 = 1 ∧ (∃ v, vs = [(0, v)]) ∧ decode cc pc = .ok (.ireturn, 1)) ∨ (M.2.1 = 2 ∧ (∃ v, vs = [(1, v)]) ∧ decode cc pc = .ok (.lreturn, 1)) ∨ (M.2.1 = 3 ∧ (∃ v, vs = [(0, v)] ∧ (v = 0 ∨ v = 1)) ∧ decode cc pc = .ok (.ireturn, 1))) → zG p l e R s m args below meth c Q D cA ro b w0 nL mcT msT pc (ls, vs, w, bc, bs)) {i : zI} {len : Nat}  (hd : decode cc pc = .ok (.ladd, len)) (hk : zck X M tp pc (.ladd) len i = true) (x : zS) : zSO p l e R s m args below meth c Q D cA ro b w0 nL mcT msT X.2.2.2.2.2.2.2.2 M.2.2.2 res tp pc len x (zstp i x) := by
  obtain ⟨ls, st, w, bc, bs⟩ := x
  simp only [zck, Bool.and_eq_true, decide_eq_true_iff, beq_iff_eq] at hk
  obtain ⟨rfl, rfl⟩ := hk
  show zSO p l e R s m args below meth c Q D cA ro b w0 nL mcT msT X.2.2.2.2.2.2.2.2 M.2.2.2 res tp pc _ _ (zs8 0 (ls, st, w, bc, bs))
  unfold zs8
  split
  · rename_i heq
    cases heq
    exact fun K => zo_ladd C hd K
  · trivial
theorem zk_lsub (C : zCx p s m c args cc nL (zon M.1) D cA ro b w0) (hX : zTabsOk X) (hR : mcT ≤ R.cells ∧ msT ≤ R.slots) (hfr : M.2.2.2 ≤ R.frames) (hlo : 40 * M.2.2.2 + 40 ≤ R.locals) (hini : M.2.2.1 = true → meth.name = "<init>") (hRet : ∀ (pc : Nat) (ls : List zV) (vs : List zV) (w : zW) (bc bs : Nat), (vs, w) = res → ((M.2.1 = 0 ∧ vs = [] ∧ decode cc pc = .ok (.return_, 1)) ∨ (M.2.1 = 1 ∧ (∃ v, vs = [(0, v)]) ∧ decode cc pc = .ok (.ireturn, 1)) ∨ (M.2.1 = 2 ∧ (∃ v, vs = [(1, v)]) ∧ decode cc pc = .ok (.lreturn, 1)) ∨ (M.2.1 = 3 ∧ (∃ v, vs = [(0, v)] ∧ (v = 0 ∨ v = 1)) ∧ decode cc pc = .ok (.ireturn, 1))) → zG p l e R s m args below meth c Q D cA ro b w0 nL mcT msT pc (ls, vs, w, bc, bs)) {i : zI} {len : Nat}  (hd : decode cc pc = .ok (.lsub, len)) (hk : zck X M tp pc (.lsub) len i = true) (x : zS) : zSO p l e R s m args below meth c Q D cA ro b w0 nL mcT msT X.2.2.2.2.2.2.2.2 M.2.2.2 res tp pc len x (zstp i x) := by
  obtain ⟨ls, st, w, bc, bs⟩ := x
  simp only [zck, Bool.and_eq_true, decide_eq_true_iff, beq_iff_eq] at hk
  obtain ⟨rfl, rfl⟩ := hk
  show zSO p l e R s m args below meth c Q D cA ro b w0 nL mcT msT X.2.2.2.2.2.2.2.2 M.2.2.2 res tp pc _ _ (zs8 1 (ls, st, w, bc, bs))
  unfold zs8
  split
  · rename_i heq
    cases heq
    exact fun K => zo_lsub C hd K
  · trivial
theorem zk_lmul (C : zCx p s m c args cc nL (zon M.1) D cA ro b w0) (hX : zTabsOk X) (hR : mcT ≤ R.cells ∧ msT ≤ R.slots) (hfr : M.2.2.2 ≤ R.frames) (hlo : 40 * M.2.2.2 + 40 ≤ R.locals) (hini : M.2.2.1 = true → meth.name = "<init>") (hRet : ∀ (pc : Nat) (ls : List zV) (vs : List zV) (w : zW) (bc bs : Nat), (vs, w) = res → ((M.2.1 = 0 ∧ vs = [] ∧ decode cc pc = .ok (.return_, 1)) ∨ (M.2.1 = 1 ∧ (∃ v, vs = [(0, v)]) ∧ decode cc pc = .ok (.ireturn, 1)) ∨ (M.2.1 = 2 ∧ (∃ v, vs = [(1, v)]) ∧ decode cc pc = .ok (.lreturn, 1)) ∨ (M.2.1 = 3 ∧ (∃ v, vs = [(0, v)] ∧ (v = 0 ∨ v = 1)) ∧ decode cc pc = .ok (.ireturn, 1))) → zG p l e R s m args below meth c Q D cA ro b w0 nL mcT msT pc (ls, vs, w, bc, bs)) {i : zI} {len : Nat}  (hd : decode cc pc = .ok (.lmul, len)) (hk : zck X M tp pc (.lmul) len i = true) (x : zS) : zSO p l e R s m args below meth c Q D cA ro b w0 nL mcT msT X.2.2.2.2.2.2.2.2 M.2.2.2 res tp pc len x (zstp i x) := by
  obtain ⟨ls, st, w, bc, bs⟩ := x
  simp only [zck, Bool.and_eq_true, decide_eq_true_iff, beq_iff_eq] at hk
  obtain ⟨rfl, rfl⟩ := hk
  show zSO p l e R s m args below meth c Q D cA ro b w0 nL mcT msT X.2.2.2.2.2.2.2.2 M.2.2.2 res tp pc _ _ (zs8 2 (ls, st, w, bc, bs))
  unfold zs8
  split
  · rename_i heq
    cases heq
    exact fun K => zo_lmul C hd K
  · trivial
theorem zk_land (C : zCx p s m c args cc nL (zon M.1) D cA ro b w0) (hX : zTabsOk X) (hR : mcT ≤ R.cells ∧ msT ≤ R.slots) (hfr : M.2.2.2 ≤ R.frames) (hlo : 40 * M.2.2.2 + 40 ≤ R.locals) (hini : M.2.2.1 = true → meth.name = "<init>") (hRet : ∀ (pc : Nat) (ls : List zV) (vs : List zV) (w : zW) (bc bs : Nat), (vs, w) = res → ((M.2.1 = 0 ∧ vs = [] ∧ decode cc pc = .ok (.return_, 1)) ∨ (M.2.1 = 1 ∧ (∃ v, vs = [(0, v)]) ∧ decode cc pc = .ok (.ireturn, 1)) ∨ (M.2.1 = 2 ∧ (∃ v, vs = [(1, v)]) ∧ decode cc pc = .ok (.lreturn, 1)) ∨ (M.2.1 = 3 ∧ (∃ v, vs = [(0, v)] ∧ (v = 0 ∨ v = 1)) ∧ decode cc pc = .ok (.ireturn, 1))) → zG p l e R s m args below meth c Q D cA ro b w0 nL mcT msT pc (ls, vs, w, bc, bs)) {i : zI} {len : Nat}  (hd : decode cc pc = .ok (.land, len)) (hk : zck X M tp pc (.land) len i = true) (x : zS) : zSO p l e R s m args below meth c Q D cA ro b w0 nL mcT msT X.2.2.2.2.2.2.2.2 M.2.2.2 res tp pc len x (zstp i x) := by
  obtain ⟨ls, st, w, bc, bs⟩ := x
  simp only [zck, Bool.and_eq_true, decide_eq_true_iff, beq_iff_eq] at hk
  obtain ⟨rfl, rfl⟩ := hk
  show zSO p l e R s m args below meth c Q D cA ro b w0 nL mcT msT X.2.2.2.2.2.2.2.2 M.2.2.2 res tp pc _ _ (zs8 3 (ls, st, w, bc, bs))
  unfold zs8
  split
  · rename_i heq
    cases heq
    exact fun K => zo_land C hd K
  · trivial
theorem zk_lor (C : zCx p s m c args cc nL (zon M.1) D cA ro b w0) (hX : zTabsOk X) (hR : mcT ≤ R.cells ∧ msT ≤ R.slots) (hfr : M.2.2.2 ≤ R.frames) (hlo : 40 * M.2.2.2 + 40 ≤ R.locals) (hini : M.2.2.1 = true → meth.name = "<init>") (hRet : ∀ (pc : Nat) (ls : List zV) (vs : List zV) (w : zW) (bc bs : Nat), (vs, w) = res → ((M.2.1 = 0 ∧ vs = [] ∧ decode cc pc = .ok (.return_, 1)) ∨ (M.2.1 = 1 ∧ (∃ v, vs = [(0, v)]) ∧ decode cc pc = .ok (.ireturn, 1)) ∨ (M.2.1 = 2 ∧ (∃ v, vs = [(1, v)]) ∧ decode cc pc = .ok (.lreturn, 1)) ∨ (M.2.1 = 3 ∧ (∃ v, vs = [(0, v)] ∧ (v = 0 ∨ v = 1)) ∧ decode cc pc = .ok (.ireturn, 1))) → zG p l e R s m args below meth c Q D cA ro b w0 nL mcT msT pc (ls, vs, w, bc, bs)) {i : zI} {len : Nat}  (hd : decode cc pc = .ok (.lor, len)) (hk : zck X M tp pc (.lor) len i = true) (x : zS) : zSO p l e R s m args below meth c Q D cA ro b w0 nL mcT msT X.2.2.2.2.2.2.2.2 M.2.2.2 res tp pc len x (zstp i x) := by
  obtain ⟨ls, st, w, bc, bs⟩ := x
  simp only [zck, Bool.and_eq_true, decide_eq_true_iff, beq_iff_eq] at hk
  obtain ⟨rfl, rfl⟩ := hk
  show zSO p l e R s m args below meth c Q D cA ro b w0 nL mcT msT X.2.2.2.2.2.2.2.2 M.2.2.2 res tp pc _ _ (zs8 4 (ls, st, w, bc, bs))
  unfold zs8
  split
  · rename_i heq
    cases heq
    exact fun K => zo_lor C hd K
  · trivial
theorem zk_ldiv (C : zCx p s m c args cc nL (zon M.1) D cA ro b w0) (hX : zTabsOk X) (hR : mcT ≤ R.cells ∧ msT ≤ R.slots) (hfr : M.2.2.2 ≤ R.frames) (hlo : 40 * M.2.2.2 + 40 ≤ R.locals) (hini : M.2.2.1 = true → meth.name = "<init>") (hRet : ∀ (pc : Nat) (ls : List zV) (vs : List zV) (w : zW) (bc bs : Nat), (vs, w) = res → ((M.2.1 = 0 ∧ vs = [] ∧ decode cc pc = .ok (.return_, 1)) ∨ (M.2.1 = 1 ∧ (∃ v, vs = [(0, v)]) ∧ decode cc pc = .ok (.ireturn, 1)) ∨ (M.2.1 = 2 ∧ (∃ v, vs = [(1, v)]) ∧ decode cc pc = .ok (.lreturn, 1)) ∨ (M.2.1 = 3 ∧ (∃ v, vs = [(0, v)] ∧ (v = 0 ∨ v = 1)) ∧ decode cc pc = .ok (.ireturn, 1))) → zG p l e R s m args below meth c Q D cA ro b w0 nL mcT msT pc (ls, vs, w, bc, bs)) {i : zI} {len : Nat}  (hd : decode cc pc = .ok (.ldiv, len)) (hk : zck X M tp pc (.ldiv) len i = true) (x : zS) : zSO p l e R s m args below meth c Q D cA ro b w0 nL mcT msT X.2.2.2.2.2.2.2.2 M.2.2.2 res tp pc len x (zstp i x) := by
  obtain ⟨ls, st, w, bc, bs⟩ := x
  simp only [zck, Bool.and_eq_true, decide_eq_true_iff, beq_iff_eq] at hk
  obtain ⟨rfl, rfl⟩ := hk
  show zSO p l e R s m args below meth c Q D cA ro b w0 nL mcT msT X.2.2.2.2.2.2.2.2 M.2.2.2 res tp pc _ _ (zs9 0 (ls, st, w, bc, bs))
  unfold zs9
  split
  · rename_i heq
    cases heq
    split
    · trivial
    · rename_i hc
      exact fun K => zo_ldiv C hc hd K
  · trivial
theorem zk_lrem (C : zCx p s m c args cc nL (zon M.1) D cA ro b w0) (hX : zTabsOk X) (hR : mcT ≤ R.cells ∧ msT ≤ R.slots) (hfr : M.2.2.2 ≤ R.frames) (hlo : 40 * M.2.2.2 + 40 ≤ R.locals) (hini : M.2.2.1 = true → meth.name = "<init>") (hRet : ∀ (pc : Nat) (ls : List zV) (vs : List zV) (w : zW) (bc bs : Nat), (vs, w) = res → ((M.2.1 = 0 ∧ vs = [] ∧ decode cc pc = .ok (.return_, 1)) ∨ (M.2.1 = 1 ∧ (∃ v, vs = [(0, v)]) ∧ decode cc pc = .ok (.ireturn, 1)) ∨ (M.2.1 = 2 ∧ (∃ v, vs = [(1, v)]) ∧ decode cc pc = .ok (.lreturn, 1)) ∨ (M.2.1 = 3 ∧ (∃ v, vs = [(0, v)] ∧ (v = 0 ∨ v = 1)) ∧ decode cc pc = .ok (.ireturn, 1))) → zG p l e R s m args below meth c Q D cA ro b w0 nL mcT msT pc (ls, vs, w, bc, bs)) {i : zI} {len : Nat}  (hd : decode cc pc = .ok (.lrem, len)) (hk : zck X M tp pc (.lrem) len i = true) (x : zS) : zSO p l e R s m args below meth c Q D cA ro b w0 nL mcT msT X.2.2.2.2.2.2.2.2 M.2.2.2 res tp pc len x (zstp i x) := by
  obtain ⟨ls, st, w, bc, bs⟩ := x
  simp only [zck, Bool.and_eq_true, decide_eq_true_iff, beq_iff_eq] at hk
  obtain ⟨rfl, rfl⟩ := hk
  show zSO p l e R s m args below meth c Q D cA ro b w0 nL mcT msT X.2.2.2.2.2.2.2.2 M.2.2.2 res tp pc _ _ (zs9 1 (ls, st, w, bc, bs))
  unfold zs9
  split
  · rename_i heq
    cases heq
    split
    · trivial
    · rename_i hc
      exact fun K => zo_lrem C hc hd K
  · trivial
theorem zk_lshl (C : zCx p s m c args cc nL (zon M.1) D cA ro b w0) (hX : zTabsOk X) (hR : mcT ≤ R.cells ∧ msT ≤ R.slots) (hfr : M.2.2.2 ≤ R.frames) (hlo : 40 * M.2.2.2 + 40 ≤ R.locals) (hini : M.2.2.1 = true → meth.name = "<init>") (hRet : ∀ (pc : Nat) (ls : List zV) (vs : List zV) (w : zW) (bc bs : Nat), (vs, w) = res → ((M.2.1 = 0 ∧ vs = [] ∧ decode cc pc = .ok (.return_, 1)) ∨ (M.2.1 = 1 ∧ (∃ v, vs = [(0, v)]) ∧ decode cc pc = .ok (.ireturn, 1)) ∨ (M.2.1 = 2 ∧ (∃ v, vs = [(1, v)]) ∧ decode cc pc = .ok (.lreturn, 1)) ∨ (M.2.1 = 3 ∧ (∃ v, vs = [(0, v)] ∧ (v = 0 ∨ v = 1)) ∧ decode cc pc = .ok (.ireturn, 1))) → zG p l e R s m args below meth c Q D cA ro b w0 nL mcT msT pc (ls, vs, w, bc, bs)) {i : zI} {len : Nat}  (hd : decode cc pc = .ok (.lshl, len)) (hk : zck X M tp pc (.lshl) len i = true) (x : zS) : zSO p l e R s m args below meth c Q D cA ro b w0 nL mcT msT X.2.2.2.2.2.2.2.2 M.2.2.2 res tp pc len x (zstp i x) := by
  obtain ⟨ls, st, w, bc, bs⟩ := x
  simp only [zck, Bool.and_eq_true, decide_eq_true_iff, beq_iff_eq] at hk
  obtain ⟨rfl, rfl⟩ := hk
  show zSO p l e R s m args below meth c Q D cA ro b w0 nL mcT msT X.2.2.2.2.2.2.2.2 M.2.2.2 res tp pc _ _ (zs10 0 (ls, st, w, bc, bs))
  unfold zs10
  split
  · rename_i heq
    cases heq
    exact fun K => zo_lshl C hd K
  · trivial
theorem zk_lushr (C : zCx p s m c args cc nL (zon M.1) D cA ro b w0) (hX : zTabsOk X) (hR : mcT ≤ R.cells ∧ msT ≤ R.slots) (hfr : M.2.2.2 ≤ R.frames) (hlo : 40 * M.2.2.2 + 40 ≤ R.locals) (hini : M.2.2.1 = true → meth.name = "<init>") (hRet : ∀ (pc : Nat) (ls : List zV) (vs : List zV) (w : zW) (bc bs : Nat), (vs, w) = res → ((M.2.1 = 0 ∧ vs = [] ∧ decode cc pc = .ok (.return_, 1)) ∨ (M.2.1 = 1 ∧ (∃ v, vs = [(0, v)]) ∧ decode cc pc = .ok (.ireturn, 1)) ∨ (M.2.1 = 2 ∧ (∃ v, vs = [(1, v)]) ∧ decode cc pc = .ok (.lreturn, 1)) ∨ (M.2.1 = 3 ∧ (∃ v, vs = [(0, v)] ∧ (v = 0 ∨ v = 1)) ∧ decode cc pc = .ok (.ireturn, 1))) → zG p l e R s m args below meth c Q D cA ro b w0 nL mcT msT pc (ls, vs, w, bc, bs)) {i : zI} {len : Nat}  (hd : decode cc pc = .ok (.lushr, len)) (hk : zck X M tp pc (.lushr) len i = true) (x : zS) : zSO p l e R s m args below meth c Q D cA ro b w0 nL mcT msT X.2.2.2.2.2.2.2.2 M.2.2.2 res tp pc len x (zstp i x) := by
  obtain ⟨ls, st, w, bc, bs⟩ := x
  simp only [zck, Bool.and_eq_true, decide_eq_true_iff, beq_iff_eq] at hk
  obtain ⟨rfl, rfl⟩ := hk
  show zSO p l e R s m args below meth c Q D cA ro b w0 nL mcT msT X.2.2.2.2.2.2.2.2 M.2.2.2 res tp pc _ _ (zs10 1 (ls, st, w, bc, bs))
  unfold zs10
  split
  · rename_i heq
    cases heq
    exact fun K => zo_lushr C hd K
  · trivial
theorem zk_lcmp (C : zCx p s m c args cc nL (zon M.1) D cA ro b w0) (hX : zTabsOk X) (hR : mcT ≤ R.cells ∧ msT ≤ R.slots) (hfr : M.2.2.2 ≤ R.frames) (hlo : 40 * M.2.2.2 + 40 ≤ R.locals) (hini : M.2.2.1 = true → meth.name = "<init>") (hRet : ∀ (pc : Nat) (ls : List zV) (vs : List zV) (w : zW) (bc bs : Nat), (vs, w) = res → ((M.2.1 = 0 ∧ vs = [] ∧ decode cc pc = .ok (.return_, 1)) ∨ (M.2.1 = 1 ∧ (∃ v, vs = [(0, v)]) ∧ decode cc pc = .ok (.ireturn, 1)) ∨ (M.2.1 = 2 ∧ (∃ v, vs = [(1, v)]) ∧ decode cc pc = .ok (.lreturn, 1)) ∨ (M.2.1 = 3 ∧ (∃ v, vs = [(0, v)] ∧ (v = 0 ∨ v = 1)) ∧ decode cc pc = .ok (.ireturn, 1))) → zG p l e R s m args below meth c Q D cA ro b w0 nL mcT msT pc (ls, vs, w, bc, bs)) {i : zI} {len : Nat}  (hd : decode cc pc = .ok (.lcmp, len)) (hk : zck X M tp pc (.lcmp) len i = true) (x : zS) : zSO p l e R s m args below meth c Q D cA ro b w0 nL mcT msT X.2.2.2.2.2.2.2.2 M.2.2.2 res tp pc len x (zstp i x) := by
  obtain ⟨ls, st, w, bc, bs⟩ := x
  simp only [zck, Bool.and_eq_true, decide_eq_true_iff, beq_iff_eq] at hk
  obtain ⟨rfl, rfl⟩ := hk
  show zSO p l e R s m args below meth c Q D cA ro b w0 nL mcT msT X.2.2.2.2.2.2.2.2 M.2.2.2 res tp pc _ _ (zs11 (ls, st, w, bc, bs))
  unfold zs11
  split
  · rename_i heq
    cases heq
    exact fun K => zo_lcmp C hd K
  · trivial
theorem zk_i2l (C : zCx p s m c args cc nL (zon M.1) D cA ro b w0) (hX : zTabsOk X) (hR : mcT ≤ R.cells ∧ msT ≤ R.slots) (hfr : M.2.2.2 ≤ R.frames) (hlo : 40 * M.2.2.2 + 40 ≤ R.locals) (hini : M.2.2.1 = true → meth.name = "<init>") (hRet : ∀ (pc : Nat) (ls : List zV) (vs : List zV) (w : zW) (bc bs : Nat), (vs, w) = res → ((M.2.1 = 0 ∧ vs = [] ∧ decode cc pc = .ok (.return_, 1)) ∨ (M.2.1 = 1 ∧ (∃ v, vs = [(0, v)]) ∧ decode cc pc = .ok (.ireturn, 1)) ∨ (M.2.1 = 2 ∧ (∃ v, vs = [(1, v)]) ∧ decode cc pc = .ok (.lreturn, 1)) ∨ (M.2.1 = 3 ∧ (∃ v, vs = [(0, v)] ∧ (v = 0 ∨ v = 1)) ∧ decode cc pc = .ok (.ireturn, 1))) → zG p l e R s m args below meth c Q D cA ro b w0 nL mcT msT pc (ls, vs, w, bc, bs)) {i : zI} {len : Nat}  (hd : decode cc pc = .ok (.i2l, len)) (hk : zck X M tp pc (.i2l) len i = true) (x : zS) : zSO p l e R s m args below meth c Q D cA ro b w0 nL mcT msT X.2.2.2.2.2.2.2.2 M.2.2.2 res tp pc len x (zstp i x) := by
  obtain ⟨ls, st, w, bc, bs⟩ := x
  simp only [zck, Bool.and_eq_true, decide_eq_true_iff, beq_iff_eq] at hk
  obtain ⟨rfl, rfl⟩ := hk
  show zSO p l e R s m args below meth c Q D cA ro b w0 nL mcT msT X.2.2.2.2.2.2.2.2 M.2.2.2 res tp pc _ _ (zs12 (ls, st, w, bc, bs))
  unfold zs12
  split
  · rename_i heq
    cases heq
    exact fun K => zo_i2l C hd K
  · trivial
theorem zk_l2i (C : zCx p s m c args cc nL (zon M.1) D cA ro b w0) (hX : zTabsOk X) (hR : mcT ≤ R.cells ∧ msT ≤ R.slots) (hfr : M.2.2.2 ≤ R.frames) (hlo : 40 * M.2.2.2 + 40 ≤ R.locals) (hini : M.2.2.1 = true → meth.name = "<init>") (hRet : ∀ (pc : Nat) (ls : List zV) (vs : List zV) (w : zW) (bc bs : Nat), (vs, w) = res → ((M.2.1 = 0 ∧ vs = [] ∧ decode cc pc = .ok (.return_, 1)) ∨ (M.2.1 = 1 ∧ (∃ v, vs = [(0, v)]) ∧ decode cc pc = .ok (.ireturn, 1)) ∨ (M.2.1 = 2 ∧ (∃ v, vs = [(1, v)]) ∧ decode cc pc = .ok (.lreturn, 1)) ∨ (M.2.1 = 3 ∧ (∃ v, vs = [(0, v)] ∧ (v = 0 ∨ v = 1)) ∧ decode cc pc = .ok (.ireturn, 1))) → zG p l e R s m args below meth c Q D cA ro b w0 nL mcT msT pc (ls, vs, w, bc, bs)) {i : zI} {len : Nat}  (hd : decode cc pc = .ok (.l2i, len)) (hk : zck X M tp pc (.l2i) len i = true) (x : zS) : zSO p l e R s m args below meth c Q D cA ro b w0 nL mcT msT X.2.2.2.2.2.2.2.2 M.2.2.2 res tp pc len x (zstp i x) := by
  obtain ⟨ls, st, w, bc, bs⟩ := x
  simp only [zck, Bool.and_eq_true, decide_eq_true_iff, beq_iff_eq] at hk
  obtain ⟨rfl, rfl⟩ := hk
  show zSO p l e R s m args below meth c Q D cA ro b w0 nL mcT msT X.2.2.2.2.2.2.2.2 M.2.2.2 res tp pc _ _ (zs121 (ls, st, w, bc, bs))
  unfold zs121
  split
  · rename_i heq
    cases heq
    exact fun K => zo_l2i C hd K
  · trivial
theorem zk_i2b (C : zCx p s m c args cc nL (zon M.1) D cA ro b w0) (hX : zTabsOk X) (hR : mcT ≤ R.cells ∧ msT ≤ R.slots) (hfr : M.2.2.2 ≤ R.frames) (hlo : 40 * M.2.2.2 + 40 ≤ R.locals) (hini : M.2.2.1 = true → meth.name = "<init>") (hRet : ∀ (pc : Nat) (ls : List zV) (vs : List zV) (w : zW) (bc bs : Nat), (vs, w) = res → ((M.2.1 = 0 ∧ vs = [] ∧ decode cc pc = .ok (.return_, 1)) ∨ (M.2.1 = 1 ∧ (∃ v, vs = [(0, v)]) ∧ decode cc pc = .ok (.ireturn, 1)) ∨ (M.2.1 = 2 ∧ (∃ v, vs = [(1, v)]) ∧ decode cc pc = .ok (.lreturn, 1)) ∨ (M.2.1 = 3 ∧ (∃ v, vs = [(0, v)] ∧ (v = 0 ∨ v = 1)) ∧ decode cc pc = .ok (.ireturn, 1))) → zG p l e R s m args below meth c Q D cA ro b w0 nL mcT msT pc (ls, vs, w, bc, bs)) {i : zI} {len : Nat}  (hd : decode cc pc = .ok (.i2b, len)) (hk : zck X M tp pc (.i2b) len i = true) (x : zS) : zSO p l e R s m args below meth c Q D cA ro b w0 nL mcT msT X.2.2.2.2.2.2.2.2 M.2.2.2 res tp pc len x (zstp i x) := by
  obtain ⟨ls, st, w, bc, bs⟩ := x
  simp only [zck, Bool.and_eq_true, decide_eq_true_iff, beq_iff_eq] at hk
  obtain ⟨rfl, rfl⟩ := hk
  show zSO p l e R s m args below meth c Q D cA ro b w0 nL mcT msT X.2.2.2.2.2.2.2.2 M.2.2.2 res tp pc _ _ (zs122 (ls, st, w, bc, bs))
  unfold zs122
  split
  · rename_i heq
    cases heq
    exact fun K => zo_i2b C hd K
  · trivial
theorem zk_dup (C : zCx p s m c args cc nL (zon M.1) D cA ro b w0) (hX : zTabsOk X) (hR : mcT ≤ R.cells ∧ msT ≤ R.slots) (hfr : M.2.2.2 ≤ R.frames) (hlo : 40 * M.2.2.2 + 40 ≤ R.locals) (hini : M.2.2.1 = true → meth.name = "<init>") (hRet : ∀ (pc : Nat) (ls : List zV) (vs : List zV) (w : zW) (bc bs : Nat), (vs, w) = res → ((M.2.1 = 0 ∧ vs = [] ∧ decode cc pc = .ok (.return_, 1)) ∨ (M.2.1 = 1 ∧ (∃ v, vs = [(0, v)]) ∧ decode cc pc = .ok (.ireturn, 1)) ∨ (M.2.1 = 2 ∧ (∃ v, vs = [(1, v)]) ∧ decode cc pc = .ok (.lreturn, 1)) ∨ (M.2.1 = 3 ∧ (∃ v, vs = [(0, v)] ∧ (v = 0 ∨ v = 1)) ∧ decode cc pc = .ok (.ireturn, 1))) → zG p l e R s m args below meth c Q D cA ro b w0 nL mcT msT pc (ls, vs, w, bc, bs)) {i : zI} {len : Nat}  (hd : decode cc pc = .ok (.dup, len)) (hk : zck X M tp pc (.dup) len i = true) (x : zS) : zSO p l e R s m args below meth c Q D cA ro b w0 nL mcT msT X.2.2.2.2.2.2.2.2 M.2.2.2 res tp pc len x (zstp i x) := by
  obtain ⟨ls, st, w, bc, bs⟩ := x
  simp only [zck, Bool.and_eq_true, decide_eq_true_iff, beq_iff_eq] at hk
  obtain ⟨rfl, rfl⟩ := hk
  show zSO p l e R s m args below meth c Q D cA ro b w0 nL mcT msT X.2.2.2.2.2.2.2.2 M.2.2.2 res tp pc _ _ (zs13 (ls, st, w, bc, bs))
  unfold zs13
  split
  · rename_i heq
    cases heq
    split
    · rename_i hc
      exact fun K => zo_dup C hc hd K
    · trivial
  · trivial
theorem zk_dup2 (C : zCx p s m c args cc nL (zon M.1) D cA ro b w0) (hX : zTabsOk X) (hR : mcT ≤ R.cells ∧ msT ≤ R.slots) (hfr : M.2.2.2 ≤ R.frames) (hlo : 40 * M.2.2.2 + 40 ≤ R.locals) (hini : M.2.2.1 = true → meth.name = "<init>") (hRet : ∀ (pc : Nat) (ls : List zV) (vs : List zV) (w : zW) (bc bs : Nat), (vs, w) = res → ((M.2.1 = 0 ∧ vs = [] ∧ decode cc pc = .ok (.return_, 1)) ∨ (M.2.1 = 1 ∧ (∃ v, vs = [(0, v)]) ∧ decode cc pc = .ok (.ireturn, 1)) ∨ (M.2.1 = 2 ∧ (∃ v, vs = [(1, v)]) ∧ decode cc pc = .ok (.lreturn, 1)) ∨ (M.2.1 = 3 ∧ (∃ v, vs = [(0, v)] ∧ (v = 0 ∨ v = 1)) ∧ decode cc pc = .ok (.ireturn, 1))) → zG p l e R s m args below meth c Q D cA ro b w0 nL mcT msT pc (ls, vs, w, bc, bs)) {i : zI} {len : Nat}  (hd : decode cc pc = .ok (.dup2, len)) (hk : zck X M tp pc (.dup2) len i = true) (x : zS) : zSO p l e R s m args below meth c Q D cA ro b w0 nL mcT msT X.2.2.2.2.2.2.2.2 M.2.2.2 res tp pc len x (zstp i x) := by
  obtain ⟨ls, st, w, bc, bs⟩ := x
  simp only [zck, Bool.and_eq_true, decide_eq_true_iff, beq_iff_eq] at hk
  obtain ⟨rfl, rfl⟩ := hk
  show zSO p l e R s m args below meth c Q D cA ro b w0 nL mcT msT X.2.2.2.2.2.2.2.2 M.2.2.2 res tp pc _ _ (zs14 (ls, st, w, bc, bs))
  unfold zs14
  split
  · rename_i heq
    cases heq
    split
    · rename_i hc
      exact fun K => zo_dup2 C hc.1 hc.2 hd K
    · trivial
  · trivial
theorem zk_pop (C : zCx p s m c args cc nL (zon M.1) D cA ro b w0) (hX : zTabsOk X) (hR : mcT ≤ R.cells ∧ msT ≤ R.slots) (hfr : M.2.2.2 ≤ R.frames) (hlo : 40 * M.2.2.2 + 40 ≤ R.locals) (hini : M.2.2.1 = true → meth.name = "<init>") (hRet : ∀ (pc : Nat) (ls : List zV) (vs : List zV) (w : zW) (bc bs : Nat), (vs, w) = res → ((M.2.1 = 0 ∧ vs = [] ∧ decode cc pc = .ok (.return_, 1)) ∨ (M.2.1 = 1 ∧ (∃ v, vs = [(0, v)]) ∧ decode cc pc = .ok (.ireturn, 1)) ∨ (M.2.1 = 2 ∧ (∃ v, vs = [(1, v)]) ∧ decode cc pc = .ok (.lreturn, 1)) ∨ (M.2.1 = 3 ∧ (∃ v, vs = [(0, v)] ∧ (v = 0 ∨ v = 1)) ∧ decode cc pc = .ok (.ireturn, 1))) → zG p l e R s m args below meth c Q D cA ro b w0 nL mcT msT pc (ls, vs, w, bc, bs)) {i : zI} {len : Nat}  (hd : decode cc pc = .ok (.pop, len)) (hk : zck X M tp pc (.pop) len i = true) (x : zS) : zSO p l e R s m args below meth c Q D cA ro b w0 nL mcT msT X.2.2.2.2.2.2.2.2 M.2.2.2 res tp pc len x (zstp i x) := by
  obtain ⟨ls, st, w, bc, bs⟩ := x
  simp only [zck, Bool.and_eq_true, decide_eq_true_iff, beq_iff_eq] at hk
  obtain ⟨rfl, rfl⟩ := hk
  show zSO p l e R s m args below meth c Q D cA ro b w0 nL mcT msT X.2.2.2.2.2.2.2.2 M.2.2.2 res tp pc _ _ (zs15 (ls, st, w, bc, bs))
  unfold zs15
  split
  · rename_i heq
    cases heq
    split
    · rename_i hc
      exact fun K => zo_pop C hc hd K
    · trivial
  · trivial
theorem zk_iaload (C : zCx p s m c args cc nL (zon M.1) D cA ro b w0) (hX : zTabsOk X) (hR : mcT ≤ R.cells ∧ msT ≤ R.slots) (hfr : M.2.2.2 ≤ R.frames) (hlo : 40 * M.2.2.2 + 40 ≤ R.locals) (hini : M.2.2.1 = true → meth.name = "<init>") (hRet : ∀ (pc : Nat) (ls : List zV) (vs : List zV) (w : zW) (bc bs : Nat), (vs, w) = res → ((M.2.1 = 0 ∧ vs = [] ∧ decode cc pc = .ok (.return_, 1)) ∨ (M.2.1 = 1 ∧ (∃ v, vs = [(0, v)]) ∧ decode cc pc = .ok (.ireturn, 1)) ∨ (M.2.1 = 2 ∧ (∃ v, vs = [(1, v)]) ∧ decode cc pc = .ok (.lreturn, 1)) ∨ (M.2.1 = 3 ∧ (∃ v, vs = [(0, v)] ∧ (v = 0 ∨ v = 1)) ∧ decode cc pc = .ok (.ireturn, 1))) → zG p l e R s m args below meth c Q D cA ro b w0 nL mcT msT pc (ls, vs, w, bc, bs)) {i : zI} {len : Nat}  (hd : decode cc pc = .ok (.iaload, len)) (hk : zck X M tp pc (.iaload) len i = true) (x : zS) : zSO p l e R s m args below meth c Q D cA ro b w0 nL mcT msT X.2.2.2.2.2.2.2.2 M.2.2.2 res tp pc len x (zstp i x) := by
  obtain ⟨ls, st, w, bc, bs⟩ := x
  simp only [zck, Bool.and_eq_true, decide_eq_true_iff, beq_iff_eq] at hk
  obtain ⟨rfl, rfl⟩ := hk
  show zSO p l e R s m args below meth c Q D cA ro b w0 nL mcT msT X.2.2.2.2.2.2.2.2 M.2.2.2 res tp pc _ _ (zs24 20 (ls, st, w, bc, bs))
  unfold zs24
  split
  · rename_i heq
    cases heq
    split
    · rename_i hc
      obtain ⟨hr, hw, hi⟩ := hc
      rcases hw with hw | ⟨hw, -⟩
      · exact fun K => zo_iald C hr hw hi hd K
      · exact fun K => zo_iald30 C hr hw hi hd K
    · trivial
  · trivial
theorem zk_laload (C : zCx p s m c args cc nL (zon M.1) D cA ro b w0) (hX : zTabsOk X) (hR : mcT ≤ R.cells ∧ msT ≤ R.slots) (hfr : M.2.2.2 ≤ R.frames) (hlo : 40 * M.2.2.2 + 40 ≤ R.locals) (hini : M.2.2.1 = true → meth.name = "<init>") (hRet : ∀ (pc : Nat) (ls : List zV) (vs : List zV) (w : zW) (bc bs : Nat), (vs, w) = res → ((M.2.1 = 0 ∧ vs = [] ∧ decode cc pc = .ok (.return_, 1)) ∨ (M.2.1 = 1 ∧ (∃ v, vs = [(0, v)]) ∧ decode cc pc = .ok (.ireturn, 1)) ∨ (M.2.1 = 2 ∧ (∃ v, vs = [(1, v)]) ∧ decode cc pc = .ok (.lreturn, 1)) ∨ (M.2.1 = 3 ∧ (∃ v, vs = [(0, v)] ∧ (v = 0 ∨ v = 1)) ∧ decode cc pc = .ok (.ireturn, 1))) → zG p l e R s m args below meth c Q D cA ro b w0 nL mcT msT pc (ls, vs, w, bc, bs)) {i : zI} {len : Nat}  (hd : decode cc pc = .ok (.laload, len)) (hk : zck X M tp pc (.laload) len i = true) (x : zS) : zSO p l e R s m args below meth c Q D cA ro b w0 nL mcT msT X.2.2.2.2.2.2.2.2 M.2.2.2 res tp pc len x (zstp i x) := by
  obtain ⟨ls, st, w, bc, bs⟩ := x
  simp only [zck, Bool.and_eq_true, decide_eq_true_iff, beq_iff_eq] at hk
  obtain ⟨rfl, rfl⟩ := hk
  show zSO p l e R s m args below meth c Q D cA ro b w0 nL mcT msT X.2.2.2.2.2.2.2.2 M.2.2.2 res tp pc _ _ (zs24 21 (ls, st, w, bc, bs))
  unfold zs24
  split
  · rename_i heq
    cases heq
    split
    · rename_i hc
      obtain ⟨hr, hw, hi⟩ := hc
      rcases hw with hw | ⟨-, hw⟩
      · exact fun K => zo_lald C hr hw hi hd K
      · exact absurd hw (by decide)
    · trivial
  · trivial
theorem zk_baload (C : zCx p s m c args cc nL (zon M.1) D cA ro b w0) (hX : zTabsOk X) (hR : mcT ≤ R.cells ∧ msT ≤ R.slots) (hfr : M.2.2.2 ≤ R.frames) (hlo : 40 * M.2.2.2 + 40 ≤ R.locals) (hini : M.2.2.1 = true → meth.name = "<init>") (hRet : ∀ (pc : Nat) (ls : List zV) (vs : List zV) (w : zW) (bc bs : Nat), (vs, w) = res → ((M.2.1 = 0 ∧ vs = [] ∧ decode cc pc = .ok (.return_, 1)) ∨ (M.2.1 = 1 ∧ (∃ v, vs = [(0, v)]) ∧ decode cc pc = .ok (.ireturn, 1)) ∨ (M.2.1 = 2 ∧ (∃ v, vs = [(1, v)]) ∧ decode cc pc = .ok (.lreturn, 1)) ∨ (M.2.1 = 3 ∧ (∃ v, vs = [(0, v)] ∧ (v = 0 ∨ v = 1)) ∧ decode cc pc = .ok (.ireturn, 1))) → zG p l e R s m args below meth c Q D cA ro b w0 nL mcT msT pc (ls, vs, w, bc, bs)) {i : zI} {len : Nat}  (hd : decode cc pc = .ok (.baload, len)) (hk : zck X M tp pc (.baload) len i = true) (x : zS) : zSO p l e R s m args below meth c Q D cA ro b w0 nL mcT msT X.2.2.2.2.2.2.2.2 M.2.2.2 res tp pc len x (zstp i x) := by
  obtain ⟨ls, st, w, bc, bs⟩ := x
  simp only [zck, Bool.and_eq_true, decide_eq_true_iff, beq_iff_eq] at hk
  obtain ⟨rfl, rfl⟩ := hk
  show zSO p l e R s m args below meth c Q D cA ro b w0 nL mcT msT X.2.2.2.2.2.2.2.2 M.2.2.2 res tp pc _ _ (zs24 22 (ls, st, w, bc, bs))
  unfold zs24
  split
  · rename_i heq
    cases heq
    split
    · rename_i hc
      obtain ⟨hr, hw, hi⟩ := hc
      rcases hw with hw | ⟨-, hw⟩
      · exact fun K => zo_bald C hr hw hi hd K
      · exact absurd hw (by decide)
    · trivial
  · trivial
theorem zk_iastore (C : zCx p s m c args cc nL (zon M.1) D cA ro b w0) (hX : zTabsOk X) (hR : mcT ≤ R.cells ∧ msT ≤ R.slots) (hfr : M.2.2.2 ≤ R.frames) (hlo : 40 * M.2.2.2 + 40 ≤ R.locals) (hini : M.2.2.1 = true → meth.name = "<init>") (hRet : ∀ (pc : Nat) (ls : List zV) (vs : List zV) (w : zW) (bc bs : Nat), (vs, w) = res → ((M.2.1 = 0 ∧ vs = [] ∧ decode cc pc = .ok (.return_, 1)) ∨ (M.2.1 = 1 ∧ (∃ v, vs = [(0, v)]) ∧ decode cc pc = .ok (.ireturn, 1)) ∨ (M.2.1 = 2 ∧ (∃ v, vs = [(1, v)]) ∧ decode cc pc = .ok (.lreturn, 1)) ∨ (M.2.1 = 3 ∧ (∃ v, vs = [(0, v)] ∧ (v = 0 ∨ v = 1)) ∧ decode cc pc = .ok (.ireturn, 1))) → zG p l e R s m args below meth c Q D cA ro b w0 nL mcT msT pc (ls, vs, w, bc, bs)) {i : zI} {len : Nat}  (hd : decode cc pc = .ok (.iastore, len)) (hk : zck X M tp pc (.iastore) len i = true) (x : zS) : zSO p l e R s m args below meth c Q D cA ro b w0 nL mcT msT X.2.2.2.2.2.2.2.2 M.2.2.2 res tp pc len x (zstp i x) := by
  obtain ⟨ls, st, w, bc, bs⟩ := x
  simp only [zck, Bool.and_eq_true, decide_eq_true_iff, beq_iff_eq] at hk
  obtain ⟨rfl, rfl⟩ := hk
  show zSO p l e R s m args below meth c Q D cA ro b w0 nL mcT msT X.2.2.2.2.2.2.2.2 M.2.2.2 res tp pc _ _ (zs25 20 (ls, st, w, bc, bs))
  unfold zs25
  split
  · rename_i heq
    cases heq
    split
    · rename_i hc
      obtain ⟨hr, hw, hi, hu⟩ := hc
      subst hu
      exact fun K => zo_iast C hr hw hi hd K
    · trivial
  · trivial
theorem zk_lastore (C : zCx p s m c args cc nL (zon M.1) D cA ro b w0) (hX : zTabsOk X) (hR : mcT ≤ R.cells ∧ msT ≤ R.slots) (hfr : M.2.2.2 ≤ R.frames) (hlo : 40 * M.2.2.2 + 40 ≤ R.locals) (hini : M.2.2.1 = true → meth.name = "<init>") (hRet : ∀ (pc : Nat) (ls : List zV) (vs : List zV) (w : zW) (bc bs : Nat), (vs, w) = res → ((M.2.1 = 0 ∧ vs = [] ∧ decode cc pc = .ok (.return_, 1)) ∨ (M.2.1 = 1 ∧ (∃ v, vs = [(0, v)]) ∧ decode cc pc = .ok (.ireturn, 1)) ∨ (M.2.1 = 2 ∧ (∃ v, vs = [(1, v)]) ∧ decode cc pc = .ok (.lreturn, 1)) ∨ (M.2.1 = 3 ∧ (∃ v, vs = [(0, v)] ∧ (v = 0 ∨ v = 1)) ∧ decode cc pc = .ok (.ireturn, 1))) → zG p l e R s m args below meth c Q D cA ro b w0 nL mcT msT pc (ls, vs, w, bc, bs)) {i : zI} {len : Nat}  (hd : decode cc pc = .ok (.lastore, len)) (hk : zck X M tp pc (.lastore) len i = true) (x : zS) : zSO p l e R s m args below meth c Q D cA ro b w0 nL mcT msT X.2.2.2.2.2.2.2.2 M.2.2.2 res tp pc len x (zstp i x) := by
  obtain ⟨ls, st, w, bc, bs⟩ := x
  simp only [zck, Bool.and_eq_true, decide_eq_true_iff, beq_iff_eq] at hk
  obtain ⟨rfl, rfl⟩ := hk
  show zSO p l e R s m args below meth c Q D cA ro b w0 nL mcT msT X.2.2.2.2.2.2.2.2 M.2.2.2 res tp pc _ _ (zs25 21 (ls, st, w, bc, bs))
  unfold zs25
  split
  · rename_i heq
    cases heq
    split
    · rename_i hc
      obtain ⟨hr, hw, hi, hu⟩ := hc
      subst hu
      exact fun K => zo_last C hr hw hi hd K
    · trivial
  · trivial
theorem zk_bastore (C : zCx p s m c args cc nL (zon M.1) D cA ro b w0) (hX : zTabsOk X) (hR : mcT ≤ R.cells ∧ msT ≤ R.slots) (hfr : M.2.2.2 ≤ R.frames) (hlo : 40 * M.2.2.2 + 40 ≤ R.locals) (hini : M.2.2.1 = true → meth.name = "<init>") (hRet : ∀ (pc : Nat) (ls : List zV) (vs : List zV) (w : zW) (bc bs : Nat), (vs, w) = res → ((M.2.1 = 0 ∧ vs = [] ∧ decode cc pc = .ok (.return_, 1)) ∨ (M.2.1 = 1 ∧ (∃ v, vs = [(0, v)]) ∧ decode cc pc = .ok (.ireturn, 1)) ∨ (M.2.1 = 2 ∧ (∃ v, vs = [(1, v)]) ∧ decode cc pc = .ok (.lreturn, 1)) ∨ (M.2.1 = 3 ∧ (∃ v, vs = [(0, v)] ∧ (v = 0 ∨ v = 1)) ∧ decode cc pc = .ok (.ireturn, 1))) → zG p l e R s m args below meth c Q D cA ro b w0 nL mcT msT pc (ls, vs, w, bc, bs)) {i : zI} {len : Nat}  (hd : decode cc pc = .ok (.bastore, len)) (hk : zck X M tp pc (.bastore) len i = true) (x : zS) : zSO p l e R s m args below meth c Q D cA ro b w0 nL mcT msT X.2.2.2.2.2.2.2.2 M.2.2.2 res tp pc len x (zstp i x) := by
  obtain ⟨ls, st, w, bc, bs⟩ := x
  simp only [zck, Bool.and_eq_true, decide_eq_true_iff, beq_iff_eq] at hk
  obtain ⟨rfl, rfl⟩ := hk
  show zSO p l e R s m args below meth c Q D cA ro b w0 nL mcT msT X.2.2.2.2.2.2.2.2 M.2.2.2 res tp pc _ _ (zs25 22 (ls, st, w, bc, bs))
  unfold zs25
  split
  · rename_i heq
    cases heq
    split
    · rename_i hc
      obtain ⟨hr, hw, hi, hu⟩ := hc
      subst hu
      exact fun K => zo_bast C hr hw hi hd K
    · trivial
  · trivial
theorem zk_arraylength (C : zCx p s m c args cc nL (zon M.1) D cA ro b w0) (hX : zTabsOk X) (hR : mcT ≤ R.cells ∧ msT ≤ R.slots) (hfr : M.2.2.2 ≤ R.frames) (hlo : 40 * M.2.2.2 + 40 ≤ R.locals) (hini : M.2.2.1 = true → meth.name = "<init>") (hRet : ∀ (pc : Nat) (ls : List zV) (vs : List zV) (w : zW) (bc bs : Nat), (vs, w) = res → ((M.2.1 = 0 ∧ vs = [] ∧ decode cc pc = .ok (.return_, 1)) ∨ (M.2.1 = 1 ∧ (∃ v, vs = [(0, v)]) ∧ decode cc pc = .ok (.ireturn, 1)) ∨ (M.2.1 = 2 ∧ (∃ v, vs = [(1, v)]) ∧ decode cc pc = .ok (.lreturn, 1)) ∨ (M.2.1 = 3 ∧ (∃ v, vs = [(0, v)] ∧ (v = 0 ∨ v = 1)) ∧ decode cc pc = .ok (.ireturn, 1))) → zG p l e R s m args below meth c Q D cA ro b w0 nL mcT msT pc (ls, vs, w, bc, bs)) {i : zI} {len : Nat}  (hd : decode cc pc = .ok (.arraylength, len)) (hk : zck X M tp pc (.arraylength) len i = true) (x : zS) : zSO p l e R s m args below meth c Q D cA ro b w0 nL mcT msT X.2.2.2.2.2.2.2.2 M.2.2.2 res tp pc len x (zstp i x) := by
  obtain ⟨ls, st, w, bc, bs⟩ := x
  simp only [zck, Bool.and_eq_true, decide_eq_true_iff, beq_iff_eq] at hk
  obtain ⟨rfl, rfl⟩ := hk
  show zSO p l e R s m args below meth c Q D cA ro b w0 nL mcT msT X.2.2.2.2.2.2.2.2 M.2.2.2 res tp pc _ _ (zs26 (ls, st, w, bc, bs))
  unfold zs26
  split
  · rename_i heq
    cases heq
    split
    · rename_i hc
      obtain ⟨hr, hw⟩ := hc
      rcases hw with hw | hw
      · exact fun K => zo_alen C hr hw hd K
      · exact fun K => zo_alen30 C hr hw hd K
    · trivial
  · trivial
theorem zk_aaload (C : zCx p s m c args cc nL (zon M.1) D cA ro b w0) (hX : zTabsOk X) (hR : mcT ≤ R.cells ∧ msT ≤ R.slots) (hfr : M.2.2.2 ≤ R.frames) (hlo : 40 * M.2.2.2 + 40 ≤ R.locals) (hini : M.2.2.1 = true → meth.name = "<init>") (hRet : ∀ (pc : Nat) (ls : List zV) (vs : List zV) (w : zW) (bc bs : Nat), (vs, w) = res → ((M.2.1 = 0 ∧ vs = [] ∧ decode cc pc = .ok (.return_, 1)) ∨ (M.2.1 = 1 ∧ (∃ v, vs = [(0, v)]) ∧ decode cc pc = .ok (.ireturn, 1)) ∨ (M.2.1 = 2 ∧ (∃ v, vs = [(1, v)]) ∧ decode cc pc = .ok (.lreturn, 1)) ∨ (M.2.1 = 3 ∧ (∃ v, vs = [(0, v)] ∧ (v = 0 ∨ v = 1)) ∧ decode cc pc = .ok (.ireturn, 1))) → zG p l e R s m args below meth c Q D cA ro b w0 nL mcT msT pc (ls, vs, w, bc, bs)) {i : zI} {len : Nat}  (hd : decode cc pc = .ok (.aaload, len)) (hk : zck X M tp pc (.aaload) len i = true) (x : zS) : zSO p l e R s m args below meth c Q D cA ro b w0 nL mcT msT X.2.2.2.2.2.2.2.2 M.2.2.2 res tp pc len x (zstp i x) := by
  obtain ⟨ls, st, w, bc, bs⟩ := x
  simp only [zck, Bool.and_eq_true, decide_eq_true_iff, beq_iff_eq] at hk
  obtain ⟨hk, rfl⟩ := hk
  rw [Bool.or_eq_true, decide_eq_true_iff, decide_eq_true_iff] at hk
  rcases hk with rfl | rfl
  · show zSO p l e R s m args below meth c Q D cA ro b w0 nL mcT msT X.2.2.2.2.2.2.2.2 M.2.2.2 res tp pc _ _ (zs24 23 (ls, st, w, bc, bs))
    unfold zs24
    split
    · rename_i heq
      cases heq
      split
      · rename_i hc
        obtain ⟨hr, hw, hi⟩ := hc
        rcases hw with hw | ⟨-, hw⟩
        · exact fun K => zo_aald23 C hr hw hi hd K
        · exact absurd hw (by decide)
      · trivial
    · trivial
  · show zSO p l e R s m args below meth c Q D cA ro b w0 nL mcT msT X.2.2.2.2.2.2.2.2 M.2.2.2 res tp pc _ _ (zs24 24 (ls, st, w, bc, bs))
    unfold zs24
    split
    · rename_i heq
      cases heq
      split
      · rename_i hc
        obtain ⟨hr, hw, hi⟩ := hc
        rcases hw with hw | ⟨-, hw⟩
        · exact fun K => zo_aald24 C hr hw hi hd K
        · exact absurd hw (by decide)
      · trivial
    · trivial
theorem zk_ifCond__eq (C : zCx p s m c args cc nL (zon M.1) D cA ro b w0) (hX : zTabsOk X) (hR : mcT ≤ R.cells ∧ msT ≤ R.slots) (hfr : M.2.2.2 ≤ R.frames) (hlo : 40 * M.2.2.2 + 40 ≤ R.locals) (hini : M.2.2.1 = true → meth.name = "<init>") (hRet : ∀ (pc : Nat) (ls : List zV) (vs : List zV) (w : zW) (bc bs : Nat), (vs, w) = res → ((M.2.1 = 0 ∧ vs = [] ∧ decode cc pc = .ok (.return_, 1)) ∨ (M.2.1 = 1 ∧ (∃ v, vs = [(0, v)]) ∧ decode cc pc = .ok (.ireturn, 1)) ∨ (M.2.1 = 2 ∧ (∃ v, vs = [(1, v)]) ∧ decode cc pc = .ok (.lreturn, 1)) ∨ (M.2.1 = 3 ∧ (∃ v, vs = [(0, v)] ∧ (v = 0 ∨ v = 1)) ∧ decode cc pc = .ok (.ireturn, 1))) → zG p l e R s m args below meth c Q D cA ro b w0 nL mcT msT pc (ls, vs, w, bc, bs)) {i : zI} {len : Nat} {off : Int} (hd : decode cc pc = .ok (.ifCond .eq off, len)) (hk : zck X M tp pc (.ifCond .eq off) len i = true) (x : zS) : zSO p l e R s m args below meth c Q D cA ro b w0 nL mcT msT X.2.2.2.2.2.2.2.2 M.2.2.2 res tp pc len x (zstp i x) := by
  obtain ⟨ls, st, w, bc, bs⟩ := x
  simp only [zck, Bool.and_eq_true, decide_eq_true_iff, beq_iff_eq] at hk
  obtain ⟨⟨hi, rfl⟩, ht⟩ := hk
  generalize i.2.2.1 = t at hi ht
  subst hi
  show zSO p l e R s m args below meth c Q D cA ro b w0 nL mcT msT X.2.2.2.2.2.2.2.2 M.2.2.2 res tp pc _ _ (zs16 0 t (ls, st, w, bc, bs))
  unfold zs16
  split
  · rename_i heq
    cases heq
    split
    · rename_i hc
      exact fun K => zo_if_eq C hd ht (fun _ => K) (fun h => absurd hc h)
    · rename_i hc
      exact fun K => zo_if_eq C hd ht (fun h => absurd h hc) (fun _ => K)
  · trivial
theorem zk_if_icmp__eq (C : zCx p s m c args cc nL (zon M.1) D cA ro b w0) (hX : zTabsOk X) (hR : mcT ≤ R.cells ∧ msT ≤ R.slots) (hfr : M.2.2.2 ≤ R.frames) (hlo : 40 * M.2.2.2 + 40 ≤ R.locals) (hini : M.2.2.1 = true → meth.name = "<init>") (hRet : ∀ (pc : Nat) (ls : List zV) (vs : List zV) (w : zW) (bc bs : Nat), (vs, w) = res → ((M.2.1 = 0 ∧ vs = [] ∧ decode cc pc = .ok (.return_, 1)) ∨ (M.2.1 = 1 ∧ (∃ v, vs = [(0, v)]) ∧ decode cc pc = .ok (.ireturn, 1)) ∨ (M.2.1 = 2 ∧ (∃ v, vs = [(1, v)]) ∧ decode cc pc = .ok (.lreturn, 1)) ∨ (M.2.1 = 3 ∧ (∃ v, vs = [(0, v)] ∧ (v = 0 ∨ v = 1)) ∧ decode cc pc = .ok (.ireturn, 1))) → zG p l e R s m args below meth c Q D cA ro b w0 nL mcT msT pc (ls, vs, w, bc, bs)) {i : zI} {len : Nat} {off : Int} (hd : decode cc pc = .ok (.if_icmp .eq off, len)) (hk : zck X M tp pc (.if_icmp .eq off) len i = true) (x : zS) : zSO p l e R s m args below meth c Q D cA ro b w0 nL mcT msT X.2.2.2.2.2.2.2.2 M.2.2.2 res tp pc len x (zstp i x) := by
  obtain ⟨ls, st, w, bc, bs⟩ := x
  simp only [zck, Bool.and_eq_true, decide_eq_true_iff, beq_iff_eq] at hk
  obtain ⟨⟨hi, rfl⟩, ht⟩ := hk
  generalize i.2.2.1 = t at hi ht
  subst hi
  show zSO p l e R s m args below meth c Q D cA ro b w0 nL mcT msT X.2.2.2.2.2.2.2.2 M.2.2.2 res tp pc _ _ (zs17 0 t (ls, st, w, bc, bs))
  unfold zs17
  split
  · rename_i heq
    cases heq
    split
    · rename_i hc
      exact fun K => zo_icmp_eq C hd ht (fun _ => K) (fun h => absurd hc h)
    · rename_i hc
      exact fun K => zo_icmp_eq C hd ht (fun h => absurd h hc) (fun _ => K)
  · trivial
theorem zk_ifCond__ne (C : zCx p s m c args cc nL (zon M.1) D cA ro b w0) (hX : zTabsOk X) (hR : mcT ≤ R.cells ∧ msT ≤ R.slots) (hfr : M.2.2.2 ≤ R.frames) (hlo : 40 * M.2.2.2 + 40 ≤ R.locals) (hini : M.2.2.1 = true → meth.name = "<init>") (hRet : ∀ (pc : Nat) (ls : List zV) (vs : List zV) (w : zW) (bc bs : Nat), (vs, w) = res → ((M.2.1 = 0 ∧ vs = [] ∧ decode cc pc = .ok (.return_, 1)) ∨ (M.2.1 = 1 ∧ (∃ v, vs = [(0, v)]) ∧ decode cc pc = .ok (.ireturn, 1)) ∨ (M.2.1 = 2 ∧ (∃ v, vs = [(1, v)]) ∧ decode cc pc = .ok (.lreturn, 1)) ∨ (M.2.1 = 3 ∧ (∃ v, vs = [(0, v)] ∧ (v = 0 ∨ v = 1)) ∧ decode cc pc = .ok (.ireturn, 1))) → zG p l e R s m args below meth c Q D cA ro b w0 nL mcT msT pc (ls, vs, w, bc, bs)) {i : zI} {len : Nat} {off : Int} (hd : decode cc pc = .ok (.ifCond .ne off, len)) (hk : zck X M tp pc (.ifCond .ne off) len i = true) (x : zS) : zSO p l e R s m args below meth c Q D cA ro b w0 nL mcT msT X.2.2.2.2.2.2.2.2 M.2.2.2 res tp pc len x (zstp i x) := by
  obtain ⟨ls, st, w, bc, bs⟩ := x
  simp only [zck, Bool.and_eq_true, decide_eq_true_iff, beq_iff_eq] at hk
  obtain ⟨⟨hi, rfl⟩, ht⟩ := hk
  generalize i.2.2.1 = t at hi ht
  subst hi
  show zSO p l e R s m args below meth c Q D cA ro b w0 nL mcT msT X.2.2.2.2.2.2.2.2 M.2.2.2 res tp pc _ _ (zs16 1 t (ls, st, w, bc, bs))
  unfold zs16
  split
  · rename_i heq
    cases heq
    split
    · rename_i hc
      exact fun K => zo_if_ne C hd ht (fun _ => K) (fun h => absurd hc h)
    · rename_i hc
      exact fun K => zo_if_ne C hd ht (fun h => absurd h hc) (fun _ => K)
  · trivial
theorem zk_if_icmp__ne (C : zCx p s m c args cc nL (zon M.1) D cA ro b w0) (hX : zTabsOk X) (hR : mcT ≤ R.cells ∧ msT ≤ R.slots) (hfr : M.2.2.2 ≤ R.frames) (hlo : 40 * M.2.2.2 + 40 ≤ R.locals) (hini : M.2.2.1 = true → meth.name = "<init>") (hRet : ∀ (pc : Nat) (ls : List zV) (vs : List zV) (w : zW) (bc bs : Nat), (vs, w) = res → ((M.2.1 = 0 ∧ vs = [] ∧ decode cc pc = .ok (.return_, 1)) ∨ (M.2.1 = 1 ∧ (∃ v, vs = [(0, v)]) ∧ decode cc pc = .ok (.ireturn, 1)) ∨ (M.2.1 = 2 ∧ (∃ v, vs = [(1, v)]) ∧ decode cc pc = .ok (.lreturn, 1)) ∨ (M.2.1 = 3 ∧ (∃ v, vs = [(0, v)] ∧ (v = 0 ∨ v = 1)) ∧ decode cc pc = .ok (.ireturn, 1))) → zG p l e R s m args below meth c Q D cA ro b w0 nL mcT msT pc (ls, vs, w, bc, bs)) {i : zI} {len : Nat} {off : Int} (hd : decode cc pc = .ok (.if_icmp .ne off, len)) (hk : zck X M tp pc (.if_icmp .ne off) len i = true) (x : zS) : zSO p l e R s m args below meth c Q D cA ro b w0 nL mcT msT X.2.2.2.2.2.2.2.2 M.2.2.2 res tp pc len x (zstp i x) := by
  obtain ⟨ls, st, w, bc, bs⟩ := x
  simp only [zck, Bool.and_eq_true, decide_eq_true_iff, beq_iff_eq] at hk
  obtain ⟨⟨hi, rfl⟩, ht⟩ := hk
  generalize i.2.2.1 = t at hi ht
  subst hi
  show zSO p l e R s m args below meth c Q D cA ro b w0 nL mcT msT X.2.2.2.2.2.2.2.2 M.2.2.2 res tp pc _ _ (zs17 1 t (ls, st, w, bc, bs))
  unfold zs17
  split
  · rename_i heq
    cases heq
    split
    · rename_i hc
      exact fun K => zo_icmp_ne C hd ht (fun _ => K) (fun h => absurd hc h)
    · rename_i hc
      exact fun K => zo_icmp_ne C hd ht (fun h => absurd h hc) (fun _ => K)
  · trivial
theorem zk_ifCond__lt (C : zCx p s m c args cc nL (zon M.1) D cA ro b w0) (hX : zTabsOk X) (hR : mcT ≤ R.cells ∧ msT ≤ R.slots) (hfr : M.2.2.2 ≤ R.frames) (hlo : 40 * M.2.2.2 + 40 ≤ R.locals) (hini : M.2.2.1 = true → meth.name = "<init>") (hRet : ∀ (pc : Nat) (ls : List zV) (vs : List zV) (w : zW) (bc bs : Nat), (vs, w) = res → ((M.2.1 = 0 ∧ vs = [] ∧ decode cc pc = .ok (.return_, 1)) ∨ (M.2.1 = 1 ∧ (∃ v, vs = [(0, v)]) ∧ decode cc pc = .ok (.ireturn, 1)) ∨ (M.2.1 = 2 ∧ (∃ v, vs = [(1, v)]) ∧ decode cc pc = .ok (.lreturn, 1)) ∨ (M.2.1 = 3 ∧ (∃ v, vs = [(0, v)] ∧ (v = 0 ∨ v = 1)) ∧ decode cc pc = .ok (.ireturn, 1))) → zG p l e R s m args below meth c Q D cA ro b w0 nL mcT msT pc (ls, vs, w, bc, bs)) {i : zI} {len : Nat} {off : Int} (hd : decode cc pc = .ok (.ifCond .lt off, len)) (hk : zck X M tp pc (.ifCond .lt off) len i = true) (x : zS) : zSO p l e R s m args below meth c Q D cA ro b w0 nL mcT msT X.2.2.2.2.2.2.2.2 M.2.2.2 res tp pc len x (zstp i x) := by
  obtain ⟨ls, st, w, bc, bs⟩ := x
  simp only [zck, Bool.and_eq_true, decide_eq_true_iff, beq_iff_eq] at hk
  obtain ⟨⟨hi, rfl⟩, ht⟩ := hk
  generalize i.2.2.1 = t at hi ht
  subst hi
  show zSO p l e R s m args below meth c Q D cA ro b w0 nL mcT msT X.2.2.2.2.2.2.2.2 M.2.2.2 res tp pc _ _ (zs16 2 t (ls, st, w, bc, bs))
  unfold zs16
  split
  · rename_i heq
    cases heq
    split
    · rename_i hc
      exact fun K => zo_if_lt C hd ht (fun _ => K) (fun h => absurd hc h)
    · rename_i hc
      exact fun K => zo_if_lt C hd ht (fun h => absurd h hc) (fun _ => K)
  · trivial
theorem zk_if_icmp__lt (C : zCx p s m c args cc nL (zon M.1) D cA ro b w0) (hX : zTabsOk X) (hR : mcT ≤ R.cells ∧ msT ≤ R.slots) (hfr : M.2.2.2 ≤ R.frames) (hlo : 40 * M.2.2.2 + 40 ≤ R.locals) (hini : M.2.2.1 = true → meth.name = "<init>") (hRet : ∀ (pc : Nat) (ls : List zV) (vs : List zV) (w : zW) (bc bs : Nat), (vs, w) = res → ((M.2.1 = 0 ∧ vs = [] ∧ decode cc pc = .ok (.return_, 1)) ∨ (M.2.1 = 1 ∧ (∃ v, vs = [(0, v)]) ∧ decode cc pc = .ok (.ireturn, 1)) ∨ (M.2.1 = 2 ∧ (∃ v, vs = [(1, v)]) ∧ decode cc pc = .ok (.lreturn, 1)) ∨ (M.2.1 = 3 ∧ (∃ v, vs = [(0, v)] ∧ (v = 0 ∨ v = 1)) ∧ decode cc pc = .ok (.ireturn, 1))) → zG p l e R s m args below meth c Q D cA ro b w0 nL mcT msT pc (ls, vs, w, bc, bs)) {i : zI} {len : Nat} {off : Int} (hd : decode cc pc = .ok (.if_icmp .lt off, len)) (hk : zck X M tp pc (.if_icmp .lt off) len i = true) (x : zS) : zSO p l e R s m args below meth c Q D cA ro b w0 nL mcT msT X.2.2.2.2.2.2.2.2 M.2.2.2 res tp pc len x (zstp i x) := by
  obtain ⟨ls, st, w, bc, bs⟩ := x
  simp only [zck, Bool.and_eq_true, decide_eq_true_iff, beq_iff_eq] at hk
  obtain ⟨⟨hi, rfl⟩, ht⟩ := hk
  generalize i.2.2.1 = t at hi ht
  subst hi
  show zSO p l e R s m args below meth c Q D cA ro b w0 nL mcT msT X.2.2.2.2.2.2.2.2 M.2.2.2 res tp pc _ _ (zs17 2 t (ls, st, w, bc, bs))
  unfold zs17
  split
  · rename_i heq
    cases heq
    split
    · rename_i hc
      exact fun K => zo_icmp_lt C hd ht (fun _ => K) (fun h => absurd hc h)
    · rename_i hc
      exact fun K => zo_icmp_lt C hd ht (fun h => absurd h hc) (fun _ => K)
  · trivial
theorem zk_ifCond__ge (C : zCx p s m c args cc nL (zon M.1) D cA ro b w0) (hX : zTabsOk X) (hR : mcT ≤ R.cells ∧ msT ≤ R.slots) (hfr : M.2.2.2 ≤ R.frames) (hlo : 40 * M.2.2.2 + 40 ≤ R.locals) (hini : M.2.2.1 = true → meth.name = "<init>") (hRet : ∀ (pc : Nat) (ls : List zV) (vs : List zV) (w : zW) (bc bs : Nat), (vs, w) = res → ((M.2.1 = 0 ∧ vs = [] ∧ decode cc pc = .ok (.return_, 1)) ∨ (M.2.1 = 1 ∧ (∃ v, vs = [(0, v)]) ∧ decode cc pc = .ok (.ireturn, 1)) ∨ (M.2.1 = 2 ∧ (∃ v, vs = [(1, v)]) ∧ decode cc pc = .ok (.lreturn, 1)) ∨ (M.2.1 = 3 ∧ (∃ v, vs = [(0, v)] ∧ (v = 0 ∨ v = 1)) ∧ decode cc pc = .ok (.ireturn, 1))) → zG p l e R s m args below meth c Q D cA ro b w0 nL mcT msT pc (ls, vs, w, bc, bs)) {i : zI} {len : Nat} {off : Int} (hd : decode cc pc = .ok (.ifCond .ge off, len)) (hk : zck X M tp pc (.ifCond .ge off) len i = true) (x : zS) : zSO p l e R s m args below meth c Q D cA ro b w0 nL mcT msT X.2.2.2.2.2.2.2.2 M.2.2.2 res tp pc len x (zstp i x) := by
  obtain ⟨ls, st, w, bc, bs⟩ := x
  simp only [zck, Bool.and_eq_true, decide_eq_true_iff, beq_iff_eq] at hk
  obtain ⟨⟨hi, rfl⟩, ht⟩ := hk
  generalize i.2.2.1 = t at hi ht
  subst hi
  show zSO p l e R s m args below meth c Q D cA ro b w0 nL mcT msT X.2.2.2.2.2.2.2.2 M.2.2.2 res tp pc _ _ (zs16 3 t (ls, st, w, bc, bs))
  unfold zs16
  split
  · rename_i heq
    cases heq
    split
    · rename_i hc
      exact fun K => zo_if_ge C hd ht (fun _ => K) (fun h => absurd hc h)
    · rename_i hc
      exact fun K => zo_if_ge C hd ht (fun h => absurd h hc) (fun _ => K)
  · trivial
theorem zk_if_icmp__ge (C : zCx p s m c args cc nL (zon M.1) D cA ro b w0) (hX : zTabsOk X) (hR : mcT ≤ R.cells ∧ msT ≤ R.slots) (hfr : M.2.2.2 ≤ R.frames) (hlo : 40 * M.2.2.2 + 40 ≤ R.locals) (hini : M.2.2.1 = true → meth.name = "<init>") (hRet : ∀ (pc : Nat) (ls : List zV) (vs : List zV) (w : zW) (bc bs : Nat), (vs, w) = res → ((M.2.1 = 0 ∧ vs = [] ∧ decode cc pc = .ok (.return_, 1)) ∨ (M.2.1 = 1 ∧ (∃ v, vs = [(0, v)]) ∧ decode cc pc = .ok (.ireturn, 1)) ∨ (M.2.1 = 2 ∧ (∃ v, vs = [(1, v)]) ∧ decode cc pc = .ok (.lreturn, 1)) ∨ (M.2.1 = 3 ∧ (∃ v, vs = [(0, v)] ∧ (v = 0 ∨ v = 1)) ∧ decode cc pc = .ok (.ireturn, 1))) → zG p l e R s m args below meth c Q D cA ro b w0 nL mcT msT pc (ls, vs, w, bc, bs)) {i : zI} {len : Nat} {off : Int} (hd : decode cc pc = .ok (.if_icmp .ge off, len)) (hk : zck X M tp pc (.if_icmp .ge off) len i = true) (x : zS) : zSO p l e R s m args below meth c Q D cA ro b w0 nL mcT msT X.2.2.2.2.2.2.2.2 M.2.2.2 res tp pc len x (zstp i x) := by
  obtain ⟨ls, st, w, bc, bs⟩ := x
  simp only [zck, Bool.and_eq_true, decide_eq_true_iff, beq_iff_eq] at hk
  obtain ⟨⟨hi, rfl⟩, ht⟩ := hk
  generalize i.2.2.1 = t at hi ht
  subst hi
  show zSO p l e R s m args below meth c Q D cA ro b w0 nL mcT msT X.2.2.2.2.2.2.2.2 M.2.2.2 res tp pc _ _ (zs17 3 t (ls, st, w, bc, bs))
  unfold zs17
  split
  · rename_i heq
    cases heq
    split
    · rename_i hc
      exact fun K => zo_icmp_ge C hd ht (fun _ => K) (fun h => absurd hc h)
    · rename_i hc
      exact fun K => zo_icmp_ge C hd ht (fun h => absurd h hc) (fun _ => K)
  · trivial
theorem zk_ifCond__gt (C : zCx p s m c args cc nL (zon M.1) D cA ro b w0) (hX : zTabsOk X) (hR : mcT ≤ R.cells ∧ msT ≤ R.slots) (hfr : M.2.2.2 ≤ R.frames) (hlo : 40 * M.2.2.2 + 40 ≤ R.locals) (hini : M.2.2.1 = true → meth.name = "<init>") (hRet : ∀ (pc : Nat) (ls : List zV) (vs : List zV) (w : zW) (bc bs : Nat), (vs, w) = res → ((M.2.1 = 0 ∧ vs = [] ∧ decode cc pc = .ok (.return_, 1)) ∨ (M.2.1 = 1 ∧ (∃ v, vs = [(0, v)]) ∧ decode cc pc = .ok (.ireturn, 1)) ∨ (M.2.1 = 2 ∧ (∃ v, vs = [(1, v)]) ∧ decode cc pc = .ok (.lreturn, 1)) ∨ (M.2.1 = 3 ∧ (∃ v, vs = [(0, v)] ∧ (v = 0 ∨ v = 1)) ∧ decode cc pc = .ok (.ireturn, 1))) → zG p l e R s m args below meth c Q D cA ro b w0 nL mcT msT pc (ls, vs, w, bc, bs)) {i : zI} {len : Nat} {off : Int} (hd : decode cc pc = .ok (.ifCond .gt off, len)) (hk : zck X M tp pc (.ifCond .gt off) len i = true) (x : zS) : zSO p l e R s m args below meth c Q D cA ro b w0 nL mcT msT X.2.2.2.2.2.2.2.2 M.2.2.2 res tp pc len x (zstp i x) := by
  obtain ⟨ls, st, w, bc, bs⟩ := x
  simp only [zck, Bool.and_eq_true, decide_eq_true_iff, beq_iff_eq] at hk
  obtain ⟨⟨hi, rfl⟩, ht⟩ := hk
  generalize i.2.2.1 = t at hi ht
  subst hi
  show zSO p l e R s m args below meth c Q D cA ro b w0 nL mcT msT X.2.2.2.2.2.2.2.2 M.2.2.2 res tp pc _ _ (zs16 4 t (ls, st, w, bc, bs))
  unfold zs16
  split
  · rename_i heq
    cases heq
    split
    · rename_i hc
      exact fun K => zo_if_gt C hd ht (fun _ => K) (fun h => absurd hc h)
    · rename_i hc
      exact fun K => zo_if_gt C hd ht (fun h => absurd h hc) (fun _ => K)
  · trivial
theorem zk_if_icmp__gt (C : zCx p s m c args cc nL (zon M.1) D cA ro b w0) (hX : zTabsOk X) (hR : mcT ≤ R.cells ∧ msT ≤ R.slots) (hfr : M.2.2.2 ≤ R.frames) (hlo : 40 * M.2.2.2 + 40 ≤ R.locals) (hini : M.2.2.1 = true → meth.name = "<init>") (hRet : ∀ (pc : Nat) (ls : List zV) (vs : List zV) (w : zW) (bc bs : Nat), (vs, w) = res → ((M.2.1 = 0 ∧ vs = [] ∧ decode cc pc = .ok (.return_, 1)) ∨ (M.2.1 = 1 ∧ (∃ v, vs = [(0, v)]) ∧ decode cc pc = .ok (.ireturn, 1)) ∨ (M.2.1 = 2 ∧ (∃ v, vs = [(1, v)]) ∧ decode cc pc = .ok (.lreturn, 1)) ∨ (M.2.1 = 3 ∧ (∃ v, vs = [(0, v)] ∧ (v = 0 ∨ v = 1)) ∧ decode cc pc = .ok (.ireturn, 1))) → zG p l e R s m args below meth c Q D cA ro b w0 nL mcT msT pc (ls, vs, w, bc, bs)) {i : zI} {len : Nat} {off : Int} (hd : decode cc pc = .ok (.if_icmp .gt off, len)) (hk : zck X M tp pc (.if_icmp .gt off) len i = true) (x : zS) : zSO p l e R s m args below meth c Q D cA ro b w0 nL mcT msT X.2.2.2.2.2.2.2.2 M.2.2.2 res tp pc len x (zstp i x) := by
  obtain ⟨ls, st, w, bc, bs⟩ := x
  simp only [zck, Bool.and_eq_true, decide_eq_true_iff, beq_iff_eq] at hk
  obtain ⟨⟨hi, rfl⟩, ht⟩ := hk
  generalize i.2.2.1 = t at hi ht
  subst hi
  show zSO p l e R s m args below meth c Q D cA ro b w0 nL mcT msT X.2.2.2.2.2.2.2.2 M.2.2.2 res tp pc _ _ (zs17 4 t (ls, st, w, bc, bs))
  unfold zs17
  split
  · rename_i heq
    cases heq
    split
    · rename_i hc
      exact fun K => zo_icmp_gt C hd ht (fun _ => K) (fun h => absurd hc h)
    · rename_i hc
      exact fun K => zo_icmp_gt C hd ht (fun h => absurd h hc) (fun _ => K)
  · trivial
theorem zk_ifCond__le (C : zCx p s m c args cc nL (zon M.1) D cA ro b w0) (hX : zTabsOk X) (hR : mcT ≤ R.cells ∧ msT ≤ R.slots) (hfr : M.2.2.2 ≤ R.frames) (hlo : 40 * M.2.2.2 + 40 ≤ R.locals) (hini : M.2.2.1 = true → meth.name = "<init>") (hRet : ∀ (pc : Nat) (ls : List zV) (vs : List zV) (w : zW) (bc bs : Nat), (vs, w) = res → ((M.2.1 = 0 ∧ vs = [] ∧ decode cc pc = .ok (.return_, 1)) ∨ (M.2.1 = 1 ∧ (∃ v, vs = [(0, v)]) ∧ decode cc pc = .ok (.ireturn, 1)) ∨ (M.2.1 = 2 ∧ (∃ v, vs = [(1, v)]) ∧ decode cc pc = .ok (.lreturn, 1)) ∨ (M.2.1 = 3 ∧ (∃ v, vs = [(0, v)] ∧ (v = 0 ∨ v = 1)) ∧ decode cc pc = .ok (.ireturn, 1))) → zG p l e R s m args below meth c Q D cA ro b w0 nL mcT msT pc (ls, vs, w, bc, bs)) {i : zI} {len : Nat} {off : Int} (hd : decode cc pc = .ok (.ifCond .le off, len)) (hk : zck X M tp pc (.ifCond .le off) len i = true) (x : zS) : zSO p l e R s m args below meth c Q D cA ro b w0 nL mcT msT X.2.2.2.2.2.2.2.2 M.2.2.2 res tp pc len x (zstp i x) := by
  obtain ⟨ls, st, w, bc, bs⟩ := x
  simp only [zck, Bool.and_eq_true, decide_eq_true_iff, beq_iff_eq] at hk
  obtain ⟨⟨hi, rfl⟩, ht⟩ := hk
  generalize i.2.2.1 = t at hi ht
  subst hi
  show zSO p l e R s m args below meth c Q D cA ro b w0 nL mcT msT X.2.2.2.2.2.2.2.2 M.2.2.2 res tp pc _ _ (zs16 5 t (ls, st, w, bc, bs))
  unfold zs16
  split
  · rename_i heq
    cases heq
    split
    · rename_i hc
      exact fun K => zo_if_le C hd ht (fun _ => K) (fun h => absurd hc h)
    · rename_i hc
      exact fun K => zo_if_le C hd ht (fun h => absurd h hc) (fun _ => K)
  · trivial
theorem zk_if_icmp__le (C : zCx p s m c args cc nL (zon M.1) D cA ro b w0) (hX : zTabsOk X) (hR : mcT ≤ R.cells ∧ msT ≤ R.slots) (hfr : M.2.2.2 ≤ R.frames) (hlo : 40 * M.2.2.2 + 40 ≤ R.locals) (hini : M.2.2.1 = true → meth.name = "<init>") (hRet : ∀ (pc : Nat) (ls : List zV) (vs : List zV) (w : zW) (bc bs : Nat), (vs, w) = res → ((M.2.1 = 0 ∧ vs = [] ∧ decode cc pc = .ok (.return_, 1)) ∨ (M.2.1 = 1 ∧ (∃ v, vs = [(0, v)]) ∧ decode cc pc = .ok (.ireturn, 1)) ∨ (M.2.1 = 2 ∧ (∃ v, vs = [(1, v)]) ∧ decode cc pc = .ok (.lreturn, 1)) ∨ (M.2.1 = 3 ∧ (∃ v, vs = [(0, v)] ∧ (v = 0 ∨ v = 1)) ∧ decode cc pc = .ok (.ireturn, 1))) → zG p l e R s m args below meth c Q D cA ro b w0 nL mcT msT pc (ls, vs, w, bc, bs)) {i : zI} {len : Nat} {off : Int} (hd : decode cc pc = .ok (.if_icmp .le off, len)) (hk : zck X M tp pc (.if_icmp .le off) len i = true) (x : zS) : zSO p l e R s m args below meth c Q D cA ro b w0 nL mcT msT X.2.2.2.2.2.2.2.2 M.2.2.2 res tp pc len x (zstp i x) := by
  obtain ⟨ls, st, w, bc, bs⟩ := x
  simp only [zck, Bool.and_eq_true, decide_eq_true_iff, beq_iff_eq] at hk
  obtain ⟨⟨hi, rfl⟩, ht⟩ := hk
  generalize i.2.2.1 = t at hi ht
  subst hi
  show zSO p l e R s m args below meth c Q D cA ro b w0 nL mcT msT X.2.2.2.2.2.2.2.2 M.2.2.2 res tp pc _ _ (zs17 5 t (ls, st, w, bc, bs))
  unfold zs17
  split
  · rename_i heq
    cases heq
    split
    · rename_i hc
      exact fun K => zo_icmp_le C hd ht (fun _ => K) (fun h => absurd hc h)
    · rename_i hc
      exact fun K => zo_icmp_le C hd ht (fun h => absurd h hc) (fun _ => K)
  · trivial
theorem zk_goto (C : zCx p s m c args cc nL (zon M.1) D cA ro b w0) (hX : zTabsOk X) (hR : mcT ≤ R.cells ∧ msT ≤ R.slots) (hfr : M.2.2.2 ≤ R.frames) (hlo : 40 * M.2.2.2 + 40 ≤ R.locals) (hini : M.2.2.1 = true → meth.name = "<init>") (hRet : ∀ (pc : Nat) (ls : List zV) (vs : List zV) (w : zW) (bc bs : Nat), (vs, w) = res → ((M.2.1 = 0 ∧ vs = [] ∧ decode cc pc = .ok (.return_, 1)) ∨ (M.2.1 = 1 ∧ (∃ v, vs = [(0, v)]) ∧ decode cc pc = .ok (.ireturn, 1)) ∨ (M.2.1 = 2 ∧ (∃ v, vs = [(1, v)]) ∧ decode cc pc = .ok (.lreturn, 1)) ∨ (M.2.1 = 3 ∧ (∃ v, vs = [(0, v)] ∧ (v = 0 ∨ v = 1)) ∧ decode cc pc = .ok (.ireturn, 1))) → zG p l e R s m args below meth c Q D cA ro b w0 nL mcT msT pc (ls, vs, w, bc, bs)) {i : zI} {len : Nat} {off : Int} (hd : decode cc pc = .ok (.goto off, len)) (hk : zck X M tp pc (.goto off) len i = true) (x : zS) : zSO p l e R s m args below meth c Q D cA ro b w0 nL mcT msT X.2.2.2.2.2.2.2.2 M.2.2.2 res tp pc len x (zstp i x) := by
  obtain ⟨ls, st, w, bc, bs⟩ := x
  simp only [zck, Bool.and_eq_true, decide_eq_true_iff, beq_iff_eq] at hk
  obtain ⟨⟨hi, rfl⟩, ht⟩ := hk
  generalize i.2.1 = t at hi ht
  subst hi
  exact fun K => zo_goto C hd ht K
theorem zk_tableswitch (C : zCx p s m c args cc nL (zon M.1) D cA ro b w0) (hX : zTabsOk X) (hR : mcT ≤ R.cells ∧ msT ≤ R.slots) (hfr : M.2.2.2 ≤ R.frames) (hlo : 40 * M.2.2.2 + 40 ≤ R.locals) (hini : M.2.2.1 = true → meth.name = "<init>") (hRet : ∀ (pc : Nat) (ls : List zV) (vs : List zV) (w : zW) (bc bs : Nat), (vs, w) = res → ((M.2.1 = 0 ∧ vs = [] ∧ decode cc pc = .ok (.return_, 1)) ∨ (M.2.1 = 1 ∧ (∃ v, vs = [(0, v)]) ∧ decode cc pc = .ok (.ireturn, 1)) ∨ (M.2.1 = 2 ∧ (∃ v, vs = [(1, v)]) ∧ decode cc pc = .ok (.lreturn, 1)) ∨ (M.2.1 = 3 ∧ (∃ v, vs = [(0, v)] ∧ (v = 0 ∨ v = 1)) ∧ decode cc pc = .ok (.ireturn, 1))) → zG p l e R s m args below meth c Q D cA ro b w0 nL mcT msT pc (ls, vs, w, bc, bs)) {i : zI} {len : Nat} {dflt lo hi : Int} {offs : Array Int} (hd : decode cc pc = .ok (.tableswitch dflt lo hi offs, len)) (hk : zck X M tp pc (.tableswitch dflt lo hi offs) len i = true) (x : zS) : zSO p l e R s m args below meth c Q D cA ro b w0 nL mcT msT X.2.2.2.2.2.2.2.2 M.2.2.2 res tp pc len x (zstp i x) := by
  obtain ⟨ls, st, w, bc, bs⟩ := x
  simp only [zck, Bool.and_eq_true, decide_eq_true_iff, beq_iff_eq] at hk
  obtain ⟨⟨⟨hi, hdf⟩, hlen⟩, hcs⟩ := hk
  generalize i.2.1 = t at hi hdf
  generalize i.2.2.2.2 = cs at hi hlen hcs
  subst hi
  show zSO p l e R s m args below meth c Q D cA ro b w0 nL mcT msT X.2.2.2.2.2.2.2.2 M.2.2.2 res tp pc _ _ (zs19 t cs (ls, st, w, bc, bs))
  unfold zs19
  split
  · rename_i heq
    cases heq
    refine fun K => zo_table (tp := tp) C hd hdf hlen (fun n hn => ?_) rfl K
    have h := List.all_eq_true.mp hcs n (List.mem_range.mpr hn)
    rw [Bool.and_eq_true, decide_eq_true_iff] at h
    refine ⟨h.1, ?_⟩
    have h2 := h.2
    split at h2
    · rename_i off ho
      exact ⟨off, ho, of_decide_eq_true h2⟩
    · cases h2
  · trivial
theorem zk_lookupswitch (C : zCx p s m c args cc nL (zon M.1) D cA ro b w0) (hX : zTabsOk X) (hR : mcT ≤ R.cells ∧ msT ≤ R.slots) (hfr : M.2.2.2 ≤ R.frames) (hlo : 40 * M.2.2.2 + 40 ≤ R.locals) (hini : M.2.2.1 = true → meth.name = "<init>") (hRet : ∀ (pc : Nat) (ls : List zV) (vs : List zV) (w : zW) (bc bs : Nat), (vs, w) = res → ((M.2.1 = 0 ∧ vs = [] ∧ decode cc pc = .ok (.return_, 1)) ∨ (M.2.1 = 1 ∧ (∃ v, vs = [(0, v)]) ∧ decode cc pc = .ok (.ireturn, 1)) ∨ (M.2.1 = 2 ∧ (∃ v, vs = [(1, v)]) ∧ decode cc pc = .ok (.lreturn, 1)) ∨ (M.2.1 = 3 ∧ (∃ v, vs = [(0, v)] ∧ (v = 0 ∨ v = 1)) ∧ decode cc pc = .ok (.ireturn, 1))) → zG p l e R s m args below meth c Q D cA ro b w0 nL mcT msT pc (ls, vs, w, bc, bs)) {i : zI} {len : Nat} {dflt : Int} {ps : Array (Int × Int)} (hd : decode cc pc = .ok (.lookupswitch dflt ps, len)) (hk : zck X M tp pc (.lookupswitch dflt ps) len i = true) (x : zS) : zSO p l e R s m args below meth c Q D cA ro b w0 nL mcT msT X.2.2.2.2.2.2.2.2 M.2.2.2 res tp pc len x (zstp i x) := by
  obtain ⟨ls, st, w, bc, bs⟩ := x
  simp only [zck, Bool.and_eq_true, decide_eq_true_iff, beq_iff_eq] at hk
  obtain ⟨⟨⟨⟨hi, hdf⟩, hp⟩, hlen⟩, hcs⟩ := hk
  generalize i.2.1 = t at hi hdf
  generalize i.2.2.2.2 = cs at hi hlen hcs
  subst hi
  show zSO p l e R s m args below meth c Q D cA ro b w0 nL mcT msT X.2.2.2.2.2.2.2.2 M.2.2.2 res tp pc _ _ (zs19 t cs (ls, st, w, bc, bs))
  unfold zs19
  split
  · rename_i heq
    cases heq
    refine fun K => zo_lookup (tp := tp) C hd hdf hp hlen (fun n hn => ?_) rfl K
    have h := List.all_eq_true.mp hcs n (List.mem_range.mpr hn)
    rw [Bool.and_eq_true, decide_eq_true_iff, decide_eq_true_iff] at h
    exact h
  · trivial
theorem zk_return_ (C : zCx p s m c args cc nL (zon M.1) D cA ro b w0) (hX : zTabsOk X) (hR : mcT ≤ R.cells ∧ msT ≤ R.slots) (hfr : M.2.2.2 ≤ R.frames) (hlo : 40 * M.2.2.2 + 40 ≤ R.locals) (hini : M.2.2.1 = true → meth.name = "<init>") (hRet : ∀ (pc : Nat) (ls : List zV) (vs : List zV) (w : zW) (bc bs : Nat), (vs, w) = res → ((M.2.1 = 0 ∧ vs = [] ∧ decode cc pc = .ok (.return_, 1)) ∨ (M.2.1 = 1 ∧ (∃ v, vs = [(0, v)]) ∧ decode cc pc = .ok (.ireturn, 1)) ∨ (M.2.1 = 2 ∧ (∃ v, vs = [(1, v)]) ∧ decode cc pc = .ok (.lreturn, 1)) ∨ (M.2.1 = 3 ∧ (∃ v, vs = [(0, v)] ∧ (v = 0 ∨ v = 1)) ∧ decode cc pc = .ok (.ireturn, 1))) → zG p l e R s m args below meth c Q D cA ro b w0 nL mcT msT pc (ls, vs, w, bc, bs)) {i : zI} {len : Nat}  (hd : decode cc pc = .ok (.return_, len)) (hk : zck X M tp pc (.return_) len i = true) (x : zS) : zSO p l e R s m args below meth c Q D cA ro b w0 nL mcT msT X.2.2.2.2.2.2.2.2 M.2.2.2 res tp pc len x (zstp i x) := by
  obtain ⟨ls, st, w, bc, bs⟩ := x
  simp only [zck, Bool.and_eq_true, decide_eq_true_iff, beq_iff_eq] at hk
  obtain ⟨⟨rfl, rfl⟩, hr⟩ := hk
  show zSO p l e R s m args below meth c Q D cA ro b w0 nL mcT msT X.2.2.2.2.2.2.2.2 M.2.2.2 res tp pc _ _ (zs20 (ls, st, w, bc, bs))
  unfold zs20
  split
  · rename_i heq
    cases heq
    exact fun h => hRet pc _ _ _ _ _ h (Or.inl ⟨hr, rfl, hd⟩)
  · trivial
theorem zk_ireturn (C : zCx p s m c args cc nL (zon M.1) D cA ro b w0) (hX : zTabsOk X) (hR : mcT ≤ R.cells ∧ msT ≤ R.slots) (hfr : M.2.2.2 ≤ R.frames) (hlo : 40 * M.2.2.2 + 40 ≤ R.locals) (hini : M.2.2.1 = true → meth.name = "<init>") (hRet : ∀ (pc : Nat) (ls : List zV) (vs : List zV) (w : zW) (bc bs : Nat), (vs, w) = res → ((M.2.1 = 0 ∧ vs = [] ∧ decode cc pc = .ok (.return_, 1)) ∨ (M.2.1 = 1 ∧ (∃ v, vs = [(0, v)]) ∧ decode cc pc = .ok (.ireturn, 1)) ∨ (M.2.1 = 2 ∧ (∃ v, vs = [(1, v)]) ∧ decode cc pc = .ok (.lreturn, 1)) ∨ (M.2.1 = 3 ∧ (∃ v, vs = [(0, v)] ∧ (v = 0 ∨ v = 1)) ∧ decode cc pc = .ok (.ireturn, 1))) → zG p l e R s m args below meth c Q D cA ro b w0 nL mcT msT pc (ls, vs, w, bc, bs)) {i : zI} {len : Nat}  (hd : decode cc pc = .ok (.ireturn, len)) (hk : zck X M tp pc (.ireturn) len i = true) (x : zS) : zSO p l e R s m args below meth c Q D cA ro b w0 nL mcT msT X.2.2.2.2.2.2.2.2 M.2.2.2 res tp pc len x (zstp i x) := by
  obtain ⟨ls, st, w, bc, bs⟩ := x
  simp only [zck, Bool.and_eq_true, decide_eq_true_iff, beq_iff_eq] at hk
  obtain ⟨rfl, hk⟩ := hk
  rw [Bool.or_eq_true] at hk
  rcases hk with hk | hk
  · rw [Bool.and_eq_true, decide_eq_true_iff, beq_iff_eq] at hk
    obtain ⟨rfl, hr⟩ := hk
    show zSO p l e R s m args below meth c Q D cA ro b w0 nL mcT msT X.2.2.2.2.2.2.2.2 M.2.2.2 res tp pc _ _ (zs201 (ls, st, w, bc, bs))
    unfold zs201
    split
    · rename_i heq
      cases heq
      exact fun h => hRet pc _ _ _ _ _ h (Or.inr (Or.inl ⟨hr, ⟨_, rfl⟩, hd⟩))
    · trivial
  · rw [Bool.and_eq_true, decide_eq_true_iff, beq_iff_eq] at hk
    obtain ⟨rfl, hr⟩ := hk
    show zSO p l e R s m args below meth c Q D cA ro b w0 nL mcT msT X.2.2.2.2.2.2.2.2 M.2.2.2 res tp pc _ _ (zs203 (ls, st, w, bc, bs))
    unfold zs203
    split
    · rename_i heq
      cases heq
      split
      · rename_i hc
        exact fun h => hRet pc _ _ _ _ _ h (Or.inr (Or.inr (Or.inr ⟨hr, ⟨_, rfl, hc⟩, hd⟩)))
      · trivial
    · trivial
theorem zk_lreturn (C : zCx p s m c args cc nL (zon M.1) D cA ro b w0) (hX : zTabsOk X) (hR : mcT ≤ R.cells ∧ msT ≤ R.slots) (hfr : M.2.2.2 ≤ R.frames) (hlo : 40 * M.2.2.2 + 40 ≤ R.locals) (hini : M.2.2.1 = true → meth.name = "<init>") (hRet : ∀ (pc : Nat) (ls : List zV) (vs : List zV) (w : zW) (bc bs : Nat), (vs, w) = res → ((M.2.1 = 0 ∧ vs = [] ∧ decode cc pc = .ok (.return_, 1)) ∨ (M.2.1 = 1 ∧ (∃ v, vs = [(0, v)]) ∧ decode cc pc = .ok (.ireturn, 1)) ∨ (M.2.1 = 2 ∧ (∃ v, vs = [(1, v)]) ∧ decode cc pc = .ok (.lreturn, 1)) ∨ (M.2.1 = 3 ∧ (∃ v, vs = [(0, v)] ∧ (v = 0 ∨ v = 1)) ∧ decode cc pc = .ok (.ireturn, 1))) → zG p l e R s m args below meth c Q D cA ro b w0 nL mcT msT pc (ls, vs, w, bc, bs)) {i : zI} {len : Nat}  (hd : decode cc pc = .ok (.lreturn, len)) (hk : zck X M tp pc (.lreturn) len i = true) (x : zS) : zSO p l e R s m args below meth c Q D cA ro b w0 nL mcT msT X.2.2.2.2.2.2.2.2 M.2.2.2 res tp pc len x (zstp i x) := by
  obtain ⟨ls, st, w, bc, bs⟩ := x
  simp only [zck, Bool.and_eq_true, decide_eq_true_iff, beq_iff_eq] at hk
  obtain ⟨⟨rfl, rfl⟩, hr⟩ := hk
  show zSO p l e R s m args below meth c Q D cA ro b w0 nL mcT msT X.2.2.2.2.2.2.2.2 M.2.2.2 res tp pc _ _ (zs202 (ls, st, w, bc, bs))
  unfold zs202
  split
  · rename_i heq
    cases heq
    exact fun h => hRet pc _ _ _ _ _ h (Or.inr (Or.inr (Or.inl ⟨hr, ⟨_, rfl⟩, hd⟩)))
  · trivial
theorem zk_getfield (C : zCx p s m c args cc nL (zon M.1) D cA ro b w0) (hX : zTabsOk X) (hR : mcT ≤ R.cells ∧ msT ≤ R.slots) (hfr : M.2.2.2 ≤ R.frames) (hlo : 40 * M.2.2.2 + 40 ≤ R.locals) (hini : M.2.2.1 = true → meth.name = "<init>") (hRet : ∀ (pc : Nat) (ls : List zV) (vs : List zV) (w : zW) (bc bs : Nat), (vs, w) = res → ((M.2.1 = 0 ∧ vs = [] ∧ decode cc pc = .ok (.return_, 1)) ∨ (M.2.1 = 1 ∧ (∃ v, vs = [(0, v)]) ∧ decode cc pc = .ok (.ireturn, 1)) ∨ (M.2.1 = 2 ∧ (∃ v, vs = [(1, v)]) ∧ decode cc pc = .ok (.lreturn, 1)) ∨ (M.2.1 = 3 ∧ (∃ v, vs = [(0, v)] ∧ (v = 0 ∨ v = 1)) ∧ decode cc pc = .ok (.ireturn, 1))) → zG p l e R s m args below meth c Q D cA ro b w0 nL mcT msT pc (ls, vs, w, bc, bs)) {i : zI} {len : Nat} {ix : Nat} (hd : decode cc pc = .ok (.getfield ix, len)) (hk : zck X M tp pc (.getfield ix) len i = true) (x : zS) : zSO p l e R s m args below meth c Q D cA ro b w0 nL mcT msT X.2.2.2.2.2.2.2.2 M.2.2.2 res tp pc len x (zstp i x) := by
  obtain ⟨ls, st, w, bc, bs⟩ := x
  simp only [zck, Bool.and_eq_true, decide_eq_true_iff, beq_iff_eq] at hk
  obtain ⟨rfl, hk⟩ := hk
  obtain ⟨en, he, hk⟩ := List.any_eq_true.mp hk
  simp only [Bool.and_eq_true, decide_eq_true_iff, beq_iff_eq] at hk
  obtain ⟨⟨h1, h2⟩, rfl⟩ := hk
  obtain ⟨rr, hf, -⟩ := hX.1 en he
  rw [h1, h2] at hf
  show zSO p l e R s m args below meth c Q D cA ro b w0 nL mcT msT X.2.2.2.2.2.2.2.2 M.2.2.2 res tp pc _ _ (zs21 en.2.2.2.1 (ztg (zTy en.2.2.1 en.2.2.2.1)) (en.2.2.1 : Int) (ls, st, w, bc, bs))
  unfold zs21
  split
  · rename_i heq
    cases heq
    split
    · rename_i hc
      exact fun K => zo_get C hf hc.1 hc.2 hd K
    · trivial
  · trivial
theorem zk_putfield (C : zCx p s m c args cc nL (zon M.1) D cA ro b w0) (hX : zTabsOk X) (hR : mcT ≤ R.cells ∧ msT ≤ R.slots) (hfr : M.2.2.2 ≤ R.frames) (hlo : 40 * M.2.2.2 + 40 ≤ R.locals) (hini : M.2.2.1 = true → meth.name = "<init>") (hRet : ∀ (pc : Nat) (ls : List zV) (vs : List zV) (w : zW) (bc bs : Nat), (vs, w) = res → ((M.2.1 = 0 ∧ vs = [] ∧ decode cc pc = .ok (.return_, 1)) ∨ (M.2.1 = 1 ∧ (∃ v, vs = [(0, v)]) ∧ decode cc pc = .ok (.ireturn, 1)) ∨ (M.2.1 = 2 ∧ (∃ v, vs = [(1, v)]) ∧ decode cc pc = .ok (.lreturn, 1)) ∨ (M.2.1 = 3 ∧ (∃ v, vs = [(0, v)] ∧ (v = 0 ∨ v = 1)) ∧ decode cc pc = .ok (.ireturn, 1))) → zG p l e R s m args below meth c Q D cA ro b w0 nL mcT msT pc (ls, vs, w, bc, bs)) {i : zI} {len : Nat} {ix : Nat} (hd : decode cc pc = .ok (.putfield ix, len)) (hk : zck X M tp pc (.putfield ix) len i = true) (x : zS) : zSO p l e R s m args below meth c Q D cA ro b w0 nL mcT msT X.2.2.2.2.2.2.2.2 M.2.2.2 res tp pc len x (zstp i x) := by
  obtain ⟨ls, st, w, bc, bs⟩ := x
  simp only [zck, Bool.and_eq_true, decide_eq_true_iff, beq_iff_eq] at hk
  obtain ⟨rfl, hk⟩ := hk
  obtain ⟨en, he, hk⟩ := List.any_eq_true.mp hk
  simp only [Bool.and_eq_true, decide_eq_true_iff, beq_iff_eq] at hk
  obtain ⟨⟨⟨h1, h2⟩, hfl⟩, rfl⟩ := hk
  obtain ⟨rr, hf, hf0, hf1⟩ := hX.1 en he
  rw [h1, h2] at hf hf1
  have key : ∀ (u : Nat) (y : Int), ((u = zpt (zTy en.2.2.1 en.2.2.2.1) ∧ u < 3) ∨ (u = 0 ∧ zpt (zTy en.2.2.1 en.2.2.2.1) = 5 ∧ (y = 0 ∨ y = 1))) → zFit (zTy en.2.2.1 en.2.2.2.1) u y := by
    intro u y h
    generalize zTy en.2.2.1 en.2.2.2.1 = ty at h
    unfold zFit
    cases ty <;> simp [ztg, zpt] at h ⊢ <;> omega
  show zSO p l e R s m args below meth c Q D cA ro b w0 nL mcT msT X.2.2.2.2.2.2.2.2 M.2.2.2 res tp pc _ _ (zs22 en.2.2.2.1 _ (en.2.2.1 : Int) (ls, st, w, bc, bs))
  unfold zs22
  split
  · rename_i u y r st1 w1 b1 heq
    cases heq
    split
    · rename_i hc
      rw [Bool.or_eq_true, Bool.and_eq_true, beq_iff_eq, beq_iff_eq] at hfl
      rcases hfl with h | h
      · exact fun K => zo_put C hf (hf0 h) hc.1 hc.2.1 (key _ _ hc.2.2) hd K
      · obtain ⟨g1, g2, g3⟩ := hf1 h.1
        exact fun K => zo_putF C hf g1 g2 (hini h.2) g3 hc.1 hc.2.1 (key _ _ hc.2.2) hd K
    · trivial
  · trivial
theorem zk_getstatic (C : zCx p s m c args cc nL (zon M.1) D cA ro b w0) (hX : zTabsOk X) (hR : mcT ≤ R.cells ∧ msT ≤ R.slots) (hfr : M.2.2.2 ≤ R.frames) (hlo : 40 * M.2.2.2 + 40 ≤ R.locals) (hini : M.2.2.1 = true → meth.name = "<init>") (hRet : ∀ (pc : Nat) (ls : List zV) (vs : List zV) (w : zW) (bc bs : Nat), (vs, w) = res → ((M.2.1 = 0 ∧ vs = [] ∧ decode cc pc = .ok (.return_, 1)) ∨ (M.2.1 = 1 ∧ (∃ v, vs = [(0, v)]) ∧ decode cc pc = .ok (.ireturn, 1)) ∨ (M.2.1 = 2 ∧ (∃ v, vs = [(1, v)]) ∧ decode cc pc = .ok (.lreturn, 1)) ∨ (M.2.1 = 3 ∧ (∃ v, vs = [(0, v)] ∧ (v = 0 ∨ v = 1)) ∧ decode cc pc = .ok (.ireturn, 1))) → zG p l e R s m args below meth c Q D cA ro b w0 nL mcT msT pc (ls, vs, w, bc, bs)) {i : zI} {len : Nat} {ix : Nat} (hd : decode cc pc = .ok (.getstatic ix, len)) (hk : zck X M tp pc (.getstatic ix) len i = true) (x : zS) : zSO p l e R s m args below meth c Q D cA ro b w0 nL mcT msT X.2.2.2.2.2.2.2.2 M.2.2.2 res tp pc len x (zstp i x) := by
  obtain ⟨ls, st, w, bc, bs⟩ := x
  simp only [zck, Bool.and_eq_true, decide_eq_true_iff, beq_iff_eq] at hk
  obtain ⟨rfl, hk⟩ := hk
  obtain ⟨en, he, hk⟩ := List.any_eq_true.mp hk
  simp only [Bool.and_eq_true, decide_eq_true_iff, beq_iff_eq] at hk
  obtain ⟨⟨⟨h1, h2⟩, rfl⟩, h3⟩ := hk
  have hf := hX.2.2.2.2.2.1 en he
  rw [h1, h2] at hf
  show zSO p l e R s m args below meth c Q D cA ro b w0 nL mcT msT X.2.2.2.2.2.2.2.2 M.2.2.2 res tp pc _ _ (zs23 en.2.2 (ls, st, w, bc, bs))
  unfold zs23
  rcases hf with ⟨h4, hf⟩ | ⟨h4, hf⟩ | ⟨h4, hf⟩ | ⟨h4, hf⟩ | ⟨h4, hf⟩ | ⟨h4, hf⟩
  · rw [h4]
    exact fun K => zo_gets1 C hf hd K
  · rw [h4]
    exact fun K => zo_gets2 C hf hd K
  · rw [h4]
    exact fun K => zo_gets3 C hf hd K
  · omega
  · omega
  · omega
theorem zk_new (C : zCx p s m c args cc nL (zon M.1) D cA ro b w0) (hX : zTabsOk X) (hR : mcT ≤ R.cells ∧ msT ≤ R.slots) (hfr : M.2.2.2 ≤ R.frames) (hlo : 40 * M.2.2.2 + 40 ≤ R.locals) (hini : M.2.2.1 = true → meth.name = "<init>") (hRet : ∀ (pc : Nat) (ls : List zV) (vs : List zV) (w : zW) (bc bs : Nat), (vs, w) = res → ((M.2.1 = 0 ∧ vs = [] ∧ decode cc pc = .ok (.return_, 1)) ∨ (M.2.1 = 1 ∧ (∃ v, vs = [(0, v)]) ∧ decode cc pc = .ok (.ireturn, 1)) ∨ (M.2.1 = 2 ∧ (∃ v, vs = [(1, v)]) ∧ decode cc pc = .ok (.lreturn, 1)) ∨ (M.2.1 = 3 ∧ (∃ v, vs = [(0, v)] ∧ (v = 0 ∨ v = 1)) ∧ decode cc pc = .ok (.ireturn, 1))) → zG p l e R s m args below meth c Q D cA ro b w0 nL mcT msT pc (ls, vs, w, bc, bs)) {i : zI} {len : Nat} {ix : Nat} (hd : decode cc pc = .ok (.new ix, len)) (hk : zck X M tp pc (.new ix) len i = true) (x : zS) : zSO p l e R s m args below meth c Q D cA ro b w0 nL mcT msT X.2.2.2.2.2.2.2.2 M.2.2.2 res tp pc len x (zstp i x) := by
  obtain ⟨ls, st, w, bc, bs⟩ := x
  simp only [zck, Bool.and_eq_true, decide_eq_true_iff, beq_iff_eq] at hk
  obtain ⟨rfl, hk⟩ := hk
  obtain ⟨en, he, hk⟩ := List.any_eq_true.mp hk
  simp only [Bool.and_eq_true, decide_eq_true_iff, beq_iff_eq] at hk
  obtain ⟨⟨⟨⟨h1, h2⟩, hi⟩, hlt⟩, hdf⟩ := hk
  generalize i.2.2.2.2 = lst at hi hdf
  subst hi
  obtain ⟨rr, g1, g2, g3, g4⟩ := hX.2.2.2.1 en he
  rw [h1, h2] at g2
  have hD : zDef en.2.2 lst := fun n hn => by
    have h := List.all_eq_true.mp hdf n (List.mem_range.mpr hn)
    generalize zTy en.2.2 n = ty at h
    cases ty <;> simp [ztg] at h ⊢ <;> exact h
  show zSO p l e R s m args below meth c Q D cA ro b w0 nL mcT msT X.2.2.2.2.2.2.2.2 M.2.2.2 res tp pc _ _ (zs27 en.2.2 (zNf en.2.2) lst (ls, st, w, bc, bs))
  unfold zs27
  dsimp only
  split
  · rename_i hc
    exact fun K => zo_new C hR g1 g2 g3 g4 hD hc.1 hc.2 hd K
  · trivial
theorem zk_newarray__int (C : zCx p s m c args cc nL (zon M.1) D cA ro b w0) (hX : zTabsOk X) (hR : mcT ≤ R.cells ∧ msT ≤ R.slots) (hfr : M.2.2.2 ≤ R.frames) (hlo : 40 * M.2.2.2 + 40 ≤ R.locals) (hini : M.2.2.1 = true → meth.name = "<init>") (hRet : ∀ (pc : Nat) (ls : List zV) (vs : List zV) (w : zW) (bc bs : Nat), (vs, w) = res → ((M.2.1 = 0 ∧ vs = [] ∧ decode cc pc = .ok (.return_, 1)) ∨ (M.2.1 = 1 ∧ (∃ v, vs = [(0, v)]) ∧ decode cc pc = .ok (.ireturn, 1)) ∨ (M.2.1 = 2 ∧ (∃ v, vs = [(1, v)]) ∧ decode cc pc = .ok (.lreturn, 1)) ∨ (M.2.1 = 3 ∧ (∃ v, vs = [(0, v)] ∧ (v = 0 ∨ v = 1)) ∧ decode cc pc = .ok (.ireturn, 1))) → zG p l e R s m args below meth c Q D cA ro b w0 nL mcT msT pc (ls, vs, w, bc, bs)) {i : zI} {len : Nat}  (hd : decode cc pc = .ok (.newarray .int, len)) (hk : zck X M tp pc (.newarray .int) len i = true) (x : zS) : zSO p l e R s m args below meth c Q D cA ro b w0 nL mcT msT X.2.2.2.2.2.2.2.2 M.2.2.2 res tp pc len x (zstp i x) := by
  obtain ⟨ls, st, w, bc, bs⟩ := x
  simp only [zck, Bool.and_eq_true, decide_eq_true_iff, beq_iff_eq] at hk
  obtain ⟨rfl, rfl⟩ := hk
  show zSO p l e R s m args below meth c Q D cA ro b w0 nL mcT msT X.2.2.2.2.2.2.2.2 M.2.2.2 res tp pc _ _ (zs28 20 (ls, st, w, bc, bs))
  unfold zs28
  split
  · rename_i heq
    cases heq
    split
    · rename_i hc
      exact fun K => zo_newa20 C hR hX.2.2.2.2.2.2.2.2.1.2.2.2.2.2.1 ⟨hc.1, hc.2.1⟩ hc.2.2.1 hc.2.2.2 hd K
    · trivial
  · trivial
theorem zk_newarray__long (C : zCx p s m c args cc nL (zon M.1) D cA ro b w0) (hX : zTabsOk X) (hR : mcT ≤ R.cells ∧ msT ≤ R.slots) (hfr : M.2.2.2 ≤ R.frames) (hlo : 40 * M.2.2.2 + 40 ≤ R.locals) (hini : M.2.2.1 = true → meth.name = "<init>") (hRet : ∀ (pc : Nat) (ls : List zV) (vs : List zV) (w : zW) (bc bs : Nat), (vs, w) = res → ((M.2.1 = 0 ∧ vs = [] ∧ decode cc pc = .ok (.return_, 1)) ∨ (M.2.1 = 1 ∧ (∃ v, vs = [(0, v)]) ∧ decode cc pc = .ok (.ireturn, 1)) ∨ (M.2.1 = 2 ∧ (∃ v, vs = [(1, v)]) ∧ decode cc pc = .ok (.lreturn, 1)) ∨ (M.2.1 = 3 ∧ (∃ v, vs = [(0, v)] ∧ (v = 0 ∨ v = 1)) ∧ decode cc pc = .ok (.ireturn, 1))) → zG p l e R s m args below meth c Q D cA ro b w0 nL mcT msT pc (ls, vs, w, bc, bs)) {i : zI} {len : Nat}  (hd : decode cc pc = .ok (.newarray .long, len)) (hk : zck X M tp pc (.newarray .long) len i = true) (x : zS) : zSO p l e R s m args below meth c Q D cA ro b w0 nL mcT msT X.2.2.2.2.2.2.2.2 M.2.2.2 res tp pc len x (zstp i x) := by
  obtain ⟨ls, st, w, bc, bs⟩ := x
  simp only [zck, Bool.and_eq_true, decide_eq_true_iff, beq_iff_eq] at hk
  obtain ⟨rfl, rfl⟩ := hk
  show zSO p l e R s m args below meth c Q D cA ro b w0 nL mcT msT X.2.2.2.2.2.2.2.2 M.2.2.2 res tp pc _ _ (zs28 21 (ls, st, w, bc, bs))
  unfold zs28
  split
  · rename_i heq
    cases heq
    split
    · rename_i hc
      exact fun K => zo_newa21 C hR hX.2.2.2.2.2.2.2.2.1.2.2.2.2.2.2.1 ⟨hc.1, hc.2.1⟩ hc.2.2.1 hc.2.2.2 hd K
    · trivial
  · trivial
theorem zk_newarray__byte (C : zCx p s m c args cc nL (zon M.1) D cA ro b w0) (hX : zTabsOk X) (hR : mcT ≤ R.cells ∧ msT ≤ R.slots) (hfr : M.2.2.2 ≤ R.frames) (hlo : 40 * M.2.2.2 + 40 ≤ R.locals) (hini : M.2.2.1 = true → meth.name = "<init>") (hRet : ∀ (pc : Nat) (ls : List zV) (vs : List zV) (w : zW) (bc bs : Nat), (vs, w) = res → ((M.2.1 = 0 ∧ vs = [] ∧ decode cc pc = .ok (.return_, 1)) ∨ (M.2.1 = 1 ∧ (∃ v, vs = [(0, v)]) ∧ decode cc pc = .ok (.ireturn, 1)) ∨ (M.2.1 = 2 ∧ (∃ v, vs = [(1, v)]) ∧ decode cc pc = .ok (.lreturn, 1)) ∨ (M.2.1 = 3 ∧ (∃ v, vs = [(0, v)] ∧ (v = 0 ∨ v = 1)) ∧ decode cc pc = .ok (.ireturn, 1))) → zG p l e R s m args below meth c Q D cA ro b w0 nL mcT msT pc (ls, vs, w, bc, bs)) {i : zI} {len : Nat}  (hd : decode cc pc = .ok (.newarray .byte, len)) (hk : zck X M tp pc (.newarray .byte) len i = true) (x : zS) : zSO p l e R s m args below meth c Q D cA ro b w0 nL mcT msT X.2.2.2.2.2.2.2.2 M.2.2.2 res tp pc len x (zstp i x) := by
  obtain ⟨ls, st, w, bc, bs⟩ := x
  simp only [zck, Bool.and_eq_true, decide_eq_true_iff, beq_iff_eq] at hk
  obtain ⟨rfl, rfl⟩ := hk
  show zSO p l e R s m args below meth c Q D cA ro b w0 nL mcT msT X.2.2.2.2.2.2.2.2 M.2.2.2 res tp pc _ _ (zs28 22 (ls, st, w, bc, bs))
  unfold zs28
  split
  · rename_i heq
    cases heq
    split
    · rename_i hc
      exact fun K => zo_newa22 C hR hX.2.2.2.2.2.2.2.2.1.2.2.2.2.2.2.2 ⟨hc.1, hc.2.1⟩ hc.2.2.1 hc.2.2.2 hd K
    · trivial
  · trivial
theorem zk_invokespecial (C : zCx p s m c args cc nL (zon M.1) D cA ro b w0) (hX : zTabsOk X) (hR : mcT ≤ R.cells ∧ msT ≤ R.slots) (hfr : M.2.2.2 ≤ R.frames) (hlo : 40 * M.2.2.2 + 40 ≤ R.locals) (hini : M.2.2.1 = true → meth.name = "<init>") (hRet : ∀ (pc : Nat) (ls : List zV) (vs : List zV) (w : zW) (bc bs : Nat), (vs, w) = res → ((M.2.1 = 0 ∧ vs = [] ∧ decode cc pc = .ok (.return_, 1)) ∨ (M.2.1 = 1 ∧ (∃ v, vs = [(0, v)]) ∧ decode cc pc = .ok (.ireturn, 1)) ∨ (M.2.1 = 2 ∧ (∃ v, vs = [(1, v)]) ∧ decode cc pc = .ok (.lreturn, 1)) ∨ (M.2.1 = 3 ∧ (∃ v, vs = [(0, v)] ∧ (v = 0 ∨ v = 1)) ∧ decode cc pc = .ok (.ireturn, 1))) → zG p l e R s m args below meth c Q D cA ro b w0 nL mcT msT pc (ls, vs, w, bc, bs)) {i : zI} {len : Nat} {ix : Nat} (hd : decode cc pc = .ok (.invokespecial ix, len)) (hk : zck X M tp pc (.invokespecial ix) len i = true) (x : zS) : zSO p l e R s m args below meth c Q D cA ro b w0 nL mcT msT X.2.2.2.2.2.2.2.2 M.2.2.2 res tp pc len x (zstp i x) := by
  obtain ⟨ls, st, w, bc, bs⟩ := x
  simp only [zck, Bool.and_eq_true, decide_eq_true_iff, beq_iff_eq] at hk
  obtain ⟨rfl, hk⟩ := hk
  rw [Bool.or_eq_true] at hk
  rcases hk with hk | hk
  · simp only [Bool.and_eq_true, decide_eq_true_iff] at hk
    obtain ⟨⟨rfl, hk⟩, hrk⟩ := hk
    obtain ⟨en, he, hk⟩ := List.any_eq_true.mp hk
    simp only [Bool.and_eq_true, beq_iff_eq] at hk
    have hw := hX.2.2.2.2.2.2.1 en he
    rw [hk.1, hk.2] at hw
    have ho := hX.2.2.2.2.2.2.2.2.1
    show zSO p l e R s m args below meth c Q D cA ro b w0 nL mcT msT X.2.2.2.2.2.2.2.2 M.2.2.2 res tp pc _ _ (zs30 (ls, st, w, bc, bs))
    unfold zs30
    split
    · rename_i heq
      cases heq
      split
      · rename_i hc
        exact fun K => zo_objInit C hw ho.1 ho.2.1 (by omega) (by omega) hc.1 hc.2 hd K
      · trivial
    · trivial
  · obtain ⟨en, he, hk⟩ := List.any_eq_true.mp hk
    simp only [Bool.and_eq_true, decide_eq_true_iff, beq_iff_eq] at hk
    obtain ⟨⟨⟨⟨h1, h2⟩, h3⟩, h4⟩, rfl⟩ := hk
    have hl := hX.2.1 en he
    rw [h1, h2] at hl
    obtain ⟨hok, -, -, h5⟩ := hX.2.2.2.2.2.2.2.2.2 en he
    obtain ⟨g1, g2, g3⟩ := h5 h3
    show zSO p l e R s m args below meth c Q D cA ro b w0 nL mcT msT X.2.2.2.2.2.2.2.2 M.2.2.2 res tp pc _ _ (zs33 en.2.2 _ _ _ (ls, st, w, bc, bs))
    unfold zs33
    dsimp only
    split
    · rename_i r as st' hsp
      split
      · rename_i hc
        exact fun vs w' hcon K => zo_callI C hR (by omega) (by omega) (hcon h4) hok hl g1 hc.2.1 hc.2.2 g2 g3 rfl hc.1 rfl hsp hd K
      · trivial
    · trivial
theorem zk_invokevirtual (C : zCx p s m c args cc nL (zon M.1) D cA ro b w0) (hX : zTabsOk X) (hR : mcT ≤ R.cells ∧ msT ≤ R.slots) (hfr : M.2.2.2 ≤ R.frames) (hlo : 40 * M.2.2.2 + 40 ≤ R.locals) (hini : M.2.2.1 = true → meth.name = "<init>") (hRet : ∀ (pc : Nat) (ls : List zV) (vs : List zV) (w : zW) (bc bs : Nat), (vs, w) = res → ((M.2.1 = 0 ∧ vs = [] ∧ decode cc pc = .ok (.return_, 1)) ∨ (M.2.1 = 1 ∧ (∃ v, vs = [(0, v)]) ∧ decode cc pc = .ok (.ireturn, 1)) ∨ (M.2.1 = 2 ∧ (∃ v, vs = [(1, v)]) ∧ decode cc pc = .ok (.lreturn, 1)) ∨ (M.2.1 = 3 ∧ (∃ v, vs = [(0, v)] ∧ (v = 0 ∨ v = 1)) ∧ decode cc pc = .ok (.ireturn, 1))) → zG p l e R s m args below meth c Q D cA ro b w0 nL mcT msT pc (ls, vs, w, bc, bs)) {i : zI} {len : Nat} {ix : Nat} (hd : decode cc pc = .ok (.invokevirtual ix, len)) (hk : zck X M tp pc (.invokevirtual ix) len i = true) (x : zS) : zSO p l e R s m args below meth c Q D cA ro b w0 nL mcT msT X.2.2.2.2.2.2.2.2 M.2.2.2 res tp pc len x (zstp i x) := by
  obtain ⟨ls, st, w, bc, bs⟩ := x
  simp only [zck, Bool.and_eq_true, decide_eq_true_iff, beq_iff_eq] at hk
  obtain ⟨rfl, hk⟩ := hk
  obtain ⟨en, he, hk⟩ := List.any_eq_true.mp hk
  simp only [Bool.and_eq_true, decide_eq_true_iff, beq_iff_eq] at hk
  obtain ⟨⟨⟨⟨h1, h2⟩, h3⟩, h4⟩, rfl⟩ := hk
  have hl := hX.2.1 en he
  rw [h1, h2] at hl
  obtain ⟨hok, h5, -, -⟩ := hX.2.2.2.2.2.2.2.2.2 en he
  obtain ⟨g1, g2, g3, g4, rr, g5, g6⟩ := h5 h3
  show zSO p l e R s m args below meth c Q D cA ro b w0 nL mcT msT X.2.2.2.2.2.2.2.2 M.2.2.2 res tp pc _ _ (zs31 en.2.2 _ _ (ls, st, w, bc, bs))
  unfold zs31
  dsimp only
  split
  · rename_i r as st' hsp
    split
    · rename_i hc
      exact fun vs w' hcon K => zo_callV C hR (by omega) (by omega) (hcon h4) hok hl ⟨g1, g2⟩ g3 g4 rfl hc.1 g5 g6 hc.2 rfl hsp hd K
    · trivial
  · trivial
theorem zk_invokestatic (C : zCx p s m c args cc nL (zon M.1) D cA ro b w0) (hX : zTabsOk X) (hR : mcT ≤ R.cells ∧ msT ≤ R.slots) (hfr : M.2.2.2 ≤ R.frames) (hlo : 40 * M.2.2.2 + 40 ≤ R.locals) (hini : M.2.2.1 = true → meth.name = "<init>") (hRet : ∀ (pc : Nat) (ls : List zV) (vs : List zV) (w : zW) (bc bs : Nat), (vs, w) = res → ((M.2.1 = 0 ∧ vs = [] ∧ decode cc pc = .ok (.return_, 1)) ∨ (M.2.1 = 1 ∧ (∃ v, vs = [(0, v)]) ∧ decode cc pc = .ok (.ireturn, 1)) ∨ (M.2.1 = 2 ∧ (∃ v, vs = [(1, v)]) ∧ decode cc pc = .ok (.lreturn, 1)) ∨ (M.2.1 = 3 ∧ (∃ v, vs = [(0, v)] ∧ (v = 0 ∨ v = 1)) ∧ decode cc pc = .ok (.ireturn, 1))) → zG p l e R s m args below meth c Q D cA ro b w0 nL mcT msT pc (ls, vs, w, bc, bs)) {i : zI} {len : Nat} {ix : Nat} (hd : decode cc pc = .ok (.invokestatic ix, len)) (hk : zck X M tp pc (.invokestatic ix) len i = true) (x : zS) : zSO p l e R s m args below meth c Q D cA ro b w0 nL mcT msT X.2.2.2.2.2.2.2.2 M.2.2.2 res tp pc len x (zstp i x) := by
  obtain ⟨ls, st, w, bc, bs⟩ := x
  simp only [zck, Bool.and_eq_true, decide_eq_true_iff, beq_iff_eq] at hk
  obtain ⟨rfl, hk⟩ := hk
  rw [Bool.or_eq_true, Bool.or_eq_true] at hk
  rcases hk with (hk | hk) | hk
  · simp only [Bool.and_eq_true, decide_eq_true_iff] at hk
    obtain ⟨hk, hrk⟩ := hk
    obtain ⟨en, he, hk⟩ := List.any_eq_true.mp hk
    simp only [Bool.and_eq_true, Bool.or_eq_true, decide_eq_true_iff, beq_iff_eq] at hk
    obtain ⟨⟨h1, h2⟩, hk⟩ := hk
    have hf := hX.2.2.2.2.2.1 en he
    rw [h1, h2] at hf
    rcases hk with (⟨h3, rfl⟩ | ⟨h3, rfl⟩) | ⟨h3, rfl⟩
    · show zSO p l e R s m args below meth c Q D cA ro b w0 nL mcT msT X.2.2.2.2.2.2.2.2 M.2.2.2 res tp pc _ _ (zs35 (ls, st, w, bc, bs))
      unfold zs35
      split
      · rename_i heq
        cases heq
        split
        · rename_i hc
          rcases hf with ⟨h4, hf⟩ | ⟨h4, hf⟩ | ⟨h4, hf⟩ | ⟨h4, hf⟩ | ⟨h4, hf⟩ | ⟨h4, hf⟩
          · omega
          · omega
          · omega
          · exact fun K => zo_mabs (y := 0) C hf hR (by omega) (by omega) hc hd K
          · omega
          · omega
        · trivial
      · trivial
    · show zSO p l e R s m args below meth c Q D cA ro b w0 nL mcT msT X.2.2.2.2.2.2.2.2 M.2.2.2 res tp pc _ _ (zs36 0 (ls, st, w, bc, bs))
      unfold zs36
      split
      · rename_i heq
        cases heq
        split
        · rename_i hc
          rcases hf with ⟨h4, hf⟩ | ⟨h4, hf⟩ | ⟨h4, hf⟩ | ⟨h4, hf⟩ | ⟨h4, hf⟩ | ⟨h4, hf⟩
          · omega
          · omega
          · omega
          · omega
          · exact fun K => zo_mmax C hf hR (by omega) (by omega) hc hd K
          · omega
        · trivial
      · trivial
    · show zSO p l e R s m args below meth c Q D cA ro b w0 nL mcT msT X.2.2.2.2.2.2.2.2 M.2.2.2 res tp pc _ _ (zs36 1 (ls, st, w, bc, bs))
      unfold zs36
      split
      · rename_i heq
        cases heq
        split
        · rename_i hc
          rcases hf with ⟨h4, hf⟩ | ⟨h4, hf⟩ | ⟨h4, hf⟩ | ⟨h4, hf⟩ | ⟨h4, hf⟩ | ⟨h4, hf⟩
          · omega
          · omega
          · omega
          · omega
          · omega
          · exact fun K => zo_mmin C hf hR (by omega) (by omega) hc hd K
        · trivial
      · trivial
  · simp only [Bool.and_eq_true, Bool.or_eq_true, decide_eq_true_iff] at hk
    obtain ⟨⟨hk, hi⟩, hrk⟩ := hk
    obtain ⟨en, he, hk⟩ := List.any_eq_true.mp hk
    simp only [Bool.and_eq_true, beq_iff_eq] at hk
    have hw := hX.2.2.2.2.2.2.2.1 en he
    rw [hk.1, hk.2] at hw
    have ho := hX.2.2.2.2.2.2.2.2.1
    rcases hi with rfl | rfl
    · show zSO p l e R s m args below meth c Q D cA ro b w0 nL mcT msT X.2.2.2.2.2.2.2.2 M.2.2.2 res tp pc _ _ (zs32 20 (ls, st, w, bc, bs))
      unfold zs32
      split
      · rename_i heq
        cases heq
        split
        · rename_i hc
          obtain ⟨c1, c2, c3, c4, c5, c6, c7, c8, c9, c10⟩ := hc
          exact fun K => zo_copy20 C hw ho.2.2.1 ho.2.2.2.1 ho.2.2.2.2.1 (by omega) (by omega) c1 c2 c3 c4 c5 c6 c7 c8 c9 c10 hd K
        · trivial
      · trivial
    · show zSO p l e R s m args below meth c Q D cA ro b w0 nL mcT msT X.2.2.2.2.2.2.2.2 M.2.2.2 res tp pc _ _ (zs32 21 (ls, st, w, bc, bs))
      unfold zs32
      split
      · rename_i heq
        cases heq
        split
        · rename_i hc
          obtain ⟨c1, c2, c3, c4, c5, c6, c7, c8, c9, c10⟩ := hc
          exact fun K => zo_copy21 C hw ho.2.2.1 ho.2.2.2.1 ho.2.2.2.2.1 (by omega) (by omega) c1 c2 c3 c4 c5 c6 c7 c8 c9 c10 hd K
        · trivial
      · trivial
  · obtain ⟨en, he, hk⟩ := List.any_eq_true.mp hk
    simp only [Bool.and_eq_true, decide_eq_true_iff, beq_iff_eq] at hk
    obtain ⟨⟨⟨⟨h1, h2⟩, h3⟩, h4⟩, rfl⟩ := hk
    have hl := hX.2.1 en he
    rw [h1, h2] at hl
    obtain ⟨hok, -, h5, -⟩ := hX.2.2.2.2.2.2.2.2.2 en he
    obtain ⟨g1, g2, g3⟩ := h5 h3
    show zSO p l e R s m args below meth c Q D cA ro b w0 nL mcT msT X.2.2.2.2.2.2.2.2 M.2.2.2 res tp pc _ _ (zs34 en.2.2 _ (ls, st, w, bc, bs))
    unfold zs34
    dsimp only
    split
    · rename_i as st' hsp
      exact fun vs w' hcon K => zo_callS C hR (by omega) (by omega) (hcon h4) hok hl ⟨g1, g2⟩ g3 rfl hsp hd K
    · trivial
end
