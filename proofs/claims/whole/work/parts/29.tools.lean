/-! TOOLS FOR THE MATHEMATICS: what comes out and what holds of it; loops; numbers. -/
def Ok {P : zP} (o : Option (Int × zD P)) (Q : Int → zD P → Prop) : Prop := ∃ v d', o = some (v, d') ∧ Q v d'
theorem Ok_some {P : zP} {v : Int} {d : zD P} {Q : Int → zD P → Prop} : Ok (some (v, d)) Q = Q v d := propext ⟨fun ⟨v', d', h, hq⟩ => by cases h; exact hq, fun h => ⟨v, d, rfl, h⟩⟩
theorem Ok_ret {P : zP} {v : Int} {d : zD P} {Q : Int → zD P → Prop} (h : Q v d) : Ok (some (v, d)) Q := ⟨v, d, rfl, h⟩
theorem Ok_bind {P : zP} {o : Option (Int × zD P)} {f : Int × zD P → Option (Int × zD P)} {R Q : Int → zD P → Prop} (h : Ok o R) (h2 : ∀ v d', R v d' → Ok (f (v, d')) Q) : Ok (o.bind f) Q := by
  obtain ⟨v, d', rfl, hr⟩ := h
  exact h2 v d' hr
theorem Ok_mono {P : zP} {o : Option (Int × zD P)} {R Q : Int → zD P → Prop} (h : Ok o R) (h2 : ∀ v d', R v d' → Q v d') : Ok o Q := by
  obtain ⟨v, d', rfl, hr⟩ := h
  exact ⟨v, d', rfl, h2 v d' hr⟩
theorem Ok_eq {P : zP} {o : Option (Int × zD P)} {v : Int} {d : zD P} (h : Ok o (fun v' d' => v' = v ∧ d' = d)) : o = some (v, d) := by
  obtain ⟨v', d', rfl, rfl, rfl⟩ := h
  rfl
theorem Ok_of {P : zP} {o : Option (Int × zD P)} {v : Int} {d : zD P} {Q : Int → zD P → Prop} (h : o = some (v, d)) (hq : Q v d) : Ok o Q := ⟨v, d, h, hq⟩
theorem Ok_ite {P : zP} {c : Prop} [Decidable c] {a b : Option (Int × zD P)} {Q : Int → zD P → Prop} (h1 : c → Ok a Q) (h2 : ¬ c → Ok b Q) : Ok (if c then a else b) Q := by
  split
  · exact h1 (by assumption)
  · exact h2 (by assumption)
/-! numbers -/
theorem zinT {x : Int} {n : Nat} (h : 0 ≤ x ∧ x < n ∧ x ≤ 2147483647) : zin x n = True := by
  have := (zin_id (x := x) (n := n) (by omega)).mpr ⟨h.1, h.2.1⟩
  exact eq_true this
theorem ltT {a b : Int} (h : a < b) : (a < b) = True := eq_true h
theorem ltF {a b : Int} (h : ¬ a < b) : (a < b) = False := eq_false h
theorem leT {a b : Int} (h : a ≤ b) : (a ≤ b) = True := eq_true h
theorem leF {a b : Int} (h : ¬ a ≤ b) : (a ≤ b) = False := eq_false h
theorem eqT {a b : Int} (h : a = b) : (a = b) = True := eq_true h
theorem eqF {a b : Int} (h : ¬ a = b) : (a = b) = False := eq_false h
theorem nleT {a b : Nat} (h : a ≤ b) : (a ≤ b) = True := eq_true h
theorem mulb {a b A B : Int} (ha : 0 ≤ a) (ha2 : a ≤ A) (hb : 0 ≤ b) (hb2 : b ≤ B) : 0 ≤ a * b ∧ a * b ≤ A * B := by
  refine ⟨Int.mul_nonneg ha hb, ?_⟩
  exact Int.mul_le_mul ha2 hb2 hb (by omega)
theorem zi32 {x : Int} (h : -2147483648 ≤ x ∧ x ≤ 2147483647) : (Int32.ofInt x).toInt = x := wr_id h
theorem zi64 {x : Int} (h : -9223372036854775808 ≤ x ∧ x ≤ 9223372036854775807) : (Int64.ofInt x).toInt = x := wrl_id h
theorem zdiv0' {a b : Int} (ha : 0 ≤ a ∧ a ≤ 2147483647) (hb : 1 ≤ b ∧ b ≤ 2147483647) : Int32.ofInt a / Int32.ofInt b = Int32.ofInt (a / b) := by
  apply Int32.toInt_inj.mp
  have h1 : a / b ≤ a := Int.ediv_le_self b ha.1
  have h2 : 0 ≤ a / b := Int.ediv_nonneg ha.1 (by omega)
  have hne : Int32.ofInt b ≠ -1 := by
    intro h
    have := congrArg Int32.toInt h
    rw [zi32 (by omega)] at this
    have e : (-1 : Int32).toInt = -1 := by decide
    omega
  rw [Int32.toInt_div_of_ne_right _ _ hne, zi32 (by omega), zi32 (by omega), zi32 (by omega), Int.tdiv_eq_ediv_of_nonneg ha.1]
theorem zdiv0 {a b : Int} (ha : 0 ≤ a ∧ a ≤ 2147483647 ∧ 1 ≤ b ∧ b ≤ 2147483647) : zdiv 0 a b = a / b := by
  unfold zdiv
  rw [if_pos rfl, zdiv0' (by omega) (by omega)]
  have h1 : a / b ≤ a := Int.ediv_le_self b ha.1
  have h2 : 0 ≤ a / b := Int.ediv_nonneg ha.1 (by omega)
  exact zi32 (by omega)
theorem zdiv1 {a b : Int} (ha : 0 ≤ a ∧ a ≤ 2147483647 ∧ 1 ≤ b ∧ b ≤ 2147483647) : zdiv 1 a b = a % b := by
  unfold zdiv
  rw [if_neg (by decide), zdiv0' (by omega) (by omega), ← Int32.ofInt_mul, ← Int32.ofInt_sub]
  have h0 := Int.emod_def a b
  have h3 : a / b * b = b * (a / b) := Int.mul_comm _ _
  have h1 := Int.emod_nonneg a (b := b) (by omega)
  have h2 := Int.emod_lt_of_pos a (b := b) (by omega)
  rw [h3, ← h0]
  exact zi32 (by omega)
theorem zldiv0' {a b : Int} (ha : 0 ≤ a ∧ a ≤ 9223372036854775807) (hb : 1 ≤ b ∧ b ≤ 9223372036854775807) : Int64.ofInt a / Int64.ofInt b = Int64.ofInt (a / b) := by
  apply Int64.toInt_inj.mp
  have h1 : a / b ≤ a := Int.ediv_le_self b ha.1
  have h2 : 0 ≤ a / b := Int.ediv_nonneg ha.1 (by omega)
  have hne : Int64.ofInt b ≠ -1 := by
    intro h
    have := congrArg Int64.toInt h
    rw [zi64 (by omega)] at this
    have e : (-1 : Int64).toInt = -1 := by decide
    omega
  rw [Int64.toInt_div_of_ne_right _ _ hne, zi64 (by omega), zi64 (by omega), zi64 (by omega), Int.tdiv_eq_ediv_of_nonneg ha.1]
theorem zldiv0 {a b : Int} (ha : 0 ≤ a ∧ a ≤ 9223372036854775807 ∧ 1 ≤ b ∧ b ≤ 9223372036854775807) : zldiv 0 a b = a / b := by
  unfold zldiv
  rw [if_pos rfl, zldiv0' (by omega) (by omega)]
  have h1 : a / b ≤ a := Int.ediv_le_self b ha.1
  have h2 : 0 ≤ a / b := Int.ediv_nonneg ha.1 (by omega)
  exact zi64 (by omega)
theorem zldiv1 {a b : Int} (ha : 0 ≤ a ∧ a ≤ 9223372036854775807 ∧ 1 ≤ b ∧ b ≤ 9223372036854775807) : zldiv 1 a b = a % b := by
  unfold zldiv
  rw [if_neg (by decide), zldiv0' (by omega) (by omega), ← Int64.ofInt_mul, ← Int64.ofInt_sub]
  have h0 := Int.emod_def a b
  have h3 : a / b * b = b * (a / b) := Int.mul_comm _ _
  have h1 := Int.emod_nonneg a (b := b) (by omega)
  have h2 := Int.emod_lt_of_pos a (b := b) (by omega)
  rw [h3, ← h0]
  exact zi64 (by omega)
/-- what a boolean is as a number -/
def bi (b : Bool) : Int := if b then 1 else 0
theorem bi_01 (b : Bool) : (bi b = 0 ∨ bi b = 1) = True := by cases b <;> simp [bi]
theorem bi_0 (b : Bool) : (wr (bi b) = 0) = (b = false) := by cases b <;> simp [bi] <;> decide
theorem bi_n0 (b : Bool) : (¬ wr (bi b) = 0) = (b = true) := by cases b <;> simp [bi] <;> decide
theorem bi_le (b : Bool) : 0 ≤ bi b ∧ bi b ≤ 1 := by cases b <;> simp [bi]
/-! folds -/
def fo {α : Type} (n : Int) (s : α) (step : Int → α → α) : α := Nat.rec (motive := fun _ => α) s (fun k t => step (k : Int) t) n.toNat
theorem fo_0 {α : Type} (s : α) (step : Int → α → α) : fo 0 s step = s := rfl
theorem fo_s {α : Type} {k : Int} (s : α) (step : Int → α → α) (h : 0 ≤ k) : fo (k + 1) s step = step k (fo k s step) := by
  obtain ⟨n, rfl⟩ := Int.eq_ofNat_of_zero_le h
  have e : ((n : Int) + 1).toNat = n + 1 := by omega
  unfold fo
  rw [e]
  show step (n : Int) _ = _
  rfl
theorem fo_congr {α : Type} {s : α} {f g : Int → α → α} {n : Int} (hn : 0 ≤ n) (h : ∀ k t, 0 ≤ k → k < n → f k t = g k t) : fo n s f = fo n s g := by
  obtain ⟨m, rfl⟩ := Int.eq_ofNat_of_zero_le hn
  have key : ∀ q : Nat, q ≤ m → fo (q : Int) s f = fo (q : Int) s g := by
    intro q
    induction q with
    | zero => intro _; rfl
    | succ q ih =>
      intro hq
      have e : ((q + 1 : Nat) : Int) = (q : Int) + 1 := by omega
      rw [e, fo_s s f (by omega), fo_s s g (by omega), ih (by omega), h _ _ (by omega) (by omega)]
  exact key m (Nat.le_refl _)
/-- what holds at first and is kept holds at the end -/
theorem fo_ind {α : Type} {s : α} {f : Int → α → α} {n : Int} (I : Int → α → Prop) (hn : 0 ≤ n) (h0 : I 0 s) (h : ∀ k t, 0 ≤ k → k < n → I k t → I (k + 1) (f k t)) : I n (fo n s f) := by
  obtain ⟨m, rfl⟩ := Int.eq_ofNat_of_zero_le hn
  have key : ∀ q : Nat, q ≤ m → I (q : Int) (fo (q : Int) s f) := by
    intro q
    induction q with
    | zero => intro _; exact h0
    | succ q ih =>
      intro hq
      have e : ((q + 1 : Nat) : Int) = (q : Int) + 1 := by omega
      rw [e, fo_s s f (by omega)]
      exact h _ _ (by omega) (by omega) (ih (by omega))
  exact key m (Nat.le_refl _)
def sm (n : Int) (g : Int → Int) : Int := fo n 0 (fun k t => t + g k)
theorem sm_z (g : Int → Int) : sm 0 g = 0 := rfl
theorem sm_s {k : Int} (g : Int → Int) (h : 0 ≤ k) : sm (k + 1) g = sm k g + g k := fo_s _ _ h
theorem sm_congr {f g : Int → Int} {n : Int} (hn : 0 ≤ n) (h : ∀ k, 0 ≤ k → k < n → f k = g k) : sm n f = sm n g := fo_congr hn (fun k t h1 h2 => by rw [h k h1 h2])
theorem sm_le {g : Int → Int} {n B : Int} (hn : 0 ≤ n) (h : ∀ k, 0 ≤ k → k < n → 0 ≤ g k ∧ g k ≤ B) : 0 ≤ sm n g ∧ sm n g ≤ n * B := by
  refine fo_ind (I := fun k t => 0 ≤ t ∧ t ≤ k * B) hn (by simp) (fun k t h0 h1 hi => ?_)
  have := h k h0 h1
  have e : (k + 1) * B = k * B + B := by rw [Int.add_mul, Int.one_mul]
  omega
theorem sm_pre {g : Int → Int} {n B k : Int} (hk : 0 ≤ k) (hkn : k ≤ n) (hB : 0 ≤ B) (h : ∀ k, 0 ≤ k → k < n → 0 ≤ g k ∧ g k ≤ B) : 0 ≤ sm k g ∧ sm k g ≤ n * B := by
  have h1 := sm_le (g := g) (n := k) (B := B) hk (fun j h0 h1 => h j h0 (by omega))
  have h2 : k * B ≤ n * B := Int.mul_le_mul_of_nonneg_right hkn hB
  omega
theorem sm_term {g : Int → Int} {n : Int} (hn : 0 ≤ n) (h : ∀ k, 0 ≤ k → k < n → 0 ≤ g k) : 0 ≤ sm n g ∧ ∀ k, 0 ≤ k → k < n → g k ≤ sm n g := by
  refine fo_ind (I := fun m t => 0 ≤ t ∧ ∀ k, 0 ≤ k → k < m → g k ≤ t) hn ⟨Int.le_refl _, fun k h0 h1 => by omega⟩ (fun m t h0 h1 hi => ⟨?_, fun k hk hk2 => ?_⟩)
  · have := h m h0 h1
    have := hi.1
    omega
  · have a := h m h0 h1
    by_cases e : k = m
    · subst e; have := hi.1; omega
    · have := hi.2 k hk (by omega); omega
/-- the first of so many from k on -/
def fi (p : Int → Bool) : Int → Nat → Int
  | _, 0 => -1
  | k, m + 1 => if p k then k else fi p (k + 1) m
def first (n : Int) (p : Int → Bool) : Int := fi p 0 n.toNat
theorem fi_congr {p q : Int → Bool} : ∀ (m : Nat) (k : Int), (∀ j, k ≤ j → j < k + m → p j = q j) → fi p k m = fi q k m
  | 0, _, _ => rfl
  | m + 1, k, h => by
    unfold fi
    rw [h k (by omega) (by omega), fi_congr m (k + 1) (fun j h1 h2 => h j (by omega) (by omega))]
theorem fi_range {p : Int → Bool} : ∀ (m : Nat) (k : Int), fi p k m = -1 ∨ (k ≤ fi p k m ∧ fi p k m < k + m ∧ p (fi p k m) = true)
  | 0, _ => Or.inl rfl
  | m + 1, k => by
    unfold fi
    split
    · exact Or.inr ⟨by omega, by omega, by assumption⟩
    · rcases fi_range (p := p) m (k + 1) with h | h
      · exact Or.inl h
      · exact Or.inr ⟨by omega, by omega, h.2.2⟩
theorem first_congr {p q : Int → Bool} {n : Int} (h : ∀ j, 0 ≤ j → j < n → p j = q j) : first n p = first n q := fi_congr _ _ (fun j h1 h2 => h j h1 (by omega))
theorem first_range {p : Int → Bool} {n : Int} (hn : 0 ≤ n) : first n p = -1 ∨ (0 ≤ first n p ∧ first n p < n ∧ p (first n p) = true) := by
  rcases fi_range (p := p) n.toNat 0 with h | h
  · exact Or.inl h
  · refine Or.inr ⟨h.1, ?_, h.2.2⟩
    have := h.2.1
    unfold first
    omega
/-! loops -/
theorem lpQ {P : zP} {α : Type} (f : Int → α → Option (Int × zD P)) (I : Int → α → Prop) {Q : Int → zD P → Prop} (a n : Int) (han : a ≤ n) (s : α) (h0 : I a s) (hend : ∀ t, I n t → Ok (f n t) Q) (hstep : ∀ k t, a ≤ k → k < n → I k t → (∀ t', I (k + 1) t' → Ok (f (k + 1) t') Q) → Ok (f k t) Q) : Ok (f a s) Q := by
  have key : ∀ (m : Nat) (k : Int) (t : α), a ≤ k → k + m = n → I k t → Ok (f k t) Q := by
    intro m
    induction m with
    | zero =>
      intro k t h1 h2 hi
      have e : k = n := by omega
      subst e
      exact hend t hi
    | succ m ih =>
      intro k t h1 h2 hi
      exact hstep k t h1 (by omega) hi (fun t' hi' => ih (k + 1) t' (by omega) (by omega) hi')
  exact key (n - a).toNat a s (Int.le_refl _) (by omega) h0
theorem lpD {P : zP} (f : Int → zD P → Option (Int × zD P)) (I : Int → zD P → Prop) {Q : Int → zD P → Prop} (a n : Int) (han : a ≤ n) (s : zD P) (h0 : I a s) (hend : ∀ t, I n t → Ok (f n t) Q) (hstep : ∀ k t, a ≤ k → k < n → I k t → (∀ t', I (k + 1) t' → Ok (f (k + 1) t') Q) → Ok (f k t) Q) : Ok (f a s) Q := lpQ f I a n han s h0 hend hstep
theorem lpM {P : zP} {α : Type} (f : Int → zD P → α → Option (Int × zD P)) (I : Int → zD P → α → Prop) {Q : Int → zD P → Prop} (a n : Int) (han : a ≤ n) (s : zD P) (x : α) (h0 : I a s x) (hend : ∀ t y, I n t y → Ok (f n t y) Q) (hstep : ∀ k t y, a ≤ k → k < n → I k t y → (∀ t' y', I (k + 1) t' y' → Ok (f (k + 1) t' y') Q) → Ok (f k t y) Q) : Ok (f a s x) Q := lpQ (fun k (t : zD P × α) => f k t.1 t.2) (fun k t => I k t.1 t.2) a n han (s, x) h0 (fun t h => hend t.1 t.2 h) (fun k t h1 h2 h3 h4 => hstep k t.1 t.2 h1 h2 h3 (fun t' y' h => h4 (t', y') h))
/-- a loop over a fold -/
theorem lpA {α β : Type} (f : Int → α → β) (step : Int → α → α) (n : Int) (hn : 0 ≤ n) (s : α) (hstep : ∀ k t, 0 ≤ k → k < n → t = fo k s step → f k t = f (k + 1) (step k t)) : f 0 s = f n (fo n s step) := by
  obtain ⟨m, rfl⟩ := Int.eq_ofNat_of_zero_le hn
  have key : ∀ q : Nat, q ≤ m → f 0 s = f (q : Int) (fo (q : Int) s step) := by
    intro q
    induction q with
    | zero => intro _; rfl
    | succ q ih =>
      intro hq
      have e : ((q + 1 : Nat) : Int) = (q : Int) + 1 := by omega
      rw [ih (by omega), e, fo_s s step (by omega)]
      exact hstep _ _ (by omega) (by omega) rfl
  exact key m (Nat.le_refl _)
theorem lpS {β : Type} (f : Int → Int → β) (g : Int → Int) (n : Int) (hn : 0 ≤ n) (hstep : ∀ k t, 0 ≤ k → k < n → t = sm k g → f k t = f (k + 1) (t + g k)) : f 0 0 = f n (sm n g) := lpA f (fun k t => t + g k) n hn 0 hstep
/-- the first of so many, told at once -/
theorem lpF {β : Type} (f : Int → β) (r : Int → β) (p : Int → Bool) (n : Int) (hend : f n = r (-1)) (hstep : ∀ k, 0 ≤ k → k < n → f k = if p k then r k else f (k + 1)) (hn : 0 ≤ n) : f 0 = r (first n p) := by
  have key : ∀ (m : Nat) (k : Int), 0 ≤ k → k + m = n → f k = r (fi p k m) := by
    intro m
    induction m with
    | zero =>
      intro k h1 h2
      have e : k = n := by omega
      subst e
      exact hend
    | succ m ih =>
      intro k h1 h2
      rw [hstep k h1 (by omega)]
      unfold fi
      split
      · rfl
      · exact ih (k + 1) (by omega) (by omega)
  have := key n.toNat 0 (Int.le_refl _) (by omega)
  exact this
/-! memory -/
def Fr {P : zP} (lo hi : Nat) (d e : zD P) : Prop := ∀ r, (r < lo ∨ hi ≤ r) → e.m r = d.m r
theorem Fr.rf {P : zP} {lo hi : Nat} {d : zD P} : Fr lo hi d d := fun _ _ => rfl
theorem Fr.tr {P : zP} {lo hi : Nat} {a b c : zD P} (h : Fr lo hi a b) (h2 : Fr lo hi b c) : Fr lo hi a c := fun r hr => (h2 r hr).trans (h r hr)
theorem Fr.mo {P : zP} {lo hi lo' hi' : Nat} {a b : zD P} (h : Fr lo hi a b) (h1 : lo' ≤ lo) (h2 : hi ≤ hi') : Fr lo' hi' a b := fun r hr => h r (by omega)
theorem up_ne {P : zP} {d : zD P} {r k r' : Nat} {x : Int} (h : r' ≠ r) : (d.up r k x).m r' = d.m r' := by
  funext k'
  by_cases hz : zcs P r k = none
  · rw [zD.up_m d hz, if_neg (fun q => h q.1)]
  · unfold zD.up
    rw [dif_neg hz]
theorem cp_ne {P : zP} {d : zD P} {r1 r2 a b n r' : Nat} (h : r' ≠ r2) : (d.cp r1 r2 a b n).m r' = d.m r' := by
  funext k'
  by_cases hz : ∀ k, zcs P r2 k = none
  · rw [zD.cp_m d hz, if_neg h]
  · unfold zD.cp
    rw [dif_neg hz]
theorem Fr.up {P : zP} {lo hi : Nat} {a b : zD P} (h : Fr lo hi a b) {r k : Nat} {x : Int} (h1 : lo ≤ r) (h2 : r < hi) : Fr lo hi a (b.up r k x) := fun r' hr => (up_ne (by omega)).trans (h r' hr)
theorem Fr.cp {P : zP} {lo hi : Nat} {a b : zD P} (h : Fr lo hi a b) {r1 r2 x y n : Nat} (h1 : lo ≤ r2) (h2 : r2 < hi) : Fr lo hi a (b.cp r1 r2 x y n) := fun r' hr => (cp_ne (by omega)).trans (h r' hr)
theorem up_ar {P : zP} {d : zD P} {r k : Nat} {x : Int} (h : zkd r = 20 ∨ zkd r = 21 ∨ zkd r = 22) : (d.up r k x).m r = zfu (d.m r) k x := by
  funext k'
  rw [d.up_a h]
  unfold zfu
  simp
theorem up_ob {P : zP} {d : zD P} {r k c : Nat} {x : Int} (h : zkd r = c) (hc : c < 13) (hk : (zol.getD c []).getD k none = none) : (d.up r k x).m r = zfu (d.m r) k x := by
  funext k'
  rw [d.up_o h hc hk]
  unfold zfu
  simp
theorem cp_ar {P : zP} {d : zD P} {r1 r2 a b n : Nat} (h : zkd r2 = 20 ∨ zkd r2 = 21 ∨ zkd r2 = 22) : (d.cp r1 r2 a b n).m r2 = zcp (d.m r1) (d.m r2) a b n := by
  funext k'
  rw [zD.cp_m d (zcs_arr h), if_pos rfl]
theorem zfu_z {f : Nat → Int} {a b v : Int} (h : 0 ≤ a ∧ a ≤ 2147483647 ∧ 0 ≤ b ∧ b ≤ 2147483647) : zfu f (zix a) v (zix b) = if b = a then v else f (zix b) := by
  unfold zfu
  rw [zix_id (by omega), zix_id (by omega)]
  by_cases e : b = a
  · rw [if_pos e, if_pos (by omega)]
  · rw [if_neg e, if_neg (by omega)]
theorem zfu_n {f : Nat → Int} {a b : Nat} {v : Int} : zfu f a v b = if b = a then v else f b := rfl
theorem zfu_next {f : Nat → Int} {k : Int} {g : Int → Int} (h : ∀ i, 0 ≤ i → i < k → f (zix i) = g i) (hk : 0 ≤ k) (hk2 : k ≤ 2147483646) : ∀ i, 0 ≤ i → i < k + 1 → zfu f (zix k) (g k) (zix i) = g i := by
  intro i h0 h1
  rw [zfu_z (by omega)]
  split
  · rename_i e; rw [e]
  · exact h i h0 (by omega)
