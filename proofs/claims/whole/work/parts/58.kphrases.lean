/-! PHRASES: what both tell; the class. -/
def rkX (F : Nat → Int) (p s a b k : Int) : Int := if a + k < b then wrd F p s (a + k) + 1 else 0
def rk (F : Nat → Int) (p s a b : Int) : Int := 41 * (41 * rkX F p s a b 0 + rkX F p s a b 1) + rkX F p s a b 2
def r64 (F : Nat → Int) (p s a b : Int) : Int := 64 * (64 * rkX F p s a b 0 + rkX F p s a b 1) + rkX F p s a b 2
def pk (F : Nat → Int) (p one other : Int) : Int := 68921 * rk F p 0 (sp0 one) (sp1 one) + rk F p 1 (sp0 other) (sp1 other)
noncomputable def bgO (F : Nat → Int) (s : Int → Int) (l m p one n x : Int) : Int := sm n (fun other => bi (bxo s l m one other && decide (pk F p one other = x)))
noncomputable def bgN (F : Nat → Int) (s : Int → Int) (l m p n x : Int) : Int := sm n (fun one => bgO F s l m p one 18 x)
noncomputable def bgF (F : Nat → Int) (kind n x : Int) : Int := sm n (fun p => bgN F (lk F kind p) (lng F p 0) (lng F p 1) p 18 x)
noncomputable def ttF (F : Nat → Int) (kind n : Int) : Int := sm n (fun p => bxN (lk F kind p) (lng F p 0) (lng F p 1) 18)
theorem pha_at {f : Int → Int} {q r : Int} (h0 : 0 ≤ r) (h1 : r < 41) : pha f (41 * q + r) = 64 * f q + r := by
  unfold pha
  rw [show (41 * q + r) / 41 = q by omega, show (41 * q + r) % 41 = r by omega]
  omega
theorem ph6_pk {F : Nat → Int} {p a b c e : Int} (h : ∀ k, 0 ≤ k → k < 3 → (0 ≤ rkX F p 0 a b k ∧ rkX F p 0 a b k < 41) ∧ (0 ≤ rkX F p 1 c e k ∧ rkX F p 1 c e k < 41)) : ph6 (68921 * rk F p 0 a b + rk F p 1 c e) = r64 F p 0 a b * 262144 + r64 F p 1 c e := by
  have h0 := h 0 (by omega) (by omega)
  have h1 := h 1 (by omega) (by omega)
  have h2 := h 2 (by omega) (by omega)
  unfold ph6 rk r64
  generalize rkX F p 0 a b 0 = x0 at *
  generalize rkX F p 0 a b 1 = x1 at *
  generalize rkX F p 0 a b 2 = x2 at *
  generalize rkX F p 1 c e 0 = y0 at *
  generalize rkX F p 1 c e 1 = y1 at *
  generalize rkX F p 1 c e 2 = y2 at *
  rw [show 68921 * (41 * (41 * x0 + x1) + x2) + (41 * (41 * y0 + y1) + y2) = 41 * (41 * (41 * (41 * (41 * x0 + x1) + x2) + y0) + y1) + y2 by omega]
  rw [pha_at h2.2.1 h2.2.2, pha_at h1.2.1 h1.2.2, pha_at h0.2.1 h0.2.2, pha_at h2.1.1 h2.1.2, pha_at h1.1.1 h1.1.2]
  omega
theorem lor_add {t w q : Int} {k : Nat} (ht : 0 ≤ t) (hk : k < 64) (hq : q = 2 ^ k) (hw : 0 ≤ w) (hw2 : w < q) (hb : t * q + w < 9223372036854775808) : zlbin 4 (zlsh 0 t (k : Int)) w = t * q + w := by
  obtain ⟨a, rfl⟩ := Int.eq_ofNat_of_zero_le ht
  obtain ⟨b, rfl⟩ := Int.eq_ofNat_of_zero_le hw
  have e : ((2 ^ k : Nat) : Int) = 2 ^ k := by simp
  rw [hq, ← e] at hb hw2 ⊢
  have e2 : ((a * 2 ^ k : Nat) : Int) = (a : Int) * ((2 ^ k : Nat) : Int) := by simp
  have s : a <<< k = a * 2 ^ k := Nat.shiftLeft_eq a k
  rw [l0 hk (by rw [s]; omega), l4 (by rw [s]; omega) (by omega), ← Nat.shiftLeft_add_eq_or_of_lt (by omega) a, s]
  omega
theorem lsh_mul {t q : Int} {k : Nat} (ht : 0 ≤ t) (hk : k < 64) (hq : q = 2 ^ k) (hb : t * q < 9223372036854775808) : zlsh 0 t (k : Int) = t * q := by
  obtain ⟨a, rfl⟩ := Int.eq_ofNat_of_zero_le ht
  have e : ((2 ^ k : Nat) : Int) = 2 ^ k := by simp
  rw [hq, ← e] at hb ⊢
  have e2 : ((a * 2 ^ k : Nat) : Int) = (a : Int) * ((2 ^ k : Nat) : Int) := by simp
  have s : a <<< k = a * 2 ^ k := Nat.shiftLeft_eq a k
  rw [l0 hk (by rw [s]; omega), s]
  omega
theorem rkX_le {F : Nat → Int} (hw : WF F) {p s a b k : Int} (h1 : 0 ≤ p) (h2 : p < prs F) (h3 : 0 ≤ s) (h4 : s < 2) (h5 : 0 ≤ a) (h6 : b ≤ lng F p s) (h7 : 0 ≤ k) : 0 ≤ rkX F p s a b k ∧ rkX F p s a b k < 41 := by
  unfold rkX
  split
  · have a1 := hw.wrd_ h1 h2 h3 h4 (i := a + k) (by omega) (by omega)
    have a2 := hw.wds_ h3 h4
    omega
  · omega
theorem bxo_in {s : Int → Int} {l m one other : Int} (h : bxo s l m one other = true) : sp1 one ≤ l ∧ sp1 other ≤ m := by
  unfold bxo at h
  simp only [Bool.and_eq_true, decide_eq_true_eq] at h
  exact ⟨h.1, h.2.1⟩
theorem z15 : sm 18 (fun k => bi (decide (sp1 k ≤ 6))) = 15 := by decide +kernel
theorem bxI_15 {s : Int → Int} {l m one : Int} (hm : m ≤ 6) : bxI s l m one 18 ≤ 15 := by
  have := (sm_all (f := fun other => bi (bxo s l m one other)) (g := fun k => bi (decide (sp1 k ≤ 6))) (n := 18) (by omega) (fun k _ _ => by
    (try dsimp only)
    cases hb : bxo s l m one k
    · exact (bi_le _).1
    · rw [decide_eq_true (by have := (bxo_in hb).2; omega)]; exact Int.le_refl _)).1
  rw [z15] at this
  exact this
theorem z225 : sm 18 (fun k => 15 * bi (decide (sp1 k ≤ 6))) = 225 := by decide +kernel
theorem bxN_225 {s : Int → Int} {l m : Int} (hl : l ≤ 6) (hm : m ≤ 6) : bxN s l m 18 ≤ 225 := by
  have := (sm_all (f := fun one => bxI s l m one 18) (g := fun k => 15 * bi (decide (sp1 k ≤ 6))) (n := 18) (by omega) (fun k _ _ => by
    (try dsimp only)
    by_cases c : sp1 k ≤ 6
    · rw [decide_eq_true c]; exact bxI_15 hm
    · have z : bxI s l m k 18 = 0 := sm_skip (k := 0) (n := 18) (by omega) (by omega) (fun j _ _ => by rw [bxo_i (by omega)]; rfl)
      rw [z]
      have := bi_le (decide (sp1 k ≤ 6))
      omega)).1
  rw [z225] at this
  exact this
theorem ttF_le {F : Nat → Int} (hw : WF F) {kind n : Int} (hn : 0 ≤ n) (hn2 : n ≤ prs F) : 0 ≤ ttF F kind n ∧ ttF F kind n ≤ n * 225 := by
  refine sm_le hn (fun p p0 p1 => ?_)
  have l0 := hw.lng_ p0 (by omega : p < prs F) (s := 0) (by omega) (by omega)
  have l1 := hw.lng_ p0 (by omega : p < prs F) (s := 1) (by omega) (by omega)
  exact ⟨(bxN_le (by omega)).1, bxN_225 l0.2 l1.2⟩
section
variable {P : zP} {d : zD P} {F : Nat → Int}
theorem k_rowIn (h : CA d F) {p s span : Int} (h1 : 0 ≤ p) (h2 : p < prs F) (h3 : 0 ≤ s) (h4 : s < 2) (h5 : 0 ≤ span) (h6 : span < 18) (h7 : sp1 span ≤ lng F p s) : ph_rowIn d s p span = some (r64 F p s (sp0 span) (sp1 span), d) := by
  have e0 : zdiv 0 span 3 = sp0 span := zdiv0 (by omega)
  have e1 : zdiv 1 span 3 = span % 3 := zdiv1 (by omega)
  have e2 : sp0 span + span % 3 + 1 = sp1 span := rfl
  have s0 : 0 ≤ sp0 span ∧ sp0 span ≤ 5 := by unfold sp0; omega
  have s1 : sp0 span < sp1 span := by unfold sp0 sp1; omega
  have l := h.wf.lng_ h1 h2 h3 h4
  have q := h.wf.wds_ h3 h4
  have b0 := rkX_le h.wf h1 h2 h3 h4 s0.1 h7 (k := 0) (by omega)
  have b1 := rkX_le h.wf h1 h2 h3 h4 s0.1 h7 (k := 1) (by omega)
  have b2 := rkX_le h.wf h1 h2 h3 h4 s0.1 h7 (k := 2) (by omega)
  have one : ∀ (k t : Int) (g8 : zV), 0 ≤ k → k < 3 → 0 ≤ t → t < 4096 → ph_rowIn_10 d (2, ((122 : Nat) : Int)) s p (0, span) (sp0 span) (sp1 span) t g8 k = ph_rowIn_10 d (2, ((122 : Nat) : Int)) s p (0, span) (sp0 span) (sp1 span) (64 * t + rkX F p s (sp0 span) (sp1 span) k) (3, 0) (k + 1) := by
    intro k t g8 k0 k1 t0 t1
    rw [ph_rowIn_10_e]
    unfold rkX
    by_cases c : sp0 span + k < sp1 span
    · have w := h.wf.wrd_ h1 h2 h3 h4 (i := sp0 span + k) (by omega) (by omega)
      have la := lor_add (t := t) (w := wrd F p s (sp0 span + k) + 1) (q := 64) (k := 6) t0 (by omega) rfl (by omega) (by omega) (by omega)
      rw [show (((6 : Nat) : Int)) = 6 from rfl] at la
      rw [if_pos c]
      simp (disch := omega) only [↓reduceIte, zinT, wr_id, wrl_id, ltT, ltF, leT, leF, eqT, eqF, ne_eq, not_true_eq_false, not_false_eq_true, Option.bind_some, Ok_some, bi_0, bi_n0, bi_01, k_wordAt h, la]
      rw [Int.mul_comm]
    · have la := lsh_mul (t := t) (q := 64) (k := 6) t0 (by omega) rfl (by omega)
      rw [show (((6 : Nat) : Int)) = 6 from rfl] at la
      rw [if_neg c]
      simp (disch := omega) only [↓reduceIte, zinT, wr_id, wrl_id, ltT, ltF, leT, leF, eqT, eqF, ne_eq, not_true_eq_false, not_false_eq_true, Option.bind_some, Ok_some, bi_0, bi_n0, bi_01, la]
      rw [Int.mul_comm, Int.add_zero]
  rw [ph_rowIn_e, li_spanStart_e]
  simp (disch := omega) only [↓reduceIte, zinT, wr_id, wrl_id, ltT, ltF, leT, leF, eqT, eqF, ne_eq, not_true_eq_false, not_false_eq_true, Option.bind_some, Ok_some, bi_0, bi_n0, bi_01, li_spanEnd_e, e0, e1, e2]
  rw [one 0 0 _ (by omega) (by omega) (by omega) (by omega), show 64 * 0 + rkX F p s (sp0 span) (sp1 span) 0 = rkX F p s (sp0 span) (sp1 span) 0 by omega, show (0 : Int) + 1 = 1 by omega, one 1 _ _ (by omega) (by omega) (by omega) (by omega), show (1 : Int) + 1 = 2 by omega, one 2 _ _ (by omega) (by omega) (by omega) (by omega), show (2 : Int) + 1 = 3 by omega, ph_rowIn_10_e]
  simp (disch := omega) only [↓reduceIte, zinT, wr_id, wrl_id, ltT, ltF, leT, leF, eqT, eqF, ne_eq, not_true_eq_false, not_false_eq_true, Option.bind_some, Ok_some, bi_0, bi_n0, bi_01, if_true]
  rfl
/-- the class's table -/
def pM (t : zD P) (K B : Int → Int) (n : Int) : Prop := t.m 122 2 = n ∧ (∀ k, 0 ≤ k → k < n → t.m 123 (zix k) = ph6 (K k) ∧ 0 ≤ K k ∧ K k < 4750104241) ∧ ∀ k, 0 ≤ k → k < n → t.m 124 (zix k) = B k
theorem k_placeFor {K B : Int → Int} {n x : Int} (h : pM d K B n) (hn : 0 ≤ n) (hn2 : n ≤ 5400) (hs : ∀ i j, 0 ≤ i → i < j → j < n → K i < K j) (hx : 0 ≤ x) (hx2 : x < 4750104241) : Ok (ph_placeFor d (ph6 x)) (fun v d' => d' = d ∧ 0 ≤ v ∧ v ≤ n ∧ (∀ k, 0 ≤ k → k < v → K k < x) ∧ ∀ k, v ≤ k → k < n → x ≤ K k) := by
  have hpx := ph6_le hx hx2
  rw [ph_placeFor_e, h.1]
  refine lpQ (fun step (y : zV × Int × Int × zV) => ph_placeFor_7 d (ph6 x) y.1 y.2.1 y.2.2.1 step y.2.2.2) (fun step y => 0 ≤ y.2.1 ∧ y.2.1 ≤ y.2.2.1 ∧ y.2.2.1 ≤ n ∧ (∀ k, 0 ≤ k → k < y.2.1 → K k < x) ∧ (∀ k, y.2.2.1 ≤ k → k < n → x ≤ K k) ∧ (y.2.2.1 - y.2.1).toNat < 2 ^ (13 - step.toNat)) 0 13 (by omega) ((3, 0), 0, n, (3, 0)) ⟨Int.le_refl _, hn, Int.le_refl _, fun k a b => by (try dsimp only at b); omega, fun k a b => by (try dsimp only at a); omega, by
    have : 2 ^ (13 - (0 : Int).toNat) = 8192 := rfl
    (try dsimp only)
    omega⟩ (fun y hy => ?_) (fun step y h0 h1 hy hnext => ?_)
  · obtain ⟨g, lo, hi, g'⟩ := y
    (try dsimp only at hy ⊢)
    have : 2 ^ (13 - (13 : Int).toNat) = 1 := rfl
    have e : lo = hi := by omega
    rw [ph_placeFor_7_e, wr_id (x := hi) (by omega), wr_id (x := lo) (by omega), if_pos (by omega)]
    exact Ok_ret ⟨rfl, hy.1, by omega, hy.2.2.2.1, by rw [e]; exact hy.2.2.2.2.1⟩
  · obtain ⟨g, lo, hi, g'⟩ := y
    (try dsimp only at hy ⊢)
    obtain ⟨a1, a2, a3, a4, a5, a6⟩ := hy
    rw [ph_placeFor_7_e]
    by_cases c : hi ≤ lo
    · have e : lo = hi := by omega
      rw [wr_id (x := hi) (by omega), wr_id (x := lo) (by omega), if_pos c]
      exact Ok_ret ⟨rfl, a1, by omega, a4, by rw [e]; exact a5⟩
    · have em : zdiv 0 (lo + hi) 2 = (lo + hi) / 2 := zdiv0 (by omega)
      obtain ⟨md, hmd⟩ : ∃ md : Int, md = (lo + hi) / 2 := ⟨_, rfl⟩
      rw [← hmd] at em
      have hm2 : lo ≤ md ∧ md < hi := by omega
      have r := h.2.1 md (by omega) (by omega)
      have rp := ph6_le r.2.1 r.2.2
      have pw : 2 ^ (13 - step.toNat) = 2 * 2 ^ (13 - (step + 1).toNat) := by
        rw [show 13 - step.toNat = (13 - (step + 1).toNat) + 1 by omega, Nat.pow_succ, Nat.mul_comm]
      have mono := (ph6_lt r.2.1 hx).1
      have mono2 := (ph6_lt hx r.2.1).1
      simp (disch := omega) only [↓reduceIte, zinT, wr_id, wrl_id, ltT, ltF, leT, leF, eqT, eqF, ne_eq, not_true_eq_false, not_false_eq_true, Option.bind_some, Ok_some, bi_0, bi_n0, bi_01, em, r.1]
      by_cases c2 : ph6 x ≤ ph6 (K md)
      · rw [if_pos c2]
        refine hnext (_, _, _, _) ⟨a1, by (try dsimp only); omega, by (try dsimp only); omega, a4, fun k k0 k1 => ?_, by (try dsimp only); omega⟩
        (try dsimp only at k0)
        have : x ≤ K md := by
          refine Classical.byContradiction (fun hc => ?_)
          have := mono.mpr (by omega); omega
        by_cases e : k = md
        · rw [e]; exact this
        · have := hs md k (by omega) (by omega) k1; omega
      · rw [if_neg c2]
        refine hnext (_, _, _, _) ⟨by (try dsimp only); omega, by (try dsimp only); omega, a3, fun k k0 k1 => ?_, a5, by (try dsimp only); omega⟩
        (try dsimp only at k1)
        have : K md < x := mono.mp (by omega)
        by_cases e : k = md
        · rw [e]; exact this
        · have := hs k md k0 (by omega) (by omega); omega
theorem zcp_z {f : Nat → Int} {a n k : Int} (h0 : 0 ≤ a) (h1 : a ≤ n) (h2 : n ≤ 5400) (k0 : 0 ≤ k) (k1 : k ≤ 5400) : zcp f f (zix a) (zix (a + 1)) (zix (n - a)) (zix k) = if a + 1 ≤ k ∧ k < n + 1 then f (zix (k - 1)) else f (zix k) := by
  unfold zcp
  rw [zix_id (x := a) (by omega), zix_id (x := a + 1) (by omega), zix_id (x := n - a) (by omega), zix_id (x := k) (by omega), zix_id (x := k - 1) (by omega)]
  by_cases c : a + 1 ≤ k ∧ k < n + 1
  · rw [if_pos c, if_pos (by omega)]
    congr 1
    omega
  · rw [if_neg c, if_neg (by omega)]
theorem k_insert {K B bag : Int → Int} {n x : Int} (h : pM d K B n) (hn2 : n < 5400) (hT : Tab K B n bag) (hx : 0 ≤ x) (hx2 : x < 4750104241) : Ok (ph_insert d (ph6 x)) (fun _ d' => Fr 122 125 d d' ∧ ∃ K' B' n', n' ≤ n + 1 ∧ pM d' K' B' n' ∧ Tab K' B' n' (bag1 bag x)) := by
  have hn := hT.1
  have hpx := ph6_le hx hx2
  have e2 := h.1
  rw [ph_insert_e]
  refine Ok_bind (k_placeFor h hn (by omega) hT.2.1 hx hx2) (fun a d' f => ?_)
  obtain ⟨rfl, a0, a1, al, ag⟩ := f
  have z1 : (zix a + zix (n - a) ≤ 5400) = True := eq_true (by rw [zix_id (by omega), zix_id (by omega)]; omega)
  have z2 : (zix (a + 1) + zix (n - a) ≤ 5400) = True := eq_true (by rw [zix_id (by omega), zix_id (by omega)]; omega)
  have shift : (∀ k, a ≤ k → k < n → x < K k) → ∀ D : zD P, D = ((((d'.cp 123 123 (zix a) (zix (a + 1)) (zix (n - a))).cp 124 124 (zix a) (zix (a + 1)) (zix (n - a))).up 123 (zix a) (ph6 x)).up 124 (zix a) 1).up 122 2 (n + 1) → Fr 122 125 d' D ∧ ∃ K' B' n', n' ≤ n + 1 ∧ pM D K' B' n' ∧ Tab K' B' n' (bag1 bag x) := by
    intro hg D hD
    subst hD
    refine ⟨((((Fr.rf.cp (by omega) (by omega)).cp (by omega) (by omega)).up (by omega) (by omega)).up (by omega) (by omega)).up (by omega) (by omega), ins K a x, ins B a 1, n + 1, Int.le_refl _, ⟨by rw [u_122_2]; rfl, fun k k0 k1 => ?_, fun k k0 k1 => ?_⟩, Tab_ins hT a0 a1 al hg⟩
    · rw [up_ne (by omega), up_ne (by omega), u_123, zfu_z (by omega), cp_ne (by omega), v_123, zcp_z a0 a1 (by omega) k0 (by omega)]
      unfold ins
      by_cases c1 : k = a
      · rw [if_pos c1, if_neg (by omega), if_pos c1]
        exact ⟨rfl, hx, hx2⟩
      · rw [if_neg c1]
        by_cases c2 : k < a
        · rw [if_neg (by omega), if_pos c2]
          exact h.2.1 k k0 (by omega)
        · rw [if_pos (by omega), if_neg c2, if_neg c1]
          exact h.2.1 (k - 1) (by omega) (by omega)
    · rw [up_ne (by omega), u_124, zfu_z (by omega), up_ne (by omega), v_124, cp_ne (by omega), zcp_z a0 a1 (by omega) k0 (by omega)]
      unfold ins
      by_cases c1 : k = a
      · rw [if_pos c1, if_neg (by omega), if_pos c1]
      · rw [if_neg c1]
        by_cases c2 : k < a
        · rw [if_neg (by omega), if_pos c2]
          exact h.2.2 k k0 (by omega)
        · rw [if_pos (by omega), if_neg c2, if_neg c1]
          exact h.2.2 (k - 1) (by omega) (by omega)
  by_cases c : n ≤ a
  · simp (disch := omega) only [↓reduceIte, zinT, wr_id, wrl_id, ltT, ltF, leT, leF, eqT, eqF, ne_eq, not_true_eq_false, not_false_eq_true, Option.bind_some, Ok_some, bi_0, bi_n0, bi_01, e2, up_ne, cp_ne, z1, z2, and_true, true_and, and_self]
    exact shift (fun k k0 k1 => by omega) _ rfl
  · have r := h.2.1 a a0 (by omega)
    have rb := h.2.2 a a0 (by omega)
    have rp := ph6_le r.2.1 r.2.2
    have eqv := (ph6_lt r.2.1 hx).2
    by_cases c2 : K a = x
    · have c3 : ph6 (K a) = ph6 x := by rw [c2]
      simp (disch := omega) only [↓reduceIte, zinT, wr_id, wrl_id, ltT, ltF, leT, leF, eqT, eqF, ne_eq, not_true_eq_false, not_false_eq_true, Option.bind_some, Ok_some, bi_0, bi_n0, bi_01, e2, r.1, c3]
      refine ⟨Fr.rf.up (by omega) (by omega), K, fun k => if k = a then B k + 1 else B k, n, by omega, ⟨by rw [up_ne (by omega)]; exact e2, fun k k0 k1 => by rw [up_ne (by omega)]; exact h.2.1 k k0 k1, fun k k0 k1 => ?_⟩, Tab_inc hT a0 (by omega) c2⟩
      rw [u_124, zfu_z (by omega)]
      (try dsimp only)
      by_cases e : k = a
      · rw [if_pos e, if_pos e, rb, e]
      · rw [if_neg e, if_neg e]; exact h.2.2 k k0 k1
    · have c3 : ph6 (K a) ≠ ph6 x := fun e => c2 (eqv.mp e)
      simp (disch := omega) only [↓reduceIte, zinT, wr_id, wrl_id, ltT, ltF, leT, leF, eqT, eqF, ne_eq, not_true_eq_false, not_false_eq_true, Option.bind_some, Ok_some, bi_0, bi_n0, bi_01, e2, r.1, up_ne, cp_ne, z1, z2, and_true, true_and, and_self]
      refine shift (fun k k0 k1 => ?_) _ rfl
      have g := ag k k0 k1
      by_cases e : k = a
      · rw [e]; have := ag a (Int.le_refl _) (by omega); omega
      · have := hT.2.1 a k a0 (by omega) k1
        have := ag a (Int.le_refl _) (by omega)
        omega
end
