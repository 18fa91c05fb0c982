/-! OVER, the class whole. -/
theorem ciO_find {K k : Int → Int} : ∀ (N : Nat) (x : Int), 0 ≤ x → x < ciO K k N → ∃ j y : Int, 0 ≤ j ∧ j < N ∧ 0 ≤ y ∧ y < wl1 K (k (psO K k j)) ∧ x = ciO K k j + y
  | 0, x, x0, x1 => by
    have : ciO K k ((0 : Nat) : Int) = 0 := rfl
    omega
  | N + 1, x, x0, x1 => by
    have e : ((N + 1 : Nat) : Int) = (N : Int) + 1 := by omega
    rw [e, ciO_s (by omega)] at x1
    by_cases c : x < ciO K k N
    · obtain ⟨j, y, j0, j1, h⟩ := ciO_find N x x0 c
      exact ⟨j, y, j0, by omega, h⟩
    · exact ⟨N, x - ciO K k N, by omega, by omega, by omega, by omega, by omega⟩
def ovC (T kind n w : Int) : Prop := (w = 0 ∨ w = 1 ∨ w = 2 ∨ (10 ≤ w ∧ w ≤ 17) ∨ (100 ≤ w ∧ w ≤ 123)) ∧ (0 ≤ kind ∧ kind ≤ 5) ∧ (1 ≤ n ∧ n ≤ 80) ∧ n ≤ T
/-- said words by number, and how many -/
def sdW (F : Nat → Int) (H : Int → Int) (i : Int) : Int := nuW F 0 (kyW H (wst H 0 i))
def sdN (H : Int → Int) : Int := (sen H 8 0 0).2.2
def ovR (F : Nat → Int) (B : Int → Int) (kind n w v : Int) : Prop := (svd (cutB B n) F n 8 0 = true → ovW F kind (sdW F (cutB B n)) (sdN (cutB B n)) w v) ∧ (svd (cutB B n) F n 8 0 ≠ true → v = -2)
section
variable {P : zP} {d t : zD P} {F : Nat → Int}
def kOv : Nat → Prop := fun r => r = 11 ∨ (97 ≤ r ∧ r < 103) ∨ (115 ≤ r ∧ r < 132)
/-- what is read of the putter -/
theorem k_overA {K B : Int → Int} {n L kind w : Int} {W : Int → Int} {s u : zD P} (hT : phT F kind K B n) (hL0 : 0 ≤ L) (hL8 : L ≤ 8) (ho : oK s K B n W L (-1)) (hu : wkJ K (fun j => s.m 129 (zix j)) s u (s.m 128 (zix 0)) 0 (s.m 128 (zix 0))) (hw : w = 0 ∨ w = 1 ∨ w = 2 ∨ (10 ≤ w ∧ w ≤ 17) ∨ (100 ≤ w ∧ w ≤ 123)) (a4 a5 : Int) (h4 : a4 = if 10 ≤ w ∧ w ≤ 17 then 1 else 0) (h5 : a5 = if 100 ≤ w then 1 else 0) : Ok (if wr a4 = 0 then (if wr a5 = 0 then (if wr w = 0 then ((pu_wholeCost u).bind fun q8 => some (q8.1, q8.2)) else (if wr w = 1 then some ((u.m 125 7), u) else some ((u.m 125 8), u))) else (if wr (u.m 125 8) ≤ wr (w - 100) then some (-4, u) else (if zin (w - 100) 24 then some (u.m 131 (zix (w - 100)), u) else none))) else (if wr (u.m 125 7) ≤ wr (w - 10) then some (-4, u) else (if zin (w - 10) 8 then some (u.m 130 (zix (w - 10)), u) else none))) (fun v s' => s' = u ∧ ovW F kind W L w v) := by
  have zz : wr 0 = 0 := rfl
  have oz : ¬ wr 1 = 0 := by rw [wr_id (by omega)]; omega
  obtain ⟨hT1, hT2⟩ := ho
  have p0 := hT2 0 (by omega) hL0
  have e127 : u.m 127 = s.m 127 := hu.1.1 127 (by decide) (by decide) (by decide)
  have pos : ∀ v, ovV K (fun j => s.m 127 (zix j)) (fun j => s.m 128 (zix j)) (fun j => s.m 129 (zix j)) w v → ovW F kind W L w v := fun v hv => ⟨K, B, n, _, _, _, hT, hT1, hT2, hv⟩
  (try dsimp only at p0)
  have cN := ciO_le (K := K) (k := fun j => s.m 129 (zix j)) (j := s.m 128 (zix 0)) p0.2.1
  have h8 := hu.2.1.1
  have h7 := hu.2.2.1
  by_cases c4 : 10 ≤ w ∧ w ≤ 17
  · rw [if_pos c4] at h4
    rw [h4, if_neg oz, h7]
    by_cases c : s.m 128 (zix 0) ≤ w - 10
    · rw [if_pos (by rw [wr_id (by omega), wr_id (by omega)]; exact c)]
      refine Ok_ret ⟨rfl, pos _ ?_⟩
      unfold ovV
      (try dsimp only)
      rw [if_neg (by omega), if_neg (by omega), if_neg (by omega), if_pos (by omega), if_neg (by omega)]
    · have z8 : zin (w - 10) 8 := of_eq_true (zinT (by omega))
      rw [if_neg (by rw [wr_id (by omega), wr_id (by omega)]; exact c), if_pos z8, hu.2.2.2 (w - 10) (by omega) (by omega)]
      refine Ok_ret ⟨rfl, pos _ ?_⟩
      unfold ovV
      (try dsimp only)
      rw [if_neg (by omega), if_neg (by omega), if_neg (by omega), if_pos (by omega), if_pos (by omega)]
  · rw [if_neg c4] at h4
    rw [h4, if_pos zz]
    by_cases c5 : 100 ≤ w
    · rw [if_pos c5] at h5
      rw [h5, if_neg oz, h8]
      by_cases c : ciO K (fun j => s.m 129 (zix j)) (s.m 128 (zix 0)) + 0 ≤ w - 100
      · rw [if_pos (by rw [wr_id (by omega), wr_id (by omega)]; exact c)]
        refine Ok_ret ⟨rfl, pos _ ?_⟩
        unfold ovV
        (try dsimp only)
        rw [if_neg (by omega), if_neg (by omega), if_neg (by omega), if_neg (by omega), if_neg (by omega)]
      · have z24 : zin (w - 100) 24 := of_eq_true (zinT (by omega))
        have e : ((s.m 128 (zix 0)).toNat : Int) = s.m 128 (zix 0) := by omega
        obtain ⟨j, y, j0, j1, y0, y1, hx⟩ := ciO_find (K := K) (k := fun j => s.m 129 (zix j)) (s.m 128 (zix 0)).toNat (w - 100) (by omega) (by rw [e]; omega)
        rw [e] at j1
        have r := hu.2.1.2.1 j y j0 j1 y0 y1
        rw [← hx] at r
        rw [if_neg (by rw [wr_id (by omega), wr_id (by omega)]; exact c), if_pos z24, r]
        refine Ok_ret ⟨rfl, pos _ ?_⟩
        unfold ovV
        (try dsimp only)
        rw [if_neg (by omega), if_neg (by omega), if_neg (by omega), if_neg (by omega), if_pos (by omega)]
        exact ⟨j, y, j0, j1, y0, y1, hx, rfl⟩
    · rw [if_neg c5] at h5
      rw [h5, if_pos zz, wr_id (by omega)]
      by_cases w0 : w = 0
      · have z9 : zin 0 9 := of_eq_true (zinT (by omega))
        rw [if_pos w0, pu_wholeCost_e, if_pos z9, Option.bind_some, e127]
        refine Ok_ret ⟨rfl, pos _ ?_⟩
        unfold ovV
        (try dsimp only)
        rw [if_pos w0]
      · rw [if_neg w0]
        by_cases w1 : w = 1
        · rw [if_pos w1, h7]
          refine Ok_ret ⟨rfl, pos _ ?_⟩
          unfold ovV
          (try dsimp only)
          rw [if_neg w0, if_pos w1]
        · rw [if_neg w1, h8]
          refine Ok_ret ⟨rfl, pos _ ?_⟩
          unfold ovV
          (try dsimp only)
          rw [if_neg w0, if_neg w1, if_pos (by omega)]
          exact Int.add_zero _
theorem k_over31 (hc : CI d F) {B : Int → Int} {T kind n w : Int} (h : TQ d B T) (hC : ovC T kind n w) (a4 a5 : Int) (g6 : zV) (h4 : a4 = if 10 ≤ w ∧ w ≤ 17 then 1 else 0) (h5 : a5 = if 100 ≤ w then 1 else 0) : Ok (wl_over_31 d kind n w a4 a5 g6) (fun v s => ovR F B kind n w v ∧ Fx kOv d s ∧ s.m 11 1 = 0) := by
  have zz : wr 0 = 0 := rfl
  have oz : ¬ wr 1 = 0 := by rw [wr_id (by omega)]; omega
  obtain ⟨hw0, hk, hn, hnT⟩ := hC
  have hT := h.2.2.1
  have hw := hc.wf
  have hv := hw.vw (s := 0) (by omega) (by omega)
  have sg := cutB_s h.n (n := n) (by omega) hnT
  rw [wl_over_31_e, kw_isKind (by unfold I32; omega), bi_t hk, Option.bind_some]
  (try dsimp only)
  rw [if_neg oz, wr_id (by omega), wr_id (by omega), wr_id (by omega), if_neg (by omega), if_neg (by omega), k_holds h.1 hT (by unfold I32; omega), bi_t hnT, Option.bind_some]
  (try dsimp only)
  rw [if_pos oz]
  refine Ok_bind (k_readRow h.1 (cutB_k h hnT) sg hnT hT.2) (fun v s f => ?_)
  obtain ⟨u, e, fu, hu1, hu3, hu4⟩ := k_clear (t := s)
  (try dsimp only)
  rw [e, Option.bind_some]
  (try dsimp only)
  have s0 := sen_0 (q := 0) sg 8 (by omega) sg.2.2.1
  have sv := svd_ok (F := F) (q := 0) sg 8 0 (by omega) (by rw [wst_0]; omega) (by rw [wst_0]; exact sg.2.2.1)
  rw [wst_0] at sv
  have fx : Fx kOv d u := (f.1.mo (fun r hr => by unfold t2S bS at hr; unfold kOv; omega)).tr (fu.mo (fun r hr => Or.inl hr))
  by_cases cg1 : (sen (cutB B n) 8 0 0).1 = 0 ∧ (sen (cutB B n) 8 0 0).2.1 = n
  · have ho := (f.2.2.2 cg1.1).fx fu (by decide) (by decide) (by decide)
    have s2 := s0.2 cg1.1
    have ca : CA u F := hc.ca.fr (fun r r0 r1 => fx r (by unfold kOv; omega))
    rw [f.2.2.1, bi_t cg1, if_neg oz]
    have kyb : ∀ i, 0 ≤ i → i < (sen (cutB B n) 8 0 0).2.2 → 0 ≤ kyW (cutB B n) (wst (cutB B n) 0 i) ∧ kyW (cutB B n) (wst (cutB B n) 0 i) < 34359738368 := fun i i0 i1 => kyW_b (by have := (s2.2.1 i i0 i1).2; omega)
    refine Ok_bind (k_take ca ho (by omega) kyb) (fun v2 s2' f2 => ?_)
    (try dsimp only)
    have fx2 : Fx kOv d s2' := fx.tr (f2.1.mo (fun r hr => by unfold kOv; omega))
    rcases f2.2.2 with ⟨rfl, hall⟩ | ⟨rfl, hno⟩
    · rw [if_pos oz]
      have good : svd (cutB B n) F n 8 0 = true := sv.mpr ⟨cg1.1, cg1.2, fun i i0 i1 => (hall i i0 i1).1⟩
      have ci : CI s2' F := hc.fr (fun r r0 r1 => fx2 r (by unfold kOv; omega))
      refine Ok_bind (k_phFill ci hk.1 hk.2) (fun v3 s3 f3 => ?_)
      obtain ⟨f3a, K, B', n', n54, hpm, htab⟩ := f3
      have hphT : phT F kind K B' n' := ⟨n54, htab⟩
      have op : oP s3 K B' n' (sdW F (cutB B n)) (sdN (cutB B n)) := by
        refine ⟨hpm, by rw [f3a 125 (by omega)]; exact f2.2.1, fun i i0 i1 => ?_⟩
        have hi := hall i i0 i1
        have nl := nuW_le (F := F) (s := 0) (K := kyW (cutB B n) (wst (cutB B n) 0 i)) hv.1.1
        have w40 := hv.1
        rw [f3a 126 (by omega)]
        refine ⟨hi.2, ?_⟩
        unfold sdW
        omega
      have L0 : 0 ≤ sdN (cutB B n) ∧ sdN (cutB B n) ≤ 8 := by unfold sdN; omega
      (try dsimp only)
      refine Ok_bind (k_put hw hphT (Q := fun _ s' => ∃ s, Fr 127 130 s3 s ∧ oK s K B' n' (sdW F (cutB B n)) (sdN (cutB B n)) (-1) ∧ wkJ K (fun j => s.m 129 (zix j)) s s' (s.m 128 (zix 0)) 0 (s.m 128 (zix 0))) L0.1 L0.2 op (fun s hf hk => Ok_mono (k_walk hw hphT L0.1 L0.2 (op.fr hf) hk) (fun v s' hj => ⟨s, hf, hk, hj⟩))) (fun v4 s4 f4 => ?_)
      obtain ⟨-, w', s5, hf5, hk5, hj5⟩ := f4
      (try dsimp only)
      have fx4 : Fx kOv d s4 := fun r hr => by
        unfold kOv at hr
        rw [hj5.1.1 r (by omega) (by omega) (by omega), hf5 r (by omega), f3a r (by omega)]
        exact fx2 r (by unfold kOv; omega)
      have e11 : s4.m 11 1 = 0 := by
        rw [hj5.1.1 11 (by decide) (by decide) (by decide), hf5 11 (by omega), f3a 11 (by omega), f2.1 11 (by omega)]
        exact hu1
      refine Ok_mono (k_overA hphT L0.1 L0.2 hk5 hj5 hw0 a4 a5 h4 h5) (fun v5 s6 f6 => ?_)
      obtain ⟨rfl, hov⟩ := f6
      exact ⟨⟨fun _ => hov, fun hh => absurd good hh⟩, fx4, e11⟩
    · rw [if_neg (fun hh => hh zz), wl_over_68_e]
      refine Ok_ret ⟨⟨fun hh => absurd (sv.mp hh).2.2 hno, fun _ => rfl⟩, fx2, ?_⟩
      rw [f2.1 11 (by omega)]
      exact hu1
  · rw [f.2.2.1, bi_f cg1, if_pos zz, wl_over_68_e]
    exact Ok_ret ⟨⟨fun hh => absurd ⟨(sv.mp hh).1, (sv.mp hh).2.1⟩ cg1, fun _ => rfl⟩, fx, hu1⟩
theorem k_over31n {B : Int → Int} {T kind n w a4 a5 : Int} {g6 : zV} (h : TQ d B T) (h1 : I32 kind) (h2 : I32 n) (hC : ¬ ((0 ≤ kind ∧ kind ≤ 5) ∧ (1 ≤ n ∧ n ≤ 80) ∧ n ≤ T)) : wl_over_31 d kind n w a4 a5 g6 = some (-1, d) := by
  have zz : wr 0 = 0 := rfl
  have oz : ¬ wr 1 = 0 := by rw [wr_id (by omega)]; omega
  have hn := h2
  unfold I32 at hn
  rw [wl_over_31_e, kw_isKind h1, Option.bind_some]
  (try dsimp only)
  by_cases c1 : 0 ≤ kind ∧ kind ≤ 5
  · rw [bi_t c1, if_neg oz, wr_id (by omega), wr_id (by omega), wr_id (by omega)]
    by_cases a1 : n < 1
    · rw [if_pos a1, wl_over_45_e]
    · rw [if_neg a1]
      by_cases a2 : 80 < n
      · rw [if_pos a2, wl_over_45_e]
      · rw [if_neg a2, k_holds h.1 h.2.2.1 h2, bi_f (by omega), Option.bind_some]
        (try dsimp only)
        rw [if_neg (fun hh => hh zz), wl_over_45_e]
  · rw [bi_f c1, if_pos zz, wl_over_45_e]
theorem k_over (hc : CI d F) {B : Int → Int} {T kind n w : Int} (h : TQ d B T) (h1 : I32 kind) (h2 : I32 n) (h3 : I32 w) : Ok (wl_over d kind n w) (fun v s => (ovC T kind n w → ovR F B kind n w v ∧ Fx kOv d s ∧ s.m 11 1 = 0) ∧ (¬ ovC T kind n w → v = -1 ∧ s = d)) := by
  have zz : wr 0 = 0 := rfl
  have oz : ¬ wr 1 = 0 := by rw [wr_id (by omega)]; omega
  have hw := h3
  unfold I32 at hw
  have go : ∀ (a4 a5 : Int) (g6 : zV), (w = 0 ∨ w = 1 ∨ w = 2 ∨ (10 ≤ w ∧ w ≤ 17) ∨ (100 ≤ w ∧ w ≤ 123)) → (a4 = if 10 ≤ w ∧ w ≤ 17 then 1 else 0) → (a5 = if 100 ≤ w then 1 else 0) → Ok (wl_over_31 d kind n w a4 a5 g6) (fun v s => (ovC T kind n w → ovR F B kind n w v ∧ Fx kOv d s ∧ s.m 11 1 = 0) ∧ (¬ ovC T kind n w → v = -1 ∧ s = d)) := fun a4 a5 g6 hww h4 h5 => by
    by_cases c : ovC T kind n w
    · exact Ok_mono (k_over31 hc h c a4 a5 g6 h4 h5) (fun v s f => ⟨fun _ => f, fun hh => absurd c hh⟩)
    · exact Ok_of (k_over31n h h1 h2 (fun hh => c ⟨hww, hh⟩)) ⟨fun hh => absurd hh c, fun _ => ⟨rfl, rfl⟩⟩
  have no : ¬ (w = 0 ∨ w = 1 ∨ w = 2 ∨ (10 ≤ w ∧ w ≤ 17) ∨ (100 ≤ w ∧ w ≤ 123)) → Ok (some (-1, d)) (fun v s => (ovC T kind n w → ovR F B kind n w v ∧ Fx kOv d s ∧ s.m 11 1 = 0) ∧ (¬ ovC T kind n w → v = -1 ∧ s = d)) := fun hn => Ok_ret ⟨fun hh => absurd hh.1 hn, fun _ => ⟨rfl, rfl⟩⟩
  rw [wl_over_e, wr_id (x := w) (by omega), wr_id (x := 10) (by omega), wr_id (x := 18) (by omega), wr_id (x := 100) (by omega), wr_id (x := 124) (by omega), wr_id (x := 2) (by omega)]
  by_cases b1 : w < 10 ∨ 18 ≤ w
  · have h8 : Ok (wl_over_8 d kind n w (3, 0) (3, 0) (3, 0)) (fun v s => (ovC T kind n w → ovR F B kind n w v ∧ Fx kOv d s ∧ s.m 11 1 = 0) ∧ (¬ ovC T kind n w → v = -1 ∧ s = d)) := by
      rw [wl_over_8_e, wr_id (x := w) (by omega), wr_id (x := 100) (by omega), wr_id (x := 124) (by omega), wr_id (x := 2) (by omega)]
      by_cases b2 : w < 100 ∨ 124 ≤ w
      · have h18 : Ok (wl_over_18 d kind n w 0 (3, 0) (3, 0)) (fun v s => (ovC T kind n w → ovR F B kind n w v ∧ Fx kOv d s ∧ s.m 11 1 = 0) ∧ (¬ ovC T kind n w → v = -1 ∧ s = d)) := by
          rw [wl_over_18_e, if_neg (fun hh => hh zz), if_neg (fun hh => hh zz), wr_id (x := w) (by omega), wr_id (x := 2) (by omega)]
          by_cases b3 : w < 0
          · rw [if_pos b3, wl_over_29_e]
            exact no (by omega)
          · rw [if_neg b3]
            by_cases b4 : w ≤ 2
            · rw [if_pos b4]
              exact go 0 0 _ (by omega) (by rw [if_neg (by omega)]) (by rw [if_neg (by omega)])
            · rw [if_neg b4, wl_over_29_e]
              exact no (by omega)
        by_cases b5 : w < 100
        · rw [if_pos b5]; exact h18
        · rw [if_neg b5, if_pos (by omega)]; exact h18
      · rw [if_neg (by omega), if_neg (by omega), if_neg (fun hh => hh zz), if_pos oz]
        exact go 0 1 _ (by omega) (by rw [if_neg (by omega)]) (by rw [if_pos (by omega)])
    by_cases b6 : w < 10
    · rw [if_pos b6]; exact h8
    · rw [if_neg b6, if_pos (by omega)]; exact h8
  · rw [if_neg (by omega), if_neg (by omega), if_pos (by omega), wl_over_18_e, if_pos oz]
    exact go 1 0 _ (by omega) (by rw [if_pos (by omega)]) (by rw [if_neg (by omega)])
end
