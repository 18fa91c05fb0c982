/-! PAIRS COME: the class takes them. -/
def vF (F : Nat → Int) (s : Int) : Int × (Int → Int) := (wds F s, key F s)
def vG (F : Nat → Int) (ln : Int → Int → Int) (ky : Int → Int → Int → Int) (R s : Int) : Int × (Int → Int) := vall (ln s) (ky s) R (vF F s)
/-- a file with more pairs, before its shares are begun -/
def apG (F G : Nat → Int) (ln : Int → Int → Int) (ky : Int → Int → Int → Int) (R : Int) : Prop := prs G = prs F + R
  ∧ (∀ s, 0 ≤ s → s < 2 → wds G s = (vG F ln ky R s).1 ∧ ∀ w, 0 ≤ w → w < wds G s → key G s w = (vG F ln ky R s).2 w)
  ∧ (∀ p s, 0 ≤ p → p < prs F → 0 ≤ s → s < 2 → lng G p s = lng F p s)
  ∧ (∀ p s i, 0 ≤ p → p < prs F → 0 ≤ s → s < 2 → 0 ≤ i → i < lng F p s → wrd G p s i = wrd F p s i)
  ∧ (∀ r s, 0 ≤ r → r < R → 0 ≤ s → s < 2 → lng G (prs F + r) s = ln s r)
  ∧ (∀ r s i, 0 ≤ r → r < R → 0 ≤ s → s < 2 → 0 ≤ i → i < ln s r → wrd G (prs F + r) s i = vfi (vG F ln ky R s) (ky s r i))
  ∧ (∀ p i, 0 ≤ p → p < prs F → 0 ≤ i → i < 6 → tld G p i = tld F p i)
  ∧ (∀ r i, 0 ≤ r → r < R → 0 ≤ i → i < 6 → tld G (prs F + r) i = 0)
  ∧ lst G = lst F ∧ ltd G = ltd F ∧ plc G = plc F
/-- all words of the rows are there in the end -/
theorem vall_has {ln : Int → Int} {ky : Int → Int → Int} {R r i : Int} {v : Int × (Int → Int)} (v0 : 0 ≤ v.1) (hl : ∀ r, 0 ≤ r → r < R → 0 ≤ ln r) (r0 : 0 ≤ r) (r1 : r < R) (i0 : 0 ≤ i) (i1 : i < ln r) : vfi (vall ln ky R v) (ky r i) ≠ -1 ∧ vfi (vall ln ky R v) (ky r i) = vfi (vrw ky r (i + 1) (vall ln ky r v)) (ky r i) := by
  have x1 := vx_all (ky := ky) (v := v) hl (Int.le_refl 0) r0 (by omega)
  rw [vall_0] at x1
  have x2 := vx_rw0 (ky := ky) (r := r) (v := vall ln ky r v) i0
  have n1 := Int.le_trans v0 (vx_tr x1 x2).1
  have has : vfi (vrw ky r (i + 1) (vall ln ky r v)) (ky r i) ≠ -1 := by
    rw [vrw_s i0]
    exact vfi_ad n1
  have x3 := vx_rw (ky := ky) (r := r) (v := vall ln ky r v) (a := i + 1) (b := ln r) (by omega) (by omega)
  rw [← vall_s r0] at x3
  have x4 := vx_all (ky := ky) (v := v) hl (a := r + 1) (b := R) (by omega) (by omega) (Int.le_refl R)
  have x5 := vx_tr x3 x4
  have n2 : 0 ≤ (vrw ky r (i + 1) (vall ln ky r v)).1 := by
    rw [vrw_s i0]
    exact Int.le_trans n1 vx_ad.1
  have e := vfi_x (K := ky r i) n2 x5 has
  rw [e]
  exact ⟨has, rfl⟩
section
variable {P : zP} {d t : zD P} {F G : Nat → Int}
theorem u_len {s : Int} {a : Nat} {x : Int} (s0 : 0 ≤ s) (s1 : s < 2) : (t.up (22 + (1 + zix s)) a x).m (22 + (1 + zix s)) = zfu (t.m (22 + (1 + zix s))) a x := by
  rcases (by omega : s = 0 ∨ s = 1) with rfl | rfl
  · have : zix 0 = 0 := by rw [zix_id (by omega)]; rfl
    rw [this]
    exact u_23
  · have : zix 1 = 1 := by rw [zix_id (by omega)]; rfl
    rw [this]
    exact u_24
theorem u_plc {s : Int} {a : Nat} {x : Int} (s0 : 0 ≤ s) (s1 : s < 2) : (t.up (25 + (1 + zix s)) a x).m (25 + (1 + zix s)) = zfu (t.m (25 + (1 + zix s))) a x := by
  rcases (by omega : s = 0 ∨ s = 1) with rfl | rfl
  · have : zix 0 = 0 := by rw [zix_id (by omega)]; rfl
    rw [this]
    exact u_26
  · have : zix 1 = 1 := by rw [zix_id (by omega)]; rfl
    rw [this]
    exact u_27
/-- so many rows of a side taken -/
def aR (t : zD P) (F : Nat → Int) (ln : Int → Int) (ky : Int → Int → Int) (V : Int × (Int → Int)) (s r : Int) : Prop := (∀ p, 0 ≤ p → p < prs F → t.m (22 + (1 + zix s)) (zix p) = lng F p s)
  ∧ (∀ p i, 0 ≤ p → p < prs F → 0 ≤ i → i < lng F p s → t.m (25 + (1 + zix s)) (zix ((p * 6) + i)) = wrd F p s i)
  ∧ (∀ q, 0 ≤ q → q < r → t.m (22 + (1 + zix s)) (zix (prs F + q)) = ln q)
  ∧ (∀ q i, 0 ≤ q → q < r → 0 ≤ i → i < ln q → t.m (25 + (1 + zix s)) (zix (((prs F + q) * 6) + i)) = vfi V (ky q i))
theorem aR.fx {S : Nat → Prop} {u : zD P} {ln : Int → Int} {ky : Int → Int → Int} {V : Int × (Int → Int)} {s r : Int} (h : aR t F ln ky V s r) (f : Fx S t u) (h1 : ¬ S (22 + (1 + zix s))) (h2 : ¬ S (25 + (1 + zix s))) : aR u F ln ky V s r := by
  unfold aR at h ⊢
  rw [f _ h1, f _ h2]
  exact h
def tkS (s : Int) : Nat → Prop := fun r => r = 22 + (1 + zix s) ∨ r = 25 + (1 + zix s)
theorem k_takeRow (hw : WF F) {b : Nat} {ln : Int → Int} {ky : Int → Int → Int} {V : Int × (Int → Int)} {R s r : Int} (hb : b = 97 ∨ b = 100) (s0 : 0 ≤ s) (s1 : s < 2) (ho : rO t.m b R ln ky) (r0 : 0 ≤ r) (r1 : r < R) (l6 : ∀ q, 0 ≤ q → q < R → 1 ≤ ln q ∧ ln q ≤ 6) (hp : t.m 14 6 = prs F + r) (p24 : prs F + R ≤ 24) (hV : t.m 15 (zix s) = V.1) (hk : vK t s V) (hbd : vbd V) (h40 : V.1 ≤ 40) (hky : ∀ i, 0 ≤ i → i < ln r → (0 ≤ ky r i ∧ ky r i < 34359738368) ∧ vfi V (ky r i) ≠ -1) (hi : aR t F ln ky V s r) : Ok (co_takeRow t s b r) (fun _ u => Fx (tkS s) t u ∧ aR u F ln ky V s (r + 1)) := by
  have z2 : zin s 2 := of_eq_true (zinT (by omega))
  have zs := zix2 s0 s1
  have hz := rb_z hb
  have p0 := hw.prs_
  have lr := l6 r r0 r1
  have z24 : zin (prs F + r) 24 := of_eq_true (zinT (by omega))
  rw [co_takeRow_e hz, r_len ho r0 r1 hz, Option.bind_some]
  (try dsimp only)
  rw [if_pos z2, hp, if_pos z24, if_neg (by rw [wr_id (by omega), wr_id (by omega)]; omega)]
  have lF : ∀ p, 0 ≤ p → p < prs F → lng F p s ≤ 6 := fun p p0 p1 => (hw.lng_ p0 p1 s0 s1).2
  refine lpD (fun k u => co_takeRow_16 u s b r (ln r) k) (fun k u => Fx (tkS s) t u ∧ (∀ p, 0 ≤ p → p < prs F → u.m (22 + (1 + zix s)) (zix p) = lng F p s) ∧ (∀ p i, 0 ≤ p → p < prs F → 0 ≤ i → i < lng F p s → u.m (25 + (1 + zix s)) (zix ((p * 6) + i)) = wrd F p s i) ∧ (∀ q, 0 ≤ q → q < r + 1 → u.m (22 + (1 + zix s)) (zix (prs F + q)) = ln q) ∧ (∀ q i, 0 ≤ q → q < r → 0 ≤ i → i < ln q → u.m (25 + (1 + zix s)) (zix (((prs F + q) * 6) + i)) = vfi V (ky q i)) ∧ (∀ i, 0 ≤ i → i < k → u.m (25 + (1 + zix s)) (zix (((prs F + r) * 6) + i)) = vfi V (ky r i))) 0 (ln r) (by omega) _ ⟨Fx.rf.up (Or.inl rfl), fun p a0 a1 => ?_, fun p i a0 a1 i0 i1 => ?_, fun q a0 a1 => ?_, fun q i a0 a1 i0 i1 => ?_, fun i i0 i1 => by omega⟩ (fun u hu => ?_) (fun k u k0 k1 hu hnext => ?_)
  · rw [u_len s0 s1, zfu_z (by omega), if_neg (by omega)]; exact hi.1 p a0 a1
  · rw [up_ne (by omega)]; exact hi.2.1 p i a0 a1 i0 i1
  · rw [u_len s0 s1, zfu_z (by omega)]
    by_cases e : q = r
    · rw [if_pos (by omega), e]
    · rw [if_neg (by omega)]; exact hi.2.2.1 q a0 (by omega)
  · rw [up_ne (by omega)]; exact hi.2.2.2 q i a0 a1 i0 i1
  · obtain ⟨u1, u2, u3, u4, u5, u6⟩ := hu
    (try dsimp only)
    rw [co_takeRow_16_e hz, if_pos (by omega)]
    refine Ok_ret ⟨u1, u2, u3, u4, fun q i a0 a1 i0 i1 => ?_⟩
    by_cases e : q = r
    · rw [e] at i1 ⊢; exact u6 i i0 i1
    · exact u5 q i a0 (by omega) i0 i1
  · obtain ⟨u1, u2, u3, u4, u5, u6⟩ := hu
    have ho' : rO u.m b R ln ky := ho.fx u1 (by unfold tkS; omega) (by unfold tkS; omega) (by unfold tkS; omega)
    have hk' : vK u s V := fun w w0 w1 => by rw [u1 _ (by unfold tkS; omega)]; exact hk w w0 w1
    have h15 : u.m 15 (zix s) = V.1 := by rw [u1 15 (by unfold tkS; omega)]; exact hV
    have h14 : u.m 14 6 = prs F + r := by rw [u1 14 (by unfold tkS; omega)]; exact hp
    have kk := hky k k0 k1
    have fl := first_range (p := fun w => decide (V.2 w = ky r k)) hbd.1
    have fl' : 0 ≤ vfi V (ky r k) ∧ vfi V (ky r k) < V.1 := by
      rcases fl with q | q
      · exact absurd q kk.2
      · exact ⟨q.1, q.2.1⟩
    have z144 : zin (((prs F + r) * 6) + k) 144 := of_eq_true (zinT (by omega))
    (try dsimp only)
    rw [co_takeRow_16_e hz, if_neg (by rw [wr_id (by omega), wr_id (by omega)]; omega), if_pos z2, r_key ho' r0 r1 k0 k1 hz, Option.bind_some]
    (try dsimp only)
    rw [if_pos z2, h15, vK_num s0 s1 hk' hbd h40 kk.1, Option.bind_some]
    (try dsimp only)
    rw [h14, if_pos z144, if_neg (by rw [wr_id (by omega), wr_id (by omega)]; omega)]
    refine hnext _ ?_
    refine ⟨u1.up (Or.inr rfl), fun p a0 a1 => by rw [up_ne (by omega)]; exact u2 p a0 a1, fun p i a0 a1 i0 i1 => ?_, fun q a0 a1 => by rw [up_ne (by omega)]; exact u4 q a0 a1, fun q i a0 a1 i0 i1 => ?_, fun i i0 i1 => ?_⟩
    · have := lF p a0 a1
      rw [u_plc s0 s1, zfu_z (by omega), if_neg (by omega)]; exact u3 p i a0 a1 i0 i1
    · have := l6 q a0 (by omega)
      rw [u_plc s0 s1, zfu_z (by omega), if_neg (by omega)]; exact u5 q i a0 a1 i0 i1
    · rw [u_plc s0 s1, zfu_z (by omega)]
      by_cases e : i = k
      · rw [if_pos (by omega), e]
      · rw [if_neg (by omega)]; exact u6 i i0 (by omega)
def aS : Nat → Prop := fun r => 14 ≤ r ∧ r < 29
theorem CA.keys {u : zD P} (h : CA d F) (f : Fx (fun r => r = 17 ∨ r = 18) d u) (hk : ∀ s w, 0 ≤ s → s < 2 → 0 ≤ w → w < wds F s → u.m (16 + (1 + zix s)) (zix w) = key F s w) : CA u F := by
  have eg : ∀ (b : Nat) (s' : Int), (b = 19 ∨ b = 22 ∨ b = 25) → 0 ≤ s' → s' < 2 → u.m (b + (1 + zix s')) = d.m (b + (1 + zix s')) := fun b s' h1 h3 h4 => f _ (by have := zix2 h3 h4; omega)
  obtain ⟨w, a1, a2, a3, a4, a5, a6, a7, a8⟩ := h
  refine ⟨w, ?_, fun s h1 h2 => ?_, fun s w h1 h2 h3 h4 => hk s w h1 h2 h3 h4, fun s x y h1 h2 h3 h4 h5 h6 => ?_, fun s p h1 h2 h3 h4 => ?_, fun s p i h1 h2 h3 h4 h5 h6 => ?_, fun p i h1 h2 h3 h4 => ?_, ?_⟩
  · rw [f (13 + 1) (by omega)]; exact a1
  · rw [f (13 + 2) (by omega)]; exact a2 s h1 h2
  · rw [eg (13 + 6) s (by omega) h1 h2]; exact a4 s x y h1 h2 h3 h4 h5 h6
  · rw [eg (13 + 9) s (by omega) h1 h2]; exact a5 s p h1 h2 h3 h4
  · rw [eg (13 + 12) s (by omega) h1 h2]; exact a6 s p i h1 h2 h3 h4 h5 h6
  · rw [f (13 + 15) (by omega)]; exact a7 p i h1 h2 h3 h4
  · rw [f 13 (by omega)]; exact a8
theorem k_append (h : CA d F) {ln : Int → Int → Int} {ky : Int → Int → Int → Int} {R : Int} (o0 : rO d.m 97 R (ln 0) (ky 0)) (o1 : rO d.m 100 R (ln 1) (ky 1)) (l6 : ∀ s r, 0 ≤ s → s < 2 → 0 ≤ r → r < R → 1 ≤ ln s r ∧ ln s r ≤ 6) (hky : ∀ s r i, 0 ≤ s → s < 2 → 0 ≤ r → r < R → 0 ≤ i → i < ln s r → 0 ≤ ky s r i ∧ ky s r i < 34359738368) (hG : prs F + R ≤ 24 → (vG F ln ky R 0).1 ≤ 40 → (vG F ln ky R 1).1 ≤ 40 → apG F G ln ky R ∧ WFc G) : Ok (co_append d) (fun a t => Fx aS d t ∧ (24 < prs F + R → a = -3 ∧ CA t F) ∧ (prs F + R ≤ 24 → (40 < (vG F ln ky R 0).1 ∨ 40 < (vG F ln ky R 1).1) → a = -4 ∧ CA t F) ∧ (prs F + R ≤ 24 → (vG F ln ky R 0).1 ≤ 40 → (vG F ln ky R 1).1 ≤ 40 → a = prs G ∧ CA t (mkN G))) := by
  have z0 : zix 0 = 0 := by rw [zix_id (by omega)]; rfl
  have z1 : zix 1 = 1 := by rw [zix_id (by omega)]; rfl
  have y0 : zin 0 2 := of_eq_true (zinT (by omega))
  have y1 : zin 1 2 := of_eq_true (zinT (by omega))
  have hw := h.wf
  have p0 := hw.prs_
  have R12 := o0.2.1
  have bdF : ∀ s, 0 ≤ s → s < 2 → vbd (vF F s) := fun s s0 s1 => ⟨(hw.wds_ s0 s1).1, fun w w0 w1 => key_b (hw.vw s0 s1) w0 w1⟩
  have vKF : ∀ (u : zD P) s, 0 ≤ s → s < 2 → (∀ w, 0 ≤ w → w < wds F s → u.m (16 + (1 + zix s)) (zix w) = key F s w) → vK u s (vF F s) := fun u s s0 s1 hu w w0 w1 => hu w w0 w1
  rw [co_append_e, h.prs_, o0.1]
  by_cases c24 : prs F + R ≤ 24
  · rw [if_pos (by rw [wr_id (by omega), wr_id (by omega)]; omega)]
    refine Ok_bind (k_wordsWith (s := 0) (v0 := vF F 0) (by omega) (by omega) (Or.inl rfl) o0 (fun r i r0 r1 i0 i1 => hky 0 r i (by omega) (by omega) r0 r1 i0 i1) (h.wds_ (by omega) (by omega)) (hw.wds_ (by omega) (by omega)).2 (vKF d 0 (by omega) (by omega) (fun w w0 w1 => h.key_ (by omega) (by omega) w0 w1)) (bdF 0 (by omega) (by omega))) (fun a0 t1 f1 => ?_)
    obtain ⟨f1a, f1b, f1c, f1d, f1e⟩ := f1
    rw [z0] at f1a
    have o1' : rO t1.m 100 R (ln 1) (ky 1) := o1.fx f1a (by decide) (by decide) (by decide)
    have w15 : ∀ s, 0 ≤ s → s < 2 → t1.m 15 (zix s) = wds F s := fun s s0 s1 => by rw [f1a 15 (by decide)]; exact h.wds_ s0 s1
    (try dsimp only)
    refine Ok_bind (k_wordsWith (s := 1) (v0 := vF F 1) (by omega) (by omega) (Or.inr rfl) o1' (fun r i r0 r1 i0 i1 => hky 1 r i (by omega) (by omega) r0 r1 i0 i1) (w15 1 (by omega) (by omega)) (hw.wds_ (by omega) (by omega)).2 (vKF t1 1 (by omega) (by omega) (fun w w0 w1 => by rw [f1a _ (by rw [z1]; decide)]; exact h.key_ (by omega) (by omega) w0 w1)) (bdF 1 (by omega) (by omega))) (fun a1 t2 f2 => ?_)
    obtain ⟨f2a, f2b, f2c, f2d, f2e⟩ := f2
    rw [z1] at f2a
    have fx2 : Fx (fun r => r = 17 ∨ r = 18) d t2 := (f1a.mo (fun r hr => by omega)).tr (f2a.mo (fun r hr => by omega))
    have k2 : ∀ s w, 0 ≤ s → s < 2 → 0 ≤ w → w < wds F s → t2.m (16 + (1 + zix s)) (zix w) = key F s w := fun s w s0 s1 w0 w1 => by
      rcases (by omega : s = 0 ∨ s = 1) with rfl | rfl
      · rw [f2a _ (by rw [z0]; decide)]
        exact f1b w w0 w1
      · exact f2b w w0 w1
    have ca2 : CA t2 F := h.keys fx2 k2
    have fxs2 : Fx aS d t2 := fx2.mo (fun r hr => by unfold aS; omega)
    (try dsimp only)
    by_cases c0 : 40 < (vG F ln ky R 0).1
    · have e0 : a0 = 41 := f1e c0
      rw [e0, if_pos (by rw [wr_id (by omega), wr_id (by omega)]; omega)]
      exact Ok_ret ⟨fxs2, fun hh => by omega, fun _ _ => ⟨rfl, ca2⟩, fun _ hh => by omega⟩
    · have e0 := f1d (by exact Int.not_lt.mp c0)
      have v0b := f1c.1
      have c0' : (vG F ln ky R 0).1 ≤ 40 := Int.not_lt.mp c0
      have v0n : 0 ≤ (vG F ln ky R 0).1 := v0b
      rw [show a0 = (vG F ln ky R 0).1 from e0.1, if_neg (by rw [wr_id (by omega), wr_id (by omega)]; omega)]
      by_cases c1 : 40 < (vG F ln ky R 1).1
      · have e1 : a1 = 41 := f2e c1
        rw [e1, if_neg (by rw [wr_id (by omega), wr_id (by omega)]; omega)]
        exact Ok_ret ⟨fxs2, fun hh => by omega, fun _ _ => ⟨rfl, ca2⟩, fun _ _ hh => by omega⟩
      · have e1 := f2d (by exact Int.not_lt.mp c1)
        have c1' : (vG F ln ky R 1).1 ≤ 40 := Int.not_lt.mp c1
        have v1n : 0 ≤ (vG F ln ky R 1).1 := f2c.1
        obtain ⟨hap, hwc⟩ := hG c24 c0' c1'
        rw [show a1 = (vG F ln ky R 1).1 from e1.1, if_pos (by rw [wr_id (by omega), wr_id (by omega)]; omega), if_pos y0, if_pos y1, z0, z1]
        have fx3 : Fx aS d ((t2.up 15 0 (vG F ln ky R 0).1).up 15 1 (vG F ln ky R 1).1) := (fxs2.up (by unfold aS; omega)).up (by unfold aS; omega)
        have er : ∀ r, r ≠ 15 → r ≠ 17 → r ≠ 18 → ((t2.up 15 0 (vG F ln ky R 0).1).up 15 1 (vG F ln ky R 1).1).m r = d.m r := fun r r1 r2 r3 => by rw [up_ne r1, up_ne r1]; exact fx2 r (by omega)
        have w3 : ∀ s, 0 ≤ s → s < 2 → ((t2.up 15 0 (vG F ln ky R 0).1).up 15 1 (vG F ln ky R 1).1).m 15 (zix s) = (vG F ln ky R s).1 := fun s s0 s1 => by
          rw [u_15, u_15]
          rcases (by omega : s = 0 ∨ s = 1) with rfl | rfl
          · rw [z0, zfu_n, if_neg (by decide), zfu_n, if_pos rfl]
          · rw [z1, zfu_n, if_pos rfl]
        have vk3 : ∀ s, 0 ≤ s → s < 2 → vK ((t2.up 15 0 (vG F ln ky R 0).1).up 15 1 (vG F ln ky R 1).1) s (vG F ln ky R s) := fun s s0 s1 w w0 w1 => by
          rw [up_ne (by omega), up_ne (by omega)]
          rcases (by omega : s = 0 ∨ s = 1) with rfl | rfl
          · rw [f2a _ (by rw [z0]; decide)]
            exact e0.2 w w0 w1
          · exact e1.2 w w0 w1
        generalize (t2.up 15 0 (vG F ln ky R 0).1).up 15 1 (vG F ln ky R 1).1 = t3 at fx3 er w3 vk3 ⊢
        have o03 : rO t3.m 97 R (ln 0) (ky 0) := o0.fx fx3 (by unfold aS; omega) (by unfold aS; omega) (by unfold aS; omega)
        have o13 : rO t3.m 100 R (ln 1) (ky 1) := o1.fx fx3 (by unfold aS; omega) (by unfold aS; omega) (by unfold aS; omega)
        have bd3 : ∀ s, 0 ≤ s → s < 2 → vbd (vG F ln ky R s) ∧ (vG F ln ky R s).1 ≤ 40 := fun s s0 s1 => by
          rcases (by omega : s = 0 ∨ s = 1) with rfl | rfl
          · exact ⟨f1c, c0'⟩
          · exact ⟨f2c, c1'⟩
        have has : ∀ s r i, 0 ≤ s → s < 2 → 0 ≤ r → r < R → 0 ≤ i → i < ln s r → vfi (vG F ln ky R s) (ky s r i) ≠ -1 := fun s r i s0 s1 r0 r1 i0 i1 => (vall_has (v := vF F s) (bdF s s0 s1).1 (fun q q0 q1 => by have := l6 s q s0 s1 q0 q1; omega) r0 r1 i0 i1).1
        have i3 : ∀ s, 0 ≤ s → s < 2 → aR t3 F (ln s) (ky s) (vG F ln ky R s) s 0 := fun s s0 s1 => by
          have zs := zix2 s0 s1
          refine ⟨fun p a0 a1 => ?_, fun p i a0 a1 i0 i1 => ?_, fun q a0 a1 => by omega, fun q i a0 a1 => by omega⟩
          · rw [er _ (by omega) (by omega) (by omega)]; exact h.lng_ s0 s1 a0 a1
          · rw [er _ (by omega) (by omega) (by omega)]; exact h.wrd_ s0 s1 a0 a1 i0 i1
        have meets : ∀ u : zD P, Fx (fun r => r = 14 ∨ (22 ≤ r ∧ r < 28)) t3 u → u.m 14 6 = prs F + R → (∀ s, 0 ≤ s → s < 2 → aR u F (ln s) (ky s) (vG F ln ky R s) s R) → Ok ((co_meetPartners u).bind fun q3 => some (q3.2.m 14 6, q3.2)) (fun a t => Fx aS d t ∧ (24 < prs F + R → a = -3 ∧ CA t F) ∧ (prs F + R ≤ 24 → (40 < (vG F ln ky R 0).1 ∨ 40 < (vG F ln ky R 1).1) → a = -4 ∧ CA t F) ∧ (prs F + R ≤ 24 → (vG F ln ky R 0).1 ≤ 40 → (vG F ln ky R 1).1 ≤ 40 → a = prs G ∧ CA t (mkN G))) := fun u hf h14 har => by
          have hrb : RepB u.m 13 G := by
            obtain ⟨g1, g2, g3, g4, g5, g6, g7, g8, g9, g10, g11⟩ := hap
            refine ⟨h14.trans g1.symm, fun s s0 s1 => ?_, fun s w s0 s1 w0 w1 => ?_, fun s p s0 s1 a0 a1 => ?_, fun s p i s0 s1 a0 a1 i0 i1 => ?_, fun p i a0 a1 i0 i1 => ?_, ?_, ?_, ?_⟩
            · rw [hf 15 (by omega)]
              exact (w3 s s0 s1).trans (g2 s s0 s1).1.symm
            · have zs := zix2 s0 s1
              rw [hf (16 + (1 + zix s)) (by omega), (g2 s s0 s1).2 w w0 w1]
              exact vk3 s s0 s1 w w0 (by rw [← (g2 s s0 s1).1]; exact w1)
            · by_cases c : p < prs F
              · rw [g3 p s a0 c s0 s1]
                exact (har s s0 s1).1 p a0 c
              · have e : p = prs F + (p - prs F) := by omega
                rw [e, g5 (p - prs F) s (by omega) (by omega) s0 s1]
                exact (har s s0 s1).2.2.1 (p - prs F) (by omega) (by omega)
            · by_cases c : p < prs F
              · rw [g3 p s a0 c s0 s1] at i1
                rw [g4 p s i a0 c s0 s1 i0 i1]
                exact (har s s0 s1).2.1 p i a0 c i0 i1
              · have e : p = prs F + (p - prs F) := by omega
                rw [e, g5 (p - prs F) s (by omega) (by omega) s0 s1] at i1
                rw [e, g6 (p - prs F) s i (by omega) (by omega) s0 s1 i0 i1]
                exact (har s s0 s1).2.2.2 (p - prs F) i (by omega) (by omega) i0 i1
            · rw [show (13 + 15 : Nat) = 28 from rfl, hf 28 (by omega), er 28 (by decide) (by decide) (by decide)]
              have q := h.2.2.2.2.2.2.2.1 p i a0 a1 i0 i1
              rw [show (13 + 15 : Nat) = 28 from rfl] at q
              rw [q]
              by_cases c : p < prs F
              · rw [if_pos c, if_pos (by omega), g7 p i a0 c i0 i1]
              · rw [if_neg c]
                by_cases c' : p < prs G
                · have e : p = prs F + (p - prs F) := by omega
                  rw [if_pos c', e, g8 (p - prs F) i (by omega) (by omega) i0 i1]
                · rw [if_neg c']
            · rw [hf 13 (by omega), er 13 (by decide) (by decide) (by decide), g10]; exact h.ltd_
            · rw [hf 13 (by omega), er 13 (by decide) (by decide) (by decide), g11]; exact h.plc_
            · rw [hf 13 (by omega), er 13 (by decide) (by decide) (by decide), g9]; exact h.lst_
          refine Ok_bind (k_met hwc hrb) (fun v u2 f => ?_)
          have e14 : u2.m 14 6 = prs G := by rw [f.1 14 (by unfold m2S; omega), h14]; exact hap.1.symm
          (try dsimp only)
          rw [e14]
          exact Ok_ret ⟨(fx3.tr (hf.mo (fun r hr => by unfold aS; omega))).tr (f.1.mo (fun r hr => by unfold m2S at hr; unfold aS; omega)), fun hh => by omega, fun _ hh => by omega, fun _ _ _ => ⟨rfl, f.2⟩⟩
        refine lpM (fun r u (y : zV × zV) => co_append_39 u y.1 y.2 r) (fun r u _ => Fx (fun r => r = 14 ∨ (22 ≤ r ∧ r < 28)) t3 u ∧ u.m 14 6 = prs F + r ∧ ∀ s, 0 ≤ s → s < 2 → aR u F (ln s) (ky s) (vG F ln ky R s) s r) 0 R R12.1 t3 ((0, (vG F ln ky R 0).1), (0, (vG F ln ky R 1).1)) ⟨Fx.rf, by rw [er 14 (by decide) (by decide) (by decide), h.prs_]; omega, i3⟩ (fun u y hu => ?_) (fun r u y r0 r1 hu hnext => ?_)
        · obtain ⟨g3, g4⟩ := y
          have o0u : rO u.m 97 R (ln 0) (ky 0) := o03.fx hu.1 (by omega) (by omega) (by omega)
          (try dsimp only)
          rw [co_append_39_e, o0u.1, if_pos (by omega)]
          exact meets u hu.1 hu.2.1 hu.2.2
        · obtain ⟨g3, g4⟩ := y
          obtain ⟨u1, u2, u3⟩ := hu
          have o0u : rO u.m 97 R (ln 0) (ky 0) := o03.fx u1 (by omega) (by omega) (by omega)
          have o1u : rO u.m 100 R (ln 1) (ky 1) := o13.fx u1 (by omega) (by omega) (by omega)
          (try dsimp only)
          rw [co_append_39_e, o0u.1, if_neg (by rw [wr_id (by omega), wr_id (by omega)]; omega), u2, if_neg (by rw [wr_id (by omega), wr_id (by omega)]; omega)]
          have w3u : ∀ s, 0 ≤ s → s < 2 → u.m 15 (zix s) = (vG F ln ky R s).1 := fun s s0 s1 => by rw [u1 15 (by omega)]; exact w3 s s0 s1
          have vku : ∀ s, 0 ≤ s → s < 2 → vK u s (vG F ln ky R s) := fun s s0 s1 w w0 w1 => by
            have zs := zix2 s0 s1
            rw [u1 _ (by omega)]
            exact vk3 s s0 s1 w w0 w1
          refine Ok_bind (k_takeRow hw (s := 0) (Or.inl rfl) (by omega) (by omega) o0u r0 r1 (fun q q0 q1 => l6 0 q (by omega) (by omega) q0 q1) u2 c24 (w3u 0 (by omega) (by omega)) (vku 0 (by omega) (by omega)) (bd3 0 (by omega) (by omega)).1 (bd3 0 (by omega) (by omega)).2 (fun i i0 i1 => ⟨hky 0 r i (by omega) (by omega) r0 r1 i0 i1, has 0 r i (by omega) (by omega) r0 r1 i0 i1⟩) (u3 0 (by omega) (by omega))) (fun v4 t4 f4 => ?_)
          have fa := f4.1
          unfold tkS at fa
          rw [z0] at fa
          have o1t : rO t4.m 100 R (ln 1) (ky 1) := o1u.fx fa (by omega) (by omega) (by omega)
          have e14 : t4.m 14 6 = prs F + r := by rw [fa 14 (by omega)]; exact u2
          (try dsimp only)
          refine Ok_bind (k_takeRow hw (s := 1) (Or.inr rfl) (by omega) (by omega) o1t r0 r1 (fun q q0 q1 => l6 1 q (by omega) (by omega) q0 q1) e14 c24 (by rw [fa 15 (by omega)]; exact w3u 1 (by omega) (by omega)) (fun w w0 w1 => by rw [fa _ (by rw [z1]; omega)]; exact vku 1 (by omega) (by omega) w w0 w1) (bd3 1 (by omega) (by omega)).1 (bd3 1 (by omega) (by omega)).2 (fun i i0 i1 => ⟨hky 1 r i (by omega) (by omega) r0 r1 i0 i1, has 1 r i (by omega) (by omega) r0 r1 i0 i1⟩) ((u3 1 (by omega) (by omega)).fx fa (by rw [z1]; omega) (by rw [z1]; omega))) (fun v5 t5 f5 => ?_)
          have fb := f5.1
          unfold tkS at fb
          rw [z1] at fb
          have e145 : t5.m 14 6 = prs F + r := by rw [fb 14 (by omega)]; exact e14
          (try dsimp only)
          rw [e145]
          refine hnext _ (_, _) ⟨((u1.tr (fa.mo (fun r hr => by omega))).tr (fb.mo (fun r hr => by omega))).up (Or.inl rfl), ?_, fun s s0 s1 => ?_⟩
          · rw [u_14_6, zfu_n, if_pos rfl]; omega
          · have f14 : Fx (fun r => r = 14) t5 (t5.up 14 6 (prs F + r + 1)) := Fx.rf.up rfl
            have zs := zix2 s0 s1
            rcases (by omega : s = 0 ∨ s = 1) with rfl | rfl
            · exact (f4.2.fx fb (by rw [z0]; omega) (by rw [z0]; omega)).fx f14 (by omega) (by omega)
            · exact f5.2.fx f14 (by omega) (by omega)
  · rw [if_neg (by rw [wr_id (by omega), wr_id (by omega)]; omega)]
    exact Ok_ret ⟨Fx.rf, fun _ => ⟨rfl, h⟩, fun hh => by omega, fun hh => by omega⟩
end
