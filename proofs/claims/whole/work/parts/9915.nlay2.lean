/-! PAIRS COME: the model lays sentences and pairs. -/
def VR (F : Nat → Int) (ln : Int → Int → Int) (ky : Int → Int → Int → Int) (r : Int) (k : Int → Int) (x : Int) : Int × (Int → Int) := vrw (ky x) r (k x) (vall (ln x) (ky x) r (vF F x))
def KF (ln : Int → Int → Int) (side r kk : Int) (x : Int) : Int := if x = side then kk else if x = 0 ∧ side = 1 then ln 0 r else 0
def OVF (F : Nat → Int) (ln : Int → Int → Int) (ky : Int → Int → Int → Int) (R : Int) : Prop := 40 < (vG F ln ky R 0).1 ∨ 40 < (vG F ln ky R 1).1
section
variable {P : zP} {d t : zD P} {F : Nat → Int} {ln : Int → Int → Int} {ky : Int → Int → Int → Int}
theorem LI_co {C : Nat → Int} {r : Int} {V V' : Int → Int × (Int → Int)} (h : LI C F ln ky r V) (e : ∀ s, 0 ≤ s → s < 2 → V' s = V s) : LI C F ln ky r V' := by
  obtain ⟨h1, h2, h3, h4, h5, h6, h7, h8⟩ := h
  refine ⟨h1, fun s s0 s1 => by rw [e s s0 s1]; exact h2 s s0 s1, h3, h4, fun q s a b c f => by rw [e s c f]; exact h5 q s a b c f, h6, h7, h8⟩
theorem LQ_co {C : Nat → Int} {r : Int} {k k' : Int → Int} {V V' : Int → Int × (Int → Int)} (h : LQ C F ln ky r k V) (ek : ∀ s, 0 ≤ s → s < 2 → k' s = k s) (e : ∀ s, 0 ≤ s → s < 2 → V' s = V s) : LQ C F ln ky r k' V' := by
  obtain ⟨h0, h1, h2, h3⟩ := h
  exact ⟨LI_co h0 e, h1, fun s s0 s1 => by rw [ek s s0 s1, e s s0 s1]; exact h2 s s0 s1, h3⟩
/-- what laying touches -/
def lX (t s : zD P) : Prop := (∀ r, r ≠ 132 → r ≠ 133 → r ≠ 135 → s.m r = t.m r) ∧ ∀ k, k ≠ 4 → k ≠ 6 → k ≠ 10 → s.m 132 k = t.m 132 k
theorem lX.tr {a b c : zD P} (h : lX a b) (h2 : lX b c) : lX a c := ⟨fun r r1 r2 r3 => (h2.1 r r1 r2 r3).trans (h.1 r r1 r2 r3), fun k k1 k2 k4 => (h2.2 k k1 k2 k4).trans (h.2 k k1 k2 k4)⟩
theorem lX.rf : lX t t := ⟨fun _ _ _ _ => rfl, fun _ _ _ _ => rfl⟩
theorem mX.l {a b : zD P} (h : mX a b) : lX a b := ⟨fun r r1 _ r3 => h.1 r r1 r3, fun k k1 k2 _ => h.2 k k1 k2⟩
theorem lX.f {a b : zD P} (h : Fx (fun r => r = 133) a b) : lX a b := ⟨fun r _ r2 _ => h r r2, fun k _ _ _ => by rw [h 132 (by decide)]⟩
theorem lX.up10 {s : zD P} {x : Int} (h : lX t s) : lX t (s.up 132 10 x) := ⟨fun r r1 r2 r3 => by rw [up_ne r1]; exact h.1 r r1 r2 r3, fun k k1 k2 k4 => by rw [u_132_10, zfu_n, if_neg k4]; exact h.2 k k1 k2 k4⟩
theorem lX.upF {s : zD P} {a : Nat} {x : Int} (h : lX t s) : lX t (s.up 133 a x) := ⟨fun r r1 r2 r3 => by rw [up_ne r2]; exact h.1 r r1 r2 r3, fun k k1 k2 k4 => by rw [up_ne (by decide)]; exact h.2 k k1 k2 k4⟩
/-- and between pairs -/
def lY (t s : zD P) : Prop := (∀ r, r ≠ 132 → r ≠ 133 → r ≠ 135 → s.m r = t.m r) ∧ ∀ k, k ≠ 4 → k ≠ 6 → k ≠ 7 → k ≠ 10 → s.m 132 k = t.m 132 k
theorem lY.rf : lY t t := ⟨fun _ _ _ _ => rfl, fun _ _ _ _ _ => rfl⟩
theorem lY.tr {a b c : zD P} (h : lY a b) (h2 : lY b c) : lY a c := ⟨fun r r1 r2 r3 => (h2.1 r r1 r2 r3).trans (h.1 r r1 r2 r3), fun k k1 k2 k3 k4 => (h2.2 k k1 k2 k3 k4).trans (h.2 k k1 k2 k3 k4)⟩
theorem lX.y {a b : zD P} (h : lX a b) : lY a b := ⟨h.1, fun k k1 k2 _ k4 => h.2 k k1 k2 k4⟩
theorem lY.up7 {s : zD P} {x : Int} (h : lY t s) : lY t (s.up 132 7 x) := ⟨fun r r1 r2 r3 => by rw [up_ne r1]; exact h.1 r r1 r2 r3, fun k k1 k2 k3 k4 => by rw [u_132_7, zfu_n, if_neg k3]; exact h.2 k k1 k2 k3 k4⟩
theorem src_lY {s : zD P} {H : Int → Int} {n : Int} (h : src t H n) (f : lY t s) (e : ∀ q : Nat, 4344 ≤ q → s.m 133 q = t.m 133 q) : src s H n := by
  unfold src at h ⊢
  rw [f.2 8 (by decide) (by decide) (by decide) (by decide), f.1 134 (by decide) (by decide) (by decide)]
  rcases h with h | ⟨h1, h2, h3⟩
  · exact Or.inl h
  · refine Or.inr ⟨h1, h2, fun k k0 k1 => ?_⟩
    rw [e _ (by rw [zix_id (by omega)]; omega)]
    exact h3 k k0 k1
theorem src_lay {s : zD P} {H : Int → Int} {n : Int} (h : src t H n) (f : lX t s) (e : ∀ q : Nat, 4344 ≤ q → s.m 133 q = t.m 133 q) : src s H n := by
  unfold src at h ⊢
  rw [f.2 8 (by decide) (by decide) (by decide), f.1 134 (by decide) (by decide) (by decide)]
  rcases h with h | ⟨h1, h2, h3⟩
  · exact Or.inl h
  · refine Or.inr ⟨h1, h2, fun k k0 k1 => ?_⟩
    rw [e _ (by rw [zix_id (by omega)]; omega)]
    exact h3 k k0 k1
/-- in a pair: so many words of a side laid, or there is no room -/
def SI (t : zD P) (F : Nat → Int) (ln : Int → Int → Int) (ky : Int → Int → Int → Int) (R r side kk : Int) (u : zD P) : Prop := lX t u ∧ ((u.m 132 10 = 1 ∧ LQ (u.m 133) F ln ky r (KF ln side r kk) (VR F ln ky r (KF ln side r kk))) ∨ (u.m 132 10 = 0 ∧ OVF F ln ky R ∧ prs (u.m 133) = prs F + r ∧ ∀ q : Nat, 4344 ≤ q → u.m 133 q = F q))
theorem SI.hi {R r side kk : Int} {u : zD P} (h : SI t F ln ky R r side kk u) : ∀ q : Nat, 4344 ≤ q → u.m 133 q = F q := by
  rcases h.2 with ⟨-, g⟩ | ⟨-, -, -, g⟩
  · exact g.1.2.2.2.2.2.2.2
  · exact g
theorem SI.x {R r side kk : Int} {u u' : zD P} (h : SI t F ln ky R r side kk u) (f : mX u u') : SI t F ln ky R r side kk u' := by
  refine ⟨h.1.tr f.l, ?_⟩
  rw [f.2 10 (by decide) (by decide), f.1 133 (by decide) (by decide)]
  exact h.2
theorem lay_ok (hF : WFc F) {H : Int → Int} {n R r side q : Int} (r0 : 0 ≤ r) (r1 : r < R) (l6 : ∀ s q, 0 ≤ s → s < 2 → 0 ≤ q → q < R → 1 ≤ ln s q ∧ ln s q ≤ 6) (s0 : 0 ≤ side) (s1 : side < 2) (hz : (sen H 6 0 q).1 = 0) (hl : ln side r = (sen H 6 0 q).2.2) (hk : ∀ i, ky side r i = kyW H (wst H q i)) : layS H n side 1 q (SI t F ln ky R r side) := by
  intro kk s k0 k6 hi hr w1 hh hlt
  refine ⟨fun hh => absurd hh (by decide), fun _ => ?_⟩
  have klt := hlt hz
  rw [← hl] at klt
  have lm := fun x q x0 x1 q0 (q1 : q < r) => (l6 x q x0 x1 q0 (by omega)).2
  have ek : KF ln side r kk side = kk := if_pos rfl
  have wl := wln_le (H := H) (q := wst H q kk)
  have vd : vad (VR F ln ky r (KF ln side r kk) side) (ky side r kk) = vrw (ky side) r (kk + 1) (vall (ln side) (ky side) r (vF F side)) := by
    unfold VR
    rw [ek, vrw_s k0]
  rcases hi.2 with ⟨hroom, hq⟩ | ⟨hroom, hov, hp, hf⟩
  · refine Or.inr ⟨hroom, ?_⟩
    have L := n_laysHand hF r0 lm rfl hq s0 s1 (by rw [ek]; exact k6) hh w1 (kyW_ok (by omega)) (by rw [ek, hk]; rfl)
    rw [ek] at L
    refine Ok_mono L (fun v u f => ?_)
    rcases f with ⟨rfl, fx, hq'⟩ | ⟨rfl, eu, hov⟩
    · have e10 : (u.up 132 10 1).m 132 10 = 1 := by rw [u_132_10, zfu_n, if_pos rfl]
      have e133 : (u.up 132 10 1).m 133 = u.m 133 := up_ne (by decide)
      have fl : lX s (u.up 132 10 1) := (lX.f fx).up10
      have hi' : ∀ q : Nat, 4344 ≤ q → (u.up 132 10 1).m 133 q = s.m 133 q := fun q hq2 => by
        rw [e133, hq'.1.2.2.2.2.2.2.2 q hq2, hq.1.2.2.2.2.2.2.2 q hq2]
      refine ⟨Or.inr rfl, ⟨⟨?_, ?_⟩, src_lay hr.2.1 fl hi', hr.2.2⟩, hi.1.tr fl, Or.inl ⟨e10, ?_⟩⟩
      · rw [u_132_10, zfu_n, if_neg (by decide), fx 132 (by decide)]; exact hr.1.1
      · rw [u_132_10, zfu_n, if_neg (by decide), fx 132 (by decide)]; exact hr.1.2
      · rw [e133]
        refine LQ_co hq' (fun x x0 x1 => ?_) (fun x x0 x1 => ?_)
        · unfold KF
          by_cases c : x = side
          · rw [if_pos c, if_pos c]
          · rw [if_neg c, if_neg c, if_neg c]
        · by_cases c : x = side
          · rw [if_pos c, vd, c]
            unfold VR
            rw [show KF ln side r (kk + 1) side = kk + 1 from if_pos rfl]
          · rw [if_neg c]
            unfold VR KF
            rw [if_neg c, if_neg c]
    · rw [eu]
      have e10 : (s.up 132 10 0).m 132 10 = 0 := by rw [u_132_10, zfu_n, if_pos rfl]
      have e133 : (s.up 132 10 0).m 133 = s.m 133 := up_ne (by decide)
      have fl : lX s (s.up 132 10 0) := lX.rf.up10
      refine ⟨Or.inl rfl, ⟨⟨?_, ?_⟩, src_lay hr.2.1 fl (fun q _ => by rw [e133]), hr.2.2⟩, hi.1.tr fl, Or.inr ⟨e10, ?_, ?_, ?_⟩⟩
      · rw [u_132_10, zfu_n, if_neg (by decide)]; exact hr.1.1
      · rw [u_132_10, zfu_n, if_neg (by decide)]; exact hr.1.2
      · rw [vd] at hov
        have hl0 : ∀ q, 0 ≤ q → q < R → 0 ≤ ln side q := fun q q0 q1 => by have := l6 side q s0 s1 q0 q1; omega
        have x1 := vx_rw (ky := ky side) (r := r) (v := vall (ln side) (ky side) r (vF F side)) (a := kk + 1) (b := ln side r) (by omega) (by omega)
        rw [← vall_s r0] at x1
        have x2 := vx_all (ky := ky side) (v := vF F side) hl0 (a := r + 1) (b := R) (by omega) (by omega) (Int.le_refl R)
        have x3 := (vx_tr x1 x2).1
        have x4 : 40 < (vG F ln ky R side).1 := Int.lt_of_lt_of_le hov x3
        rcases (by omega : side = 0 ∨ side = 1) with e | e
        · rw [e] at x4; exact Or.inl x4
        · rw [e] at x4; exact Or.inr x4
      · rw [e133]; exact hq.1.1
      · rw [e133]; exact hq.1.2.2.2.2.2.2.2
  · exact Or.inl ⟨hroom, hi.1, Or.inr ⟨hroom, hov, hp, hf⟩⟩
/-- between pairs -/
def PI (t : zD P) (F : Nat → Int) (ln : Int → Int → Int) (ky : Int → Int → Int → Int) (R r : Int) (u : zD P) : Prop := lY t u ∧ ((u.m 132 10 = 1 ∧ LI (u.m 133) F ln ky r (VR F ln ky r (fun _ => 0))) ∨ (u.m 132 10 = 0 ∧ OVF F ln ky R ∧ prs (u.m 133) = prs F + r ∧ ∀ q : Nat, 4344 ≤ q → u.m 133 q = F q))
theorem PI.p {R r : Int} {u : zD P} (h : PI t F ln ky R r u) : u.m 133 (zix 0) = prs F + r := by
  rcases h.2 with ⟨-, g⟩ | ⟨-, -, g, -⟩
  · exact g.1
  · exact g
theorem PI.hi {R r : Int} {u : zD P} (h : PI t F ln ky R r u) : ∀ q : Nat, 4344 ≤ q → u.m 133 q = F q := by
  rcases h.2 with ⟨-, g⟩ | ⟨-, -, -, g⟩
  · exact g.2.2.2.2.2.2.2
  · exact g
/-- twenty cells are made 0 -/
theorem PI_0 (hF : WFc F) {R r : Int} {u u' : zD P} (r0 : 0 ≤ r) (r1 : r < R) (h24 : prs F + R ≤ 24) (l6 : ∀ s q, 0 ≤ s → s < 2 → 0 ≤ q → q < R → 1 ≤ ln s q ∧ ln s q ≤ 6) (h : PI t F ln ky R r u) (e10 : u'.m 132 10 = u.m 132 10) (e : ∀ q : Nat, u'.m 133 q = if 24 + 20 * (prs F + r) ≤ q ∧ (q : Int) < 24 + 20 * (prs F + r) + 20 then 0 else u.m 133 q) : SI u' F ln ky R r 0 0 u' := by
  have p0 := hF.1
  refine ⟨lX.rf, ?_⟩
  rcases h.2 with ⟨hr, g⟩ | ⟨hr, ho, hp, hh⟩
  · refine Or.inl ⟨e10.trans hr, ?_⟩
    refine LQ_co (LQ_0 hF r0 (by omega) (fun s q s0 s1 q0 q1 => (l6 s q s0 s1 q0 (by omega)).2) g e) (fun x x0 x1 => ?_) (fun x x0 x1 => ?_)
    · unfold KF
      by_cases c : x = 0
      · rw [if_pos c]
      · rw [if_neg c, if_neg (by omega)]
    · unfold VR KF
      by_cases c : x = 0
      · rw [if_pos c]
      · rw [if_neg c, if_neg (by omega)]
  · refine Or.inr ⟨e10.trans hr, ho, ?_, fun q hq => ?_⟩
    · unfold prs at hp ⊢
      rw [e, if_neg (by rw [zix_id (by omega)]; omega)]
      exact hp
    · rw [e q, if_neg (by omega)]
      exact hh q hq
theorem SI_1 {R r : Int} {u : zD P} (h : SI t F ln ky R r 0 (ln 0 r) u) : SI t F ln ky R r 1 0 u := by
  refine ⟨h.1, ?_⟩
  rcases h.2 with ⟨hr, g⟩ | g
  · have ek : ∀ x, 0 ≤ x → x < 2 → KF ln 1 r 0 x = KF ln 0 r (ln 0 r) x := fun x x0 x1 => by
      unfold KF
      by_cases c : x = 0
      · rw [if_neg (by omega), if_pos ⟨c, rfl⟩, if_pos c]
      · rw [if_pos (by omega), if_neg c, if_neg (by omega)]
    exact Or.inl ⟨hr, LQ_co g ek (fun x x0 x1 => by unfold VR; rw [ek x x0 x1])⟩
  · exact Or.inr g
theorem SI_end (hF : WFc F) {R r : Int} {u : zD P} (r0 : 0 ≤ r) (r1 : r < R) (l6 : ∀ s q, 0 ≤ s → s < 2 → 0 ≤ q → q < R → 1 ≤ ln s q ∧ ln s q ≤ 6) {b : zD P} (hb : lY t b) (h : SI b F ln ky R r 1 (ln 1 r) u) : PI t F ln ky R (r + 1) (u.up 133 (zix 0) (prs F + r + 1)) := by
  have z0 : zix 0 = 0 := by rw [zix_id (by omega)]; rfl
  have e : ∀ q : Nat, (u.up 133 (zix 0) (prs F + r + 1)).m 133 q = if q = 0 then prs F + r + 1 else u.m 133 q := fun q => by
    rw [u_133, zfu_n, z0]
  have e10 : (u.up 133 (zix 0) (prs F + r + 1)).m 132 10 = u.m 132 10 := by rw [up_ne (by decide)]
  refine ⟨hb.tr h.1.upF.y, ?_⟩
  rcases h.2 with ⟨hr, g⟩ | ⟨hr, ho, hp, hh⟩
  · refine Or.inl ⟨e10.trans hr, ?_⟩
    have g2 := LQ_co (k' := fun s => ln s r) g (fun x x0 x1 => by
      unfold KF
      by_cases c : x = 1
      · rw [if_pos c, c]
      · rw [if_neg c, if_pos ⟨by omega, rfl⟩]
        have : x = 0 := by omega
        rw [this]) (fun _ _ _ => rfl)
    refine LI_co (LQ_end hF r0 (fun s q s0 s1 q0 q1 => l6 s q s0 s1 q0 (by omega)) g2 e) (fun x x0 x1 => ?_)
    unfold VR KF
    rw [vrw_0, vall_s r0]
    by_cases c : x = 1
    · rw [if_pos c, c]
    · have : x = 0 := by omega
      rw [if_neg c, if_pos ⟨this, rfl⟩, this]
  · refine Or.inr ⟨e10.trans hr, ho, ?_, fun q hq => ?_⟩
    · refine Eq.trans (e (zix 0)) ?_
      rw [if_pos z0]
      omega
    · rw [e q, if_neg (by omega)]
      exact hh q hq
end
