/-! DROP, both sides. -/
def mxS (F : Nat → Int) (s p : Int) (a : Int) : Int → Int := fun n => fo n a (fun k a => if a < wrd F p s k + 1 then wrd F p s k + 1 else a)
def mxR (F : Nat → Int) (s N : Int) : Int := fo N 0 (fun p a => mxS F s p a (lng F p s))
/-- greater than all, and the one behind one -/
def mxP (F : Nat → Int) (s : Int) (c : Int → Int → Prop) (a : Int) : Prop := (∀ p i, c p i → wrd F p s i < a) ∧ (a = 0 ∨ ∃ p i, c p i ∧ wrd F p s i + 1 = a)
theorem mxP_co {F : Nat → Int} {s a : Int} {c c' : Int → Int → Prop} (h : mxP F s c a) (e : ∀ p i, c' p i ↔ c p i) : mxP F s c' a := by
  refine ⟨fun p i hc => h.1 p i ((e p i).mp hc), ?_⟩
  rcases h.2 with h2 | ⟨p, i, hc, h2⟩
  · exact Or.inl h2
  · exact Or.inr ⟨p, i, (e p i).mpr hc, h2⟩
theorem mxP_s {F : Nat → Int} {s a p i : Int} {c c' : Int → Int → Prop} (h : mxP F s c a) (a0 : 0 ≤ a) (e : ∀ x y, c' x y ↔ (c x y ∨ (x = p ∧ y = i))) : mxP F s c' (if a < wrd F p s i + 1 then wrd F p s i + 1 else a) := by
  by_cases q : a < wrd F p s i + 1
  · rw [if_pos q]
    refine ⟨fun x y hc => ?_, Or.inr ⟨p, i, (e p i).mpr (Or.inr ⟨rfl, rfl⟩), rfl⟩⟩
    rcases (e x y).mp hc with hc | ⟨rfl, rfl⟩
    · have := h.1 x y hc; omega
    · omega
  · rw [if_neg q]
    refine ⟨fun x y hc => ?_, ?_⟩
    · rcases (e x y).mp hc with hc | ⟨rfl, rfl⟩
      · exact h.1 x y hc
      · omega
    · rcases h.2 with h2 | ⟨x, y, hc, h2⟩
      · exact Or.inl h2
      · exact Or.inr ⟨x, y, (e x y).mpr (Or.inl hc), h2⟩
theorem mxR_p {F : Nat → Int} {s N : Int} (N0 : 0 ≤ N) (hl : ∀ p, 0 ≤ p → p < N → 0 ≤ lng F p s) (hw : ∀ p i, 0 ≤ p → p < N → 0 ≤ i → i < lng F p s → 0 ≤ wrd F p s i) : 0 ≤ mxR F s N ∧ mxP F s (fun p i => (0 ≤ p ∧ p < N) ∧ 0 ≤ i ∧ i < lng F p s) (mxR F s N) := by
  refine fo_ind (I := fun N a => 0 ≤ a ∧ mxP F s (fun p i => (0 ≤ p ∧ p < N) ∧ 0 ≤ i ∧ i < lng F p s) a) N0 ⟨Int.le_refl _, fun p i hc => by omega, Or.inl rfl⟩ (fun p a p0 p1 hi => ?_)
  have := fo_ind (I := fun k b => 0 ≤ b ∧ mxP F s (fun x y => ((0 ≤ x ∧ x < p) ∧ 0 ≤ y ∧ y < lng F x s) ∨ (x = p ∧ 0 ≤ y ∧ y < k)) b) (s := a) (f := fun k a => if a < wrd F p s k + 1 then wrd F p s k + 1 else a) (n := lng F p s) (hl p p0 p1) ⟨hi.1, mxP_co hi.2 (fun x y => by omega)⟩ (fun k b k0 k1 hb => by
    have w := hw p k p0 p1 k0 k1
    refine ⟨by split <;> omega, mxP_s hb.2 hb.1 (fun x y => by omega)⟩)
  refine ⟨this.1, mxP_co this.2 (fun x y => ?_)⟩
  by_cases e : x = p
  · rw [e]; omega
  · omega
/-- the file without its latest pair, before shares -/
noncomputable def dpF (F : Nat → Int) : Nat → Int := fun q => if q = 0 then prs F - 1 else if q = 4 then mxR F 0 (prs F - 1) else if q = 5 then mxR F 1 (prs F - 1) else F q
theorem dpF_r {F : Nat → Int} : prs (dpF F) = prs F - 1 ∧ (∀ s, 0 ≤ s → s < 2 → wds (dpF F) s = mxR F s (prs F - 1)) ∧ ∀ x : Int, (0 ≤ x ∧ x ≤ 2147483647) → x ≠ 0 → x ≠ 4 → x ≠ 5 → dpF F (zix x) = F (zix x) := by
  refine ⟨?_, fun s s0 s1 => ?_, fun x x0 x1 x2 x3 => ?_⟩
  · show dpF F (zix 0) = _
    rw [zix_id (by omega)]
    exact if_pos rfl
  · unfold wds dpF
    rcases (by omega : s = 0 ∨ s = 1) with rfl | rfl
    · rw [zix_id (by omega), if_neg (by decide), if_pos (by decide)]
    · rw [zix_id (by omega), if_neg (by decide), if_neg (by decide), if_pos (by decide)]
  · unfold dpF
    rw [zix_id (by omega), if_neg (by omega), if_neg (by omega), if_neg (by omega)]
theorem dpF_wf {F : Nat → Int} (h : WFc F) (h1 : 1 ≤ prs F) : WFc (dpF F) ∧ (∀ s, 0 ≤ s → s < 2 → mxR F s (prs F - 1) ≤ wds F s) := by
  obtain ⟨r1, r2, r3⟩ := dpF_r (F := F)
  obtain ⟨g1, g2, g3, g4, g5, g6, g7, g8⟩ := h
  have mp := fun s s0 s1 => mxR_p (F := F) (s := s) (N := prs F - 1) (by omega) (fun p p0 p1 => by have := g2 p s p0 (by omega) s0 s1; omega) (fun p i p0 p1 i0 i1 => (g3 p s i p0 (by omega) s0 s1 i0 i1).1)
  have le : ∀ s, 0 ≤ s → s < 2 → mxR F s (prs F - 1) ≤ wds F s := fun s s0 s1 => by
    rcases (mp s s0 s1).2.2 with e | ⟨p, i, hc, e⟩
    · rw [e]; exact (g4 s s0 s1).1.1
    · have := (g3 p s i hc.1.1 (by omega) s0 s1 hc.2.1 hc.2.2).2
      omega
  have el : ∀ p s, 0 ≤ p → p < 24 → 0 ≤ s → s < 2 → lng (dpF F) p s = lng F p s := fun p s a b c f => r3 ((24 + (20 * p)) + s) (by omega) (by omega) (by omega) (by omega)
  have eW : ∀ p s i, 0 ≤ p → p < 24 → 0 ≤ s → s < 2 → 0 ≤ i → i < 6 → wrd (dpF F) p s i = wrd F p s i := fun p s i a b c f i0 i1 => r3 ((((24 + (20 * p)) + 2) + (6 * s)) + i) (by omega) (by omega) (by omega) (by omega)
  refine ⟨⟨by omega, fun p s a b c f => ?_, fun p s i a b c f i0 i1 => ?_, fun s s0 s1 => ?_, fun p i a b i0 i1 => ?_, by rw [show lst (dpF F) = lst F from r3 1 (by omega) (by omega) (by omega) (by omega)]; exact g6, by rw [show ltd (dpF F) = ltd F from r3 2 (by omega) (by omega) (by omega) (by omega)]; exact g7, by rw [show plc (dpF F) = plc F from r3 3 (by omega) (by omega) (by omega) (by omega)]; exact g8⟩, le⟩
  · rw [el p s a (by omega) c f]
    exact g2 p s a (by omega) c f
  · rw [el p s a (by omega) c f] at i1
    have l := g2 p s a (by omega) c f
    rw [eW p s i a (by omega) c f i0 (by omega), r2 s c f]
    exact ⟨(g3 p s i a (by omega) c f i0 i1).1, (mp s c f).2.1 p i ⟨⟨a, by omega⟩, i0, i1⟩⟩
  · have v := g4 s s0 s1
    have m := mp s s0 s1
    have l := le s s0 s1
    refine ⟨by rw [r2 s s0 s1]; have := v.1; omega, fun w w0 w1 => ?_⟩
    rw [r2 s s0 s1] at w1
    have vb := v.1
    refine (key_eq (C := F) (v.2 w w0 (by omega)) ?_ (fun k k0 k1 => ?_)).1
    · exact r3 (504 + (8 * ((40 * s) + w))) (by omega) (by omega) (by omega) (by omega)
    · exact r3 (((504 + (8 * ((40 * s) + w))) + 1) + k) (by omega) (by omega) (by omega) (by omega)
  · rw [show tld (dpF F) p i = tld F p i from r3 (((24 + (20 * p)) + 14) + i) (by omega) (by omega) (by omega) (by omega)]
    exact g5 p i a (by omega) i0 i1
section
variable {P : zP} {d t : zD P} {F : Nat → Int}
theorem k_wordsInPairs (hw : WFc F) {s N : Int} (s0 : 0 ≤ s) (s1 : s < 2) (N0 : 0 ≤ N) (NF : N ≤ prs F) (h14 : t.m 14 6 = N) (hl : ∀ p, 0 ≤ p → p < N → t.m (22 + (1 + zix s)) (zix p) = lng F p s) (hww : ∀ p i, 0 ≤ p → p < N → 0 ≤ i → i < lng F p s → t.m (25 + (1 + zix s)) (zix ((p * 6) + i)) = wrd F p s i) : co_wordsInPairs t s = some (mxR F s N, t) := by
  have z2 : zin s 2 := of_eq_true (zinT (by omega))
  have p24 := hw.1
  have w40 := (hw.2.2.2.1 s s0 s1).1
  rw [co_wordsInPairs_e]
  refine Ok_eq (lpM (fun p u (y : Int × zV) => co_wordsInPairs_4 u s y.1 p y.2) (fun p u y => u = t ∧ y.1 = fo p 0 (fun p a => mxS F s p a (lng F p s)) ∧ 0 ≤ y.1 ∧ y.1 ≤ 41) 0 N N0 t (0, (3, 0)) ⟨rfl, rfl, by omega, by omega⟩ (fun u y hi => ?_) (fun p u y p0 p1 hi hnext => ?_))
  · obtain ⟨a, g⟩ := y
    obtain ⟨rfl, ha, -⟩ := hi
    (try dsimp only at ha ⊢)
    rw [co_wordsInPairs_4_e, h14, if_pos (by omega)]
    exact Ok_ret ⟨ha, rfl⟩
  · obtain ⟨a, g⟩ := y
    obtain ⟨rfl, ha, a0, a1⟩ := hi
    have lp := hw.2.1 p s p0 (by omega) s0 s1
    have z24 : zin p 24 := of_eq_true (zinT (by omega))
    (try dsimp only at ha a0 a1 ⊢)
    rw [co_wordsInPairs_4_e, h14, if_neg (by rw [wr_id (by omega), wr_id (by omega)]; omega)]
    refine lpM (fun k v (b : Int) => co_wordsInPairs_10 v s b p k) (fun k v b => v = u ∧ b = mxS F s p a k ∧ 0 ≤ b ∧ b ≤ 41) 0 (lng F p s) (by omega) u a ⟨rfl, rfl, a0, a1⟩ (fun v b hi => ?_) (fun k v b k0 k1 hi hnx => ?_)
    · obtain ⟨rfl, hb, b0, b1⟩ := hi
      (try dsimp only)
      rw [co_wordsInPairs_10_e, if_pos z2, if_pos z24, hl p p0 p1, if_pos (by omega)]
      refine hnext _ (_, _) ⟨rfl, ?_, b0, b1⟩
      rw [fo_s _ _ p0, ← ha]
      exact hb
    · obtain ⟨rfl, hb, b0, b1⟩ := hi
      have w := hw.2.2.1 p s k p0 (by omega) s0 s1 k0 k1
      have z144 : zin ((p * 6) + k) 144 := of_eq_true (zinT (by omega))
      have wa : co_wordAt v s p k = some (wrd F p s k, v) := by
        rw [co_wordAt_e, if_neg (by rw [wr_id (by omega)]; omega), if_neg (by rw [wr_id (by omega), wr_id (by omega)]; omega), if_pos z2, if_pos z144, hww p k p0 p1 k0 k1]
      (try dsimp only)
      rw [co_wordsInPairs_10_e, if_pos z2, if_pos z24, hl p p0 p1, if_neg (by rw [wr_id (by omega), wr_id (by omega)]; omega), wa, Option.bind_some]
      (try dsimp only)
      have es : mxS F s p a (k + 1) = if b < wrd F p s k + 1 then wrd F p s k + 1 else b := by
        unfold mxS at hb ⊢
        rw [fo_s _ _ k0, ← hb]
      rw [wr_id (x := b) (by omega), wr_id (x := wrd F p s k + 1) (by omega)]
      refine hnx _ _ ⟨rfl, es.symm, ?_, ?_⟩
      · split <;> omega
      · split <;> omega
def dpS : Nat → Prop := fun r => (14 ≤ r ∧ r < 29) ∨ (36 ≤ r ∧ r < 41) ∨ (109 ≤ r ∧ r < 113)
theorem k_drop (h : CI d F) : Ok (wl_drop d) (fun v s => Fx tkP d s ∧ (prs F = 0 → v = -1 ∧ s = d) ∧ (1 ≤ prs F → v = prs F - 1 ∧ CI s (mkF (dpF F)))) := by
  have zz : wr 0 = 0 := rfl
  have oz : ¬ wr 1 = 0 := by rw [wr_id (by omega)]; omega
  have y0 : zin 0 2 := of_eq_true (zinT (by omega))
  have y1 : zin 1 2 := of_eq_true (zinT (by omega))
  have z0 : zix 0 = 0 := by rw [zix_id (by omega)]; rfl
  have z1 : zix 1 = 1 := by rw [zix_id (by omega)]; rfl
  have hw := h.wf
  have wc := hw.c
  have p24 := hw.prs_
  rw [wl_drop_e, co_removeLatest_e, h.1.prs_]
  by_cases c : prs F = 0
  · rw [if_neg (by rw [wr_id (by omega)]; omega), Option.bind_some]
    (try dsimp only)
    rw [if_neg (fun hh => hh zz)]
    exact Ok_ret ⟨Fx.rf, fun _ => ⟨rfl, rfl⟩, fun hh => by omega⟩
  · obtain ⟨dwc, dle⟩ := dpF_wf wc (by omega)
    obtain ⟨q1, q2, q3⟩ := dpF_r (F := F)
    rw [if_pos (by rw [wr_id (by omega)]; omega)]
    have rem : Ok (co_removeLatest_13 (d.up 14 6 (prs F - 1)) 0) (fun v s => v = 1 ∧ Fx aS d s ∧ CA s (mkN (dpF F))) := by
      refine lpD (fun k u => co_removeLatest_13 u k) (fun k u => Fx (fun r => r = 14 ∨ r = 28) d u ∧ u.m 14 6 = prs F - 1 ∧ ∀ p i, 0 ≤ p → p < 24 → 0 ≤ i → i < 6 → u.m 28 (zix ((p * 6) + i)) = if p = prs F - 1 ∧ i < k then 0 else d.m 28 (zix ((p * 6) + i))) 0 6 (by omega) _ ⟨Fx.rf.up (Or.inl rfl), by rw [u_14_6, zfu_n, if_pos rfl], fun p i a0 a1 i0 i1 => by rw [if_neg (by omega), up_ne (by decide)]⟩ (fun u hu => ?_) (fun k u k0 k1 hu hnext => ?_)
      · obtain ⟨u1, u2, u3⟩ := hu
        have cl : ∀ s p, 0 ≤ s → s < 2 → 0 ≤ p → p < prs F - 1 → u.m (22 + (1 + zix s)) (zix p) = lng F p s := fun s p s0 s1 a0 a1 => by
          have z := zix2 s0 s1
          rw [u1 _ (by omega)]; exact h.1.lng_ s0 s1 a0 (by omega)
        have cw : ∀ s p i, 0 ≤ s → s < 2 → 0 ≤ p → p < prs F - 1 → 0 ≤ i → i < lng F p s → u.m (25 + (1 + zix s)) (zix ((p * 6) + i)) = wrd F p s i := fun s p i s0 s1 a0 a1 i0 i1 => by
          have z := zix2 s0 s1
          rw [u1 _ (by omega)]; exact h.1.wrd_ s0 s1 a0 (by omega) i0 i1
        (try dsimp only)
        rw [co_removeLatest_13_e, if_pos (by rw [wr_id (by omega)]; omega), k_wordsInPairs wc (s := 0) (by omega) (by omega) (by omega) (by omega) u2 (fun p a0 a1 => cl 0 p (by omega) (by omega) a0 a1) (fun p i a0 a1 i0 i1 => cw 0 p i (by omega) (by omega) a0 a1 i0 i1), Option.bind_some]
        (try dsimp only)
        rw [if_pos y0]
        have w1 : co_wordsInPairs (u.up 15 (zix 0) (mxR F 0 (prs F - 1))) 1 = some (mxR F 1 (prs F - 1), u.up 15 (zix 0) (mxR F 0 (prs F - 1))) := k_wordsInPairs wc (s := 1) (by omega) (by omega) (by omega) (by omega) (by rw [up_ne (by decide)]; exact u2) (fun p a0 a1 => by rw [up_ne (by rw [z1]; decide)]; exact cl 1 p (by omega) (by omega) a0 a1) (fun p i a0 a1 i0 i1 => by rw [up_ne (by rw [z1]; decide)]; exact cw 1 p i (by omega) (by omega) a0 a1 i0 i1)
        rw [w1, Option.bind_some]
        (try dsimp only)
        rw [if_pos y1]
        have fx : Fx (fun r => r = 14 ∨ r = 15 ∨ r = 28) d ((u.up 15 (zix 0) (mxR F 0 (prs F - 1))).up 15 (zix 1) (mxR F 1 (prs F - 1))) := ((u1.mo (fun r hr => by omega)).up (Or.inr (Or.inl rfl))).up (Or.inr (Or.inl rfl))
        have e28 : ((u.up 15 (zix 0) (mxR F 0 (prs F - 1))).up 15 (zix 1) (mxR F 1 (prs F - 1))).m 28 = u.m 28 := by rw [up_ne (by decide), up_ne (by decide)]
        have e14 : ((u.up 15 (zix 0) (mxR F 0 (prs F - 1))).up 15 (zix 1) (mxR F 1 (prs F - 1))).m 14 6 = prs F - 1 := by rw [up_ne (by decide), up_ne (by decide)]; exact u2
        have e15 : ∀ s, 0 ≤ s → s < 2 → ((u.up 15 (zix 0) (mxR F 0 (prs F - 1))).up 15 (zix 1) (mxR F 1 (prs F - 1))).m 15 (zix s) = mxR F s (prs F - 1) := fun s s0 s1 => by
          rw [u_15, u_15, zfu_z (by omega)]
          rcases (by omega : s = 0 ∨ s = 1) with rfl | rfl
          · rw [if_neg (by omega), zfu_z (by omega), if_pos rfl]
          · rw [if_pos rfl]
        generalize (u.up 15 (zix 0) (mxR F 0 (prs F - 1))).up 15 (zix 1) (mxR F 1 (prs F - 1)) = w at fx e28 e14 e15 ⊢
        have hrb : RepB w.m 13 (dpF F) := by
          refine ⟨e14.trans q1.symm, fun s s0 s1 => (e15 s s0 s1).trans (q2 s s0 s1).symm, fun s x s0 s1 x0 x1 => ?_, fun s p s0 s1 a0 a1 => ?_, fun s p i s0 s1 a0 a1 i0 i1 => ?_, fun p i a0 a1 i0 i1 => ?_, ?_, ?_, ?_⟩
          · have z := zix2 s0 s1
            rw [q2 s s0 s1] at x1
            have l := dle s s0 s1
            have v := wc.2.2.2.1 s s0 s1
            have vb := v.1
            have ke := (key_eq (C := F) (C' := dpF F) (s := s) (w := x) (v.2 x x0 (by omega)) (q3 (504 + (8 * ((40 * s) + x))) (by omega) (by omega) (by omega) (by omega)) (fun k k0 k1 => q3 (((504 + (8 * ((40 * s) + x))) + 1) + k) (by omega) (by omega) (by omega) (by omega))).2
            rw [ke, fx _ (by omega)]
            exact h.1.key_ s0 s1 x0 (by omega)
          · have z := zix2 s0 s1
            rw [q1] at a1
            rw [show lng (dpF F) p s = lng F p s from q3 ((24 + (20 * p)) + s) (by omega) (by omega) (by omega) (by omega), fx _ (by omega)]
            exact h.1.lng_ s0 s1 a0 (by omega)
          · have z := zix2 s0 s1
            rw [q1] at a1
            rw [show lng (dpF F) p s = lng F p s from q3 ((24 + (20 * p)) + s) (by omega) (by omega) (by omega) (by omega)] at i1
            have l := wc.2.1 p s a0 (by omega) s0 s1
            rw [show wrd (dpF F) p s i = wrd F p s i from q3 ((((24 + (20 * p)) + 2) + (6 * s)) + i) (by omega) (by omega) (by omega) (by omega), fx _ (by omega)]
            exact h.1.wrd_ s0 s1 a0 (by omega) i0 i1
          · have q := h.1.2.2.2.2.2.2.2.1 p i a0 a1 i0 i1
            rw [show (13 + 15 : Nat) = 28 from rfl] at q ⊢
            rw [e28, u3 p i a0 a1 i0 i1, q1, show tld (dpF F) p i = tld F p i from q3 (((24 + (20 * p)) + 14) + i) (by omega) (by omega) (by omega) (by omega)]
            by_cases cp : p < prs F - 1
            · rw [if_neg (by omega), if_pos cp, q, if_pos (by omega)]
            · rw [if_neg cp]
              by_cases ce : p = prs F - 1
              · rw [if_pos (by omega)]
              · rw [if_neg (by omega), q, if_neg (by omega)]
          · rw [show ltd (dpF F) = ltd F from q3 2 (by omega) (by omega) (by omega) (by omega), fx 13 (by omega)]; exact h.1.ltd_
          · rw [show plc (dpF F) = plc F from q3 3 (by omega) (by omega) (by omega) (by omega), fx 13 (by omega)]; exact h.1.plc_
          · rw [show lst (dpF F) = lst F from q3 1 (by omega) (by omega) (by omega) (by omega), fx 13 (by omega)]; exact h.1.lst_
        refine Ok_bind (k_met dwc hrb) (fun v w2 f => ?_)
        exact Ok_ret ⟨rfl, (fx.mo (fun r hr => by unfold aS; omega)).tr (f.1.mo (fun r hr => by unfold m2S at hr; unfold aS; omega)), f.2⟩
      · obtain ⟨u1, u2, u3⟩ := hu
        have z144 : zin (((prs F - 1) * 6) + k) 144 := of_eq_true (zinT (by omega))
        (try dsimp only)
        rw [co_removeLatest_13_e, if_neg (by rw [wr_id (by omega), wr_id (by omega)]; omega), u2, if_pos z144]
        refine hnext _ ?_
        refine ⟨u1.up (Or.inr rfl), by rw [up_ne (by decide)]; exact u2, fun p i a0 a1 i0 i1 => ?_⟩
        rw [u_28, zfu_z (by omega), u3 p i a0 a1 i0 i1]
        by_cases e : (p * 6) + i = ((prs F - 1) * 6) + k
        · rw [if_pos e, if_pos (by omega)]
        · rw [if_neg e]
          by_cases e2 : p = prs F - 1 ∧ i < k
          · rw [if_pos e2, if_pos (by omega)]
          · rw [if_neg e2, if_neg (by omega)]
    refine Ok_bind rem (fun v s f => ?_)
    obtain ⟨rfl, fx, ca⟩ := f
    (try dsimp only)
    rw [if_pos oz]
    refine Ok_bind (k_begin ca) (fun v s2 f4 => ?_)
    have pG : s2.m 14 6 = prs F - 1 := by
      rw [f4.1.1.prs_]
      have S : SameA (dpF F) (mkF (dpF F)) := SameA.tr mkC_same mkF_same
      rw [S.prs_]; exact q1
    (try dsimp only)
    rw [pG]
    exact Ok_ret ⟨(fx.mo (fun r hr => by unfold aS at hr; unfold tkP; omega)).tr (fun r hr => f4.2 r (by unfold tkP at hr; omega) (by unfold tkP at hr; omega)), fun hh => absurd hh c, fun _ => ⟨rfl, f4.1⟩⟩
end
