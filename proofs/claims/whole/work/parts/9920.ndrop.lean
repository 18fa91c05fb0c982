/-! DROP, the model. -/
noncomputable def dC (F : Nat → Int) (a b : Int) : Nat → Int := fun q => if q = 0 then prs F - 1 else if q = 4 then a else if q = 5 then b else F q
theorem dC_r {F : Nat → Int} {a b : Int} : prs (dC F a b) = prs F - 1 ∧ wds (dC F a b) 0 = a ∧ wds (dC F a b) 1 = b ∧ ∀ x : Int, (0 ≤ x ∧ x ≤ 2147483647) → x ≠ 0 → x ≠ 4 → x ≠ 5 → dC F a b (zix x) = F (zix x) := by
  refine ⟨?_, ?_, ?_, fun x x0 x1 x2 x3 => ?_⟩
  · show dC F a b (zix 0) = _
    rw [zix_id (by omega)]
    exact if_pos rfl
  · show dC F a b (zix (4 + 0)) = _
    rw [zix_id (by omega)]
    unfold dC
    rw [if_neg (by decide), if_pos (by decide)]
  · show dC F a b (zix (4 + 1)) = _
    rw [zix_id (by omega)]
    unfold dC
    rw [if_neg (by decide), if_neg (by decide), if_pos (by decide)]
  · unfold dC
    rw [zix_id (by omega), if_neg (by omega), if_neg (by omega), if_neg (by omega)]
section
variable {P : zP} {d t : zD P} {F : Nat → Int}
theorem n_isUsed (hw : WFc F) {C : Nat → Int} (hC : t.m 133 = C) {s w N : Int} (s0 : 0 ≤ s) (s1 : s < 2) (hw0 : 0 ≤ w ∧ w ≤ 40) (N0 : 0 ≤ N) (NF : N ≤ prs F) (hN : prs C = N) (hl : ∀ p, 0 ≤ p → p < N → lng C p s = lng F p s) (hr : ∀ p i, 0 ≤ p → p < N → 0 ≤ i → i < lng F p s → wrd C p s i = wrd F p s i) : Ok (m_isUsed t s w) (fun v u => u = t ∧ ((v = 1 ∧ ∃ p i, ((0 ≤ p ∧ p < N) ∧ 0 ≤ i ∧ i < lng F p s) ∧ wrd F p s i = w) ∨ (v = 0 ∧ ∀ p i, ((0 ≤ p ∧ p < N) ∧ 0 ≤ i ∧ i < lng F p s) → wrd F p s i ≠ w))) := by
  have y0 : zin 0 18180 := of_eq_true (zinT (by omega))
  have p24 := hw.1
  have w40 := (hw.2.2.2.1 s s0 s1).1
  have e0 : C (zix 0) = N := hN
  rw [m_isUsed_e]
  refine lpM (fun p u (g : zV) => m_isUsed_2 u s w p g) (fun p u _ => u = t ∧ ∀ q i, 0 ≤ q → q < p → 0 ≤ i → i < lng F q s → wrd F q s i ≠ w) 0 N N0 t (3, 0) ⟨rfl, fun q i a b => by omega⟩ (fun u g hi => ?_) (fun p u g p0 p1 hi hnext => ?_)
  · obtain ⟨rfl, hi⟩ := hi
    (try dsimp only)
    rw [m_isUsed_2_e, if_pos y0, hC, e0, if_pos (by omega)]
    exact Ok_ret ⟨rfl, Or.inr ⟨rfl, fun q i hc => hi q i hc.1.1 hc.1.2 hc.2.1 hc.2.2⟩⟩
  · obtain ⟨rfl, hi⟩ := hi
    have lp := hw.2.1 p s p0 (by omega) s0 s1
    (try dsimp only)
    rw [m_isUsed_2_e, if_pos y0, hC, e0, if_neg (by rw [wr_id (by omega), wr_id (by omega)]; omega)]
    refine lpD (fun k v => m_isUsed_10 v s w p k) (fun k v => v = u ∧ ∀ i, 0 ≤ i → i < k → wrd F p s i ≠ w) 0 (lng F p s) (by omega) u ⟨rfl, fun i a b => by omega⟩ (fun v hv => ?_) (fun k v k0 k1 hv hnx => ?_)
    · obtain ⟨rfl, hv⟩ := hv
      (try dsimp only)
      rw [m_isUsed_10_e, n_longOf hC p0 (by omega) s0 s1, Option.bind_some]
      (try dsimp only)
      rw [hl p p0 p1, if_pos (by omega)]
      refine hnext _ _ ⟨rfl, fun q i a b c f => ?_⟩
      by_cases e : q = p
      · rw [e] at f ⊢; exact hv i c f
      · exact hi q i a (by omega) c f
    · obtain ⟨rfl, hv⟩ := hv
      have wb := hw.2.2.1 p s k p0 (by omega) s0 s1 k0 k1
      (try dsimp only)
      rw [m_isUsed_10_e, n_longOf hC p0 (by omega) s0 s1, Option.bind_some]
      (try dsimp only)
      rw [hl p p0 p1, if_neg (by rw [wr_id (by omega), wr_id (by omega)]; omega), n_wordOf hC p0 (by omega) s0 s1 k0 (by omega), Option.bind_some]
      (try dsimp only)
      rw [hr p k p0 p1 k0 k1, wr_id (by omega), wr_id (by omega)]
      by_cases e : wrd F p s k = w
      · rw [if_neg (fun hh => hh e)]
        exact Ok_ret ⟨rfl, Or.inl ⟨rfl, p, k, ⟨⟨p0, p1⟩, k0, k1⟩, e⟩⟩
      · rw [if_pos e]
        refine hnx _ ⟨rfl, fun i a b => ?_⟩
        by_cases ei : i = k
        · rw [ei]; exact e
        · exact hv i a (by omega)
/-- a side's words go down to the greatest that stands -/
theorem n_drop22 (hw : WFc F) (h1 : 1 ≤ prs F) {s : Int} (s0 : 0 ≤ s) (s1 : s < 2) {Q : Int → zD P → Prop} {a b : Int} (hq : ∀ u : zD P, Fx (fun r => r = 133) t u → u.m 133 = (if s = 0 then dC F (mxR F 0 (prs F - 1)) b else dC F a (mxR F 1 (prs F - 1))) → Ok (m_drop_19 u (s + 1)) Q) : ∀ (m : Nat) (x : Int) (u : zD P), x = mxR F s (prs F - 1) + m → x ≤ wds F s → Fx (fun r => r = 133) t u → u.m 133 = (if s = 0 then dC F x b else dC F a x) → Ok (m_drop_22 u s) Q := by
  have zz : wr 0 = 0 := rfl
  have oz : ¬ wr 1 = 0 := by rw [wr_id (by omega)]; omega
  have w40 := (hw.2.2.2.1 s s0 s1).1
  have mp := mxR_p (F := F) (s := s) (N := prs F - 1) (by omega) (fun p p0 p1 => by have := hw.2.1 p s p0 (by omega) s0 s1; omega) (fun p i p0 p1 i0 i1 => (hw.2.2.1 p s i p0 (by omega) s0 s1 i0 i1).1)
  have p24 := hw.1
  have rd : ∀ (x : Int), prs (if s = 0 then dC F x b else dC F a x) = prs F - 1 ∧ wds (if s = 0 then dC F x b else dC F a x) s = x ∧ (∀ p, 0 ≤ p → p < prs F - 1 → lng (if s = 0 then dC F x b else dC F a x) p s = lng F p s) ∧ (∀ p i, 0 ≤ p → p < prs F - 1 → 0 ≤ i → i < lng F p s → wrd (if s = 0 then dC F x b else dC F a x) p s i = wrd F p s i) := fun x => by
    have ra : ∀ (y z : Int), (∀ p, 0 ≤ p → p < prs F - 1 → lng (dC F y z) p s = lng F p s) ∧ (∀ p i, 0 ≤ p → p < prs F - 1 → 0 ≤ i → i < lng F p s → wrd (dC F y z) p s i = wrd F p s i) := fun y z => by
      obtain ⟨r1, r2, r3, r4⟩ := dC_r (F := F) (a := y) (b := z)
      refine ⟨fun p p0 p1 => r4 ((24 + (20 * p)) + s) (by omega) (by omega) (by omega) (by omega), fun p i p0 p1 i0 i1 => ?_⟩
      have l := hw.2.1 p s p0 (by omega) s0 s1
      exact r4 ((((24 + (20 * p)) + 2) + (6 * s)) + i) (by omega) (by omega) (by omega) (by omega)
    rcases (by omega : s = 0 ∨ s = 1) with rfl | rfl
    · rw [if_pos rfl]
      obtain ⟨r1, r2, r3, r4⟩ := dC_r (F := F) (a := x) (b := b)
      exact ⟨r1, r2, (ra x b).1, (ra x b).2⟩
    · rw [if_neg (by decide)]
      obtain ⟨r1, r2, r3, r4⟩ := dC_r (F := F) (a := a) (b := x)
      exact ⟨r1, r3, (ra a x).1, (ra a x).2⟩
  intro m
  induction m with
  | zero =>
    intro x u hx hxw fx hF
    have e : x = mxR F s (prs F - 1) := by omega
    have r := rd x
    rw [m_drop_22_e, n_words hF s0 s1, Option.bind_some]
    (try dsimp only)
    rw [r.2.1]
    have done : Ok (m_drop_19 u (s + 1)) Q := by
      refine hq u fx ?_
      rw [hF, e]
      rcases (by omega : s = 0 ∨ s = 1) with rfl | rfl
      · rw [if_pos rfl, if_pos rfl]
      · rw [if_neg (by decide), if_neg (by decide)]
    by_cases c : x ≤ 0
    · rw [if_pos (by rw [wr_id (by omega)]; exact c)]
      exact done
    · rw [if_neg (by rw [wr_id (by omega)]; exact c), n_words hF s0 s1, Option.bind_some]
      (try dsimp only)
      rw [r.2.1]
      refine Ok_bind (n_isUsed hw hF s0 s1 (w := x - 1) (by omega) (by omega) (by omega) r.1 r.2.2.1 r.2.2.2) (fun v u' f => ?_)
      obtain ⟨rfl, f⟩ := f
      rcases f with ⟨rfl, -⟩ | ⟨rfl, hno⟩
      · (try dsimp only)
        rw [if_pos oz]
        exact done
      · rcases mp.2.2 with q | ⟨p, i, hc, q⟩
        · omega
        · exact absurd (show wrd F p s i = x - 1 by omega) (hno p i hc)
  | succ m ih =>
    intro x u hx hxw fx hF
    have r := rd x
    have zs : zin (4 + s) 18180 := of_eq_true (zinT (by omega))
    rw [m_drop_22_e, n_words hF s0 s1, Option.bind_some]
    (try dsimp only)
    rw [r.2.1, if_neg (by rw [wr_id (by omega)]; omega), n_words hF s0 s1, Option.bind_some]
    (try dsimp only)
    rw [r.2.1]
    refine Ok_bind (n_isUsed hw hF s0 s1 (w := x - 1) (by omega) (by omega) (by omega) r.1 r.2.2.1 r.2.2.2) (fun v u' f => ?_)
    obtain ⟨rfl, f⟩ := f
    rcases f with ⟨rfl, p, i, hc, q⟩ | ⟨rfl, hno⟩
    · have := mp.2.1 p i hc
      omega
    · (try dsimp only)
      rw [if_neg (fun hh => hh zz), n_words hF s0 s1, Option.bind_some]
      (try dsimp only)
      rw [r.2.1, if_pos zs]
      refine ih (x - 1) _ (by omega) (by omega) (fx.up rfl) ?_
      rw [u_133, hF]
      funext q
      rw [zfu_n, zix_id (by omega)]
      rcases (by omega : s = 0 ∨ s = 1) with rfl | rfl
      · rw [if_pos rfl, if_pos rfl]
        unfold dC
        by_cases e : q = 4
        · rw [if_pos (by omega), if_neg (by omega), if_pos e]
        · rw [if_neg (by omega), if_neg e, if_neg e]
      · rw [if_neg (show ¬ (1 : Int) = 0 by decide), if_neg (show ¬ (1 : Int) = 0 by decide)]
        unfold dC
        by_cases e : q = 5
        · rw [if_pos (by omega), if_neg (by omega), if_neg (by omega), if_pos e]
        · rw [if_neg (by omega), if_neg e, if_neg e]
theorem n_drop (hF : t.m 133 = F) (hw : WFc F) : Ok (m_drop t) (fun v s => nF t s ∧ s.m 132 3 = t.m 132 3 ∧ s.m 134 = t.m 134 ∧ (prs F = 0 → v = -1 ∧ s = t) ∧ (1 ≤ prs F → v = prs F - 1 ∧ s.m 133 = mkF (dpF F))) := by
  have y0 : zin 0 18180 := of_eq_true (zinT (by omega))
  have p24 := hw.1
  have eF : F (zix 0) = prs F := rfl
  rw [m_drop_e, if_pos y0, hF, eF]
  by_cases c : prs F = 0
  · rw [if_neg (by rw [c]; exact fun hh => hh rfl)]
    exact Ok_ret ⟨nF.rf, rfl, rfl, fun _ => ⟨rfl, rfl⟩, fun hh => by omega⟩
  · obtain ⟨dwc, dle⟩ := dpF_wf hw (by omega)
    rw [if_pos (by rw [wr_id (by omega)]; exact c), if_pos y0, if_pos y0]
    have b0 : (t.up 133 (zix 0) (prs F - 1)).m 133 = (if (0 : Int) = 0 then dC F (wds F 0) (wds F 1) else dC F 0 (wds F 0)) := by
      rw [if_pos rfl, u_133, hF]
      funext q
      rw [zfu_n, zix_id (by omega)]
      unfold dC
      have w0 : wds F 0 = F 4 := by unfold wds; rw [zix_id (by omega)]; rfl
      have w1 : wds F 1 = F 5 := by unfold wds; rw [zix_id (by omega)]; rfl
      by_cases e0 : q = 0
      · rw [if_pos (by omega), if_pos e0]
      · rw [if_neg (by omega), if_neg e0]
        by_cases e4 : q = 4
        · rw [if_pos e4, w0, e4]
        · rw [if_neg e4]
          by_cases e5 : q = 5
          · rw [if_pos e5, w1, e5]
          · rw [if_neg e5]
    have f0 : Fx (fun r => r = 133) t (t.up 133 (zix 0) (prs F - 1)) := Fx.rf.up rfl
    generalize t.up 133 (zix 0) (prs F - 1) = u at b0 f0 ⊢
    have m0 := mxR_p (F := F) (s := 0) (N := prs F - 1) (by omega) (fun p p0 p1 => by have := hw.2.1 p 0 p0 (by omega) (by omega) (by omega); omega) (fun p i p0 p1 i0 i1 => (hw.2.2.1 p 0 i p0 (by omega) (by omega) (by omega) i0 i1).1)
    have m1 := mxR_p (F := F) (s := 1) (N := prs F - 1) (by omega) (fun p p0 p1 => by have := hw.2.1 p 1 p0 (by omega) (by omega) (by omega); omega) (fun p i p0 p1 i0 i1 => (hw.2.2.1 p 1 i p0 (by omega) (by omega) (by omega) i0 i1).1)
    have l0 := dle 0 (by omega) (by omega)
    have l1 := dle 1 (by omega) (by omega)
    rw [m_drop_19_e, if_neg (by rw [wr_id (by omega), wr_id (by omega)]; omega)]
    refine n_drop22 hw (by omega) (s := 0) (b := wds F 1) (a := 0) (by omega) (by omega) (fun u1 f1 hF1 => ?_) (wds F 0 - mxR F 0 (prs F - 1)).toNat (wds F 0) u (by omega) (Int.le_refl _) f0 (by rw [b0])
    rw [if_pos rfl] at hF1
    rw [m_drop_19_e, if_neg (by rw [wr_id (by omega), wr_id (by omega)]; omega), show (0 + 1 : Int) = 1 by omega]
    refine n_drop22 (t := t) hw (by omega) (s := 1) (a := mxR F 0 (prs F - 1)) (b := 0) (by omega) (by omega) (fun u2 f2 hF2 => ?_) (wds F 1 - mxR F 1 (prs F - 1)).toNat (wds F 1) u1 (by omega) (Int.le_refl _) f1 (by rw [hF1, if_neg (by decide)])
    rw [if_neg (by decide)] at hF2
    have hF2' : u2.m 133 = dpF F := hF2
    rw [m_drop_19_e, if_pos (by rw [wr_id (by omega), wr_id (by omega)]; omega)]
    refine Ok_bind (n_makesNew hF2' (wf_mkN dwc)) (fun v s f => ?_)
    have pG : mkF (dpF F) (zix 0) = prs F - 1 := by
      have S : SameA (dpF F) (mkF (dpF F)) := SameA.tr mkC_same mkF_same
      exact S.prs_.trans dpF_r.1
    (try dsimp only)
    rw [if_pos y0, f.1, pG]
    have e132 : s.m 132 = t.m 132 := by rw [f.2 132 (by omega) (by omega), f2 132 (by decide)]
    refine Ok_ret ⟨⟨fun r hr => by rw [f.2 r (by omega) (by omega), f2 r (by omega)], by rw [e132], by rw [e132]⟩, by rw [e132], by rw [f.2 134 (by omega) (by omega), f2 134 (by decide)], fun hh => absurd hh c, fun _ => ⟨rfl, f.1⟩⟩
end
