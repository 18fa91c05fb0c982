/-! THE CLASS JOINS ITS PARTS. -/
/-- where a side stands after so many parts -/
def psS (H : Int → Int) (m s : Int) : Int := if s = 0 then (wkS H m).1 else (wkS H m).2
/-- the kind of a part -/
def knS (H : Int → Int) (m : Int) : Int := kiS H (wkS H m).1 (wkS H m).2
/-- rows of the joined parts: how many, their lengths, their keys -/
def jnS (H : Int → Int) (n : Int) : Int × (Int → Int → Int) × (Int → Int → Int → Int) := fo n (0, (fun _ _ => 0), (fun _ _ _ => 0)) (fun m y => if knS H m = 1 ∨ knS H m = 2 then y else (y.1 + 1, (fun s q => if q = y.1 then jlF H s (psS H m s) (tkF (knS H m) s) else y.2.1 s q), (fun s q i => if q = y.1 then jkF H s (psS H m s) i else y.2.2 s q i)))
theorem jnS_s {H : Int → Int} {m : Int} (h : 0 ≤ m) : jnS H (m + 1) = if knS H m = 1 ∨ knS H m = 2 then jnS H m else ((jnS H m).1 + 1, (fun s q => if q = (jnS H m).1 then jlF H s (psS H m s) (tkF (knS H m) s) else (jnS H m).2.1 s q), (fun s q i => if q = (jnS H m).1 then jkF H s (psS H m s) i else (jnS H m).2.2 s q i)) := fo_s _ _ h
/-- a part whose joined sentence is too long -/
def jfP (H : Int → Int) (m : Int) : Prop := ¬ (knS H m = 1 ∨ knS H m = 2) ∧ (6 < jlF H 0 (psS H m 0) (tkF (knS H m) 0) ∨ 6 < jlF H 1 (psS H m 1) (tkF (knS H m) 1))
section
variable {P : zP} {d t : zD P}
def jS : Nat → Prop := fun r => 97 ≤ r ∧ r < 103
theorem k_join {H : Int → Int} {n W : Int} (sg : sgn H n) (h : (shs H n).1 = 0) (sta : STA d) (ro0 : rO d.m 29 (shn H 0) (hln H (shq H 0)) (hky H (shq H 0))) (ro1 : rO d.m 32 (shn H 1) (hln H (shq H 1)) (hky H (shq H 1))) (hW : d.m 103 6 = W) (nk : nkS H W) (l5 : ∀ m, 0 ≤ m → m < W → d.m 105 (zix m) = kiS H (wkS H m).1 (wkS H m).2) : Ok (ma_join d) (fun v s => Fx jS d s ∧ ((∃ m, 0 ≤ m ∧ m < W ∧ jfP H m) → v = 0) ∧ ((∀ m, 0 ≤ m → m < W → ¬ jfP H m) → v = 1 ∧ rO s.m 97 (jnS H W).1 ((jnS H W).2.1 0) ((jnS H W).2.2 0) ∧ rO s.m 100 (jnS H W).1 ((jnS H W).2.1 1) ((jnS H W).2.2 1))) := by
  have hM := (sh_ok sg h (s := 0) (by omega) (by omega)).1
  have hN := (sh_ok sg h (s := 1) (by omega) (by omega)).1
  have W16 := nk.1
  rw [ma_join_e]
  obtain ⟨s1, e1, x1, o1⟩ := r_clear (t := d) (ln := (jnS H 0).2.1 0) (ky := (jnS H 0).2.2 0) (Or.inl rfl)
  rw [e1, Option.bind_some]
  (try dsimp only)
  obtain ⟨s2, e2, x2, o2⟩ := r_clear (t := s1) (ln := (jnS H 0).2.1 1) (ky := (jnS H 0).2.2 1) (Or.inr rfl)
  rw [e2, Option.bind_some]
  (try dsimp only)
  have X2 : Fx jS d s2 := fun r hr => (x2 r (by unfold jS at hr; unfold bS; omega)).trans (x1 r (by unfold jS at hr; unfold bS; omega))
  refine lpM (fun m s (y : zV × zV) => ma_join_10 s (wkS H m).1 (wkS H m).2 m y.1 y.2) (fun m s _ => Fx jS d s ∧ rO s.m 97 (jnS H m).1 ((jnS H m).2.1 0) ((jnS H m).2.2 0) ∧ rO s.m 100 (jnS H m).1 ((jnS H m).2.1 1) ((jnS H m).2.2 1) ∧ (0 ≤ (jnS H m).1 ∧ (jnS H m).1 ≤ (wkS H m).1) ∧ ∀ m', 0 ≤ m' → m' < m → ¬ jfP H m') 0 W W16.1 s2 ((3, 0), (3, 0)) ⟨X2, o1.fx x2 (by unfold bS; omega) (by unfold bS; omega) (by unfold bS; omega), o2, ⟨Int.le_refl _, Int.le_refl _⟩, fun m' a b => by omega⟩ (fun s y hi => ?_) (fun m s y m0 m1 hi hnext => ?_)
  · obtain ⟨i1, i2, i3, -, i5⟩ := hi
    (try dsimp only)
    rw [ma_join_10_e, i1 103 (by unfold jS; omega), hW, if_pos (by omega)]
    exact Ok_ret ⟨i1, fun ⟨m, a, b, c⟩ => absurd c (i5 m a b), fun _ => ⟨rfl, i2, i3⟩⟩
  · obtain ⟨i1, i2, i3, i4, i5⟩ := hi
    have y16 : zin m 16 := of_eq_true (zinT (by omega))
    have w := wk_in sg h nk m.toNat (by omega)
    rw [show ((m.toNat : Nat) : Int) = m by omega] at w
    have kn := nk.2.1 m m0 m1
    obtain ⟨K, hK⟩ : ∃ K, K = kiS H (wkS H m).1 (wkS H m).2 := ⟨_, rfl⟩
    have kr : (0 ≤ K ∧ K < 5) ∧ (wkS H m).1 + tkF K 0 ≤ shn H 0 ∧ (wkS H m).2 + tkF K 1 ≤ shn H 1 := by
      rw [hK]
      rcases kiS_r sg h (i := (wkS H m).1) (j := (wkS H m).2) (by omega) (by omega) with r | r
      · exact absurd r.1 kn
      · exact ⟨r.1, r.2.1⟩
    have tk := tkF_r kr.1.1 kr.1.2
    have y5 : zin K 5 := of_eq_true (zinT (by omega))
    have eK : knS H m = K := hK.symm
    have ew := wkS_s (H := H) m0
    rw [← hK] at ew
    have ej := jnS_s (H := H) m0
    rw [eK] at ej
    have e105 : s.m 105 (zix m) = K := by rw [i1 105 (by unfold jS; omega), l5 m m0 m1, hK]
    have stS : ∀ s' : zD P, Fx jS d s' → s'.m 1 (zix K) = tkF K 0 ∧ s'.m 2 (zix K) = tkF K 1 := fun s' f => by
      rw [f 1 (by unfold jS; omega), f 2 (by unfold jS; omega)]
      exact ⟨(sta K kr.1.1 kr.1.2).1, (sta K kr.1.1 kr.1.2).2.1⟩
    have nextAt : ∀ (s' : zD P) (g8 g9 : zV), Fx jS d s' → rO s'.m 97 (jnS H (m + 1)).1 ((jnS H (m + 1)).2.1 0) ((jnS H (m + 1)).2.2 0) → rO s'.m 100 (jnS H (m + 1)).1 ((jnS H (m + 1)).2.1 1) ((jnS H (m + 1)).2.2 1) → ((jnS H (m + 1)).1 ≤ (wkS H (m + 1)).1 ∧ 0 ≤ (jnS H (m + 1)).1) → ¬ jfP H m → Ok (ma_join_10 s' ((wkS H m).1 + tkF K 0) ((wkS H m).2 + tkF K 1) (m + 1) g8 g9) (fun v s => Fx jS d s ∧ ((∃ m, 0 ≤ m ∧ m < W ∧ jfP H m) → v = 0) ∧ ((∀ m, 0 ≤ m → m < W → ¬ jfP H m) → v = 1 ∧ rO s.m 97 (jnS H W).1 ((jnS H W).2.1 0) ((jnS H W).2.2 0) ∧ rO s.m 100 (jnS H W).1 ((jnS H W).2.1 1) ((jnS H W).2.2 1))) := fun s' g8 g9 f a b c no => by
      have nx := hnext s' (g8, g9) ⟨f, a, b, ⟨c.2, c.1⟩, fun m' q0 q1 => by
        by_cases e : m' = m
        · rw [e]; exact no
        · exact i5 m' q0 (by omega)⟩
      (try dsimp only at nx)
      rw [ew] at nx
      exact nx
    (try dsimp only)
    rw [ma_join_10_e, i1 103 (by unfold jS; omega), hW, if_neg (by rw [wr_id (by omega), wr_id (by omega)]; omega), if_pos y16, e105]
    have st0 := stS s i1
    by_cases c12 : K = 1 ∨ K = 2
    · rw [if_pos c12] at ej
      have fin : Ok (if zin K 5 then (if zin K 5 then ma_join_10 s ((wkS H m).1 + s.m 1 (zix K)) ((wkS H m).2 + s.m 2 (zix K)) (m + 1) (0, K) y.2 else none) else none) (fun v s => Fx jS d s ∧ ((∃ m, 0 ≤ m ∧ m < W ∧ jfP H m) → v = 0) ∧ ((∀ m, 0 ≤ m → m < W → ¬ jfP H m) → v = 1 ∧ rO s.m 97 (jnS H W).1 ((jnS H W).2.1 0) ((jnS H W).2.2 0) ∧ rO s.m 100 (jnS H W).1 ((jnS H W).2.1 1) ((jnS H W).2.2 1))) := by
        rw [if_pos y5, if_pos y5, st0.1, st0.2]
        exact nextAt s _ _ i1 (by rw [ej]; exact i2) (by rw [ej]; exact i3) (by rw [ej, ew]; (try dsimp only); omega) (fun x => x.1 (by rw [eK]; exact c12))
      by_cases e : K = 1
      · rw [if_pos (by rw [e])]
        exact fin
      · rw [if_neg (by rw [wr_id (by omega), wr_id (by omega)]; exact e), if_pos (by rw [show K = 2 by omega])]
        exact fin
    · rw [if_neg c12] at ej
      have k0 : 1 ≤ tkF K 0 := by
        rcases (by omega : K = 0 ∨ K = 3 ∨ K = 4) with e | e | e
        · rw [e]; decide
        · rw [e]; decide
        · rw [e]; decide
      have p0 : psS H m 0 = (wkS H m).1 := if_pos rfl
      have p1 : psS H m 1 = (wkS H m).2 := if_neg (by decide)
      rw [if_neg (by rw [wr_id (by omega), wr_id (by omega)]; omega), if_neg (by rw [wr_id (by omega), wr_id (by omega)]; omega), if_pos y5, st0.1]
      refine Ok_bind (k_maPut (w := 0) (Or.inl ⟨rfl, rfl, rfl⟩) sg h (ro0.fx i1 (by unfold jS; omega) (by unfold jS; omega) (by unfold jS; omega)) i2 (by omega) (by omega) (by omega) (by omega) kr.2.1) (fun v3 s3 f3 => ?_)
      obtain ⟨hv3, x3, o3⟩ := f3
      have X3 : Fx jS d s3 := i1.tr (fun r hr => x3 r (by unfold jS at hr; unfold bS; omega))
      (try dsimp only)
      by_cases c6 : 6 < jlF H 0 (wkS H m).1 (tkF K 0)
      · rw [if_pos c6] at hv3
        have ft : jfP H m := ⟨by rw [eK]; exact c12, Or.inl (by rw [eK, p0]; exact c6)⟩
        rw [hv3, if_pos zz0, if_neg (fun x => x zz0)]
        exact Ok_ret ⟨X3, fun _ => rfl, fun hh => absurd ft (hh m m0 m1)⟩
      · rw [if_neg c6] at hv3
        have j0 : 0 ≤ jlF H 0 (wkS H m).1 (tkF K 0) := (sm_le tk.1.1 (B := 6) (fun x x0 x1 => by
          have := hln_r sg h (w := 0) (by omega) (by omega) (r := (wkS H m).1 + x) (by omega) (by omega)
          (try dsimp only)
          omega)).1
        rw [hv3, if_neg oz1, if_pos y5, (stS s3 X3).2]
        refine Ok_bind (k_maPut (w := 1) (Or.inr ⟨rfl, rfl, rfl⟩) sg h (ro1.fx X3 (by unfold jS; omega) (by unfold jS; omega) (by unfold jS; omega)) (i3.fx x3 (by unfold bS; omega) (by unfold bS; omega) (by unfold bS; omega)) (by omega) (by omega) (by omega) (by omega) kr.2.2) (fun v4 s4 f4 => ?_)
        obtain ⟨hv4, x4, o4⟩ := f4
        have X4 : Fx jS d s4 := X3.tr (fun r hr => x4 r (by unfold jS at hr; unfold bS; omega))
        have o3' := o3.fx x4 (by unfold bS; omega) (by unfold bS; omega) (by unfold bS; omega)
        (try dsimp only)
        by_cases c7 : 6 < jlF H 1 (wkS H m).2 (tkF K 1)
        · rw [if_pos c7] at hv4
          have ft : jfP H m := ⟨by rw [eK]; exact c12, Or.inr (by rw [eK, p1]; exact c7)⟩
          rw [hv4, if_pos zz0, if_neg (fun x => x zz0)]
          exact Ok_ret ⟨X4, fun _ => rfl, fun hh => absurd ft (hh m m0 m1)⟩
        · rw [if_neg c7] at hv4
          rw [hv4, if_neg oz1, if_pos oz1, if_pos y5, if_pos y5, (stS s4 X4).1, (stS s4 X4).2]
          refine nextAt s4 _ _ X4 ?_ ?_ (by rw [ej, ew]; (try dsimp only); omega) (fun x => by
            rcases x.2 with q | q
            · rw [eK, p0] at q; exact c6 q
            · rw [eK, p1] at q; exact c7 q)
          · rw [ej]
            refine o3'.co rfl (fun r _ _ => ?_) (fun r i _ _ _ _ => ?_)
            · (try dsimp only)
              rw [p0, if_neg (show ¬ 8 < jlF H 0 (wkS H m).1 (tkF K 0) by omega)]
            · (try dsimp only)
              rw [p0]
          · rw [ej]
            refine o4.co rfl (fun r _ _ => ?_) (fun r i _ _ _ _ => ?_)
            · (try dsimp only)
              rw [p1, if_neg (show ¬ 8 < jlF H 1 (wkS H m).2 (tkF K 1) by omega)]
            · (try dsimp only)
              rw [p1]
end
