/-! SHARES BEGUN: what both tell; the model. -/
def hit (F : Nat → Int) (c : Int → Int → Int → Prop) (q : Nat) : Prop := ∃ p i j, 0 ≤ p ∧ p < prs F ∧ 0 ≤ i ∧ i < lng F p 0 ∧ 0 ≤ j ∧ j < lng F p 1 ∧ c p i j ∧ ((q : Int) = 1144 + 40 * wrd F p 0 i + wrd F p 1 j ∨ (q : Int) = 2744 + 40 * wrd F p 1 j + wrd F p 0 i)
noncomputable def mkC (F : Nat → Int) (c : Int → Int → Int → Prop) : Nat → Int := by
  classical
  exact fun q => if 1144 ≤ q ∧ q < 4344 then (if hit F c q then 0 else -1) else if 8 ≤ q ∧ q < 24 then 12500 else F q
noncomputable def mkN (F : Nat → Int) : Nat → Int := mkC F (fun _ _ _ => True)
def fwt (F : Nat → Int) (w u v : Int) : Int := if ltd F = 0 then 1 else 1 + 3 * (if w = 0 then lik F u v else lik F v u)
noncomputable def mkF0 (F : Nat → Int) : Nat → Int := goS (mkN F) 0 (wds (mkN F) 0) (nwS (mkN F) 0 (fwt (mkN F) 0))
noncomputable def mkF (F : Nat → Int) : Nat → Int := goS (mkF0 F) 1 (wds (mkN F) 1) (nwS (mkN F) 1 (fwt (mkN F) 1))
theorem mkC_same {F : Nat → Int} {c : Int → Int → Int → Prop} : SameA F (mkC F c) := fun q hq => by
  unfold mkC
  (try dsimp only)
  rw [if_neg (by omega), if_neg (by omega)]
theorem mkC_t {F : Nat → Int} {c : Int → Int → Int → Prop} {q : Nat} (h : 1144 ≤ q ∧ q < 4344) (hh : hit F c q) : mkC F c q = 0 := by
  unfold mkC
  (try dsimp only)
  rw [if_pos h, if_pos hh]
theorem mkC_f {F : Nat → Int} {c : Int → Int → Int → Prop} {q : Nat} (h : 1144 ≤ q ∧ q < 4344) (hh : ¬ hit F c q) : mkC F c q = -1 := by
  unfold mkC
  (try dsimp only)
  rw [if_pos h, if_neg hh]
theorem mkC_n {F : Nat → Int} {c : Int → Int → Int → Prop} {q : Nat} (h : ¬ (1144 ≤ q ∧ q < 4344)) : mkC F c q = if 8 ≤ q ∧ q < 24 then 12500 else F q := by
  unfold mkC
  (try dsimp only)
  rw [if_neg h]
section
variable {F : Nat → Int}
theorem SameA.tr {G H : Nat → Int} (h : SameA F G) (h2 : SameA G H) : SameA F H := fun q hq => (h2 q hq).trans (h q hq)
theorem SameA.sy {G : Nat → Int} (h : SameA F G) : SameA G F := fun q hq => (h q hq).symm
/-- what a file says of places, from the file with its shares begun -/
theorem nb_wrd (hw : WF (mkN F)) {p s i : Int} (h1 : 0 ≤ p) (h2 : p < prs F) (h3 : 0 ≤ s) (h4 : s < 2) (h5 : 0 ≤ i) (h6 : i < lng F p s) : (prs F ≤ 24) ∧ (1 ≤ lng F p s ∧ lng F p s ≤ 6) ∧ (0 ≤ wrd F p s i ∧ wrd F p s i < 40) := by
  have S : SameA F (mkN F) := mkC_same
  have a := hw.prs_
  rw [S.prs_] at a
  have b := hw.lng_ h1 (by rw [S.prs_]; exact h2) h3 h4
  rw [S.lng_ h1 (by omega) h3 h4] at b
  have c := hw.wrd_ h1 (by rw [S.prs_]; exact h2) h3 h4 h5 (by rw [S.lng_ h1 (by omega) h3 h4]; exact h6)
  have e := hw.wds_ h3 h4
  rw [S.wrd_ h1 (by omega) h3 h4 h5 (by omega)] at c
  omega
theorem mk_put (hw : WF (mkN F)) {c c' : Int → Int → Int → Prop} {p i j : Int} (h1 : 0 ≤ p) (h2 : p < prs F) (h3 : 0 ≤ i) (h4 : i < lng F p 0) (h5 : 0 ≤ j) (h6 : j < lng F p 1) (hc : ∀ a b e, c' a b e ↔ (c a b e ∨ (a = p ∧ b = i ∧ e = j))) : mkC F c' = zfu (zfu (mkC F c) (zix (((1144 + (1600 * 0)) + (40 * wrd F p 0 i)) + wrd F p 1 j)) 0) (zix (((1144 + (1600 * 1)) + (40 * wrd F p 1 j)) + wrd F p 0 i)) 0 := by
  have a := nb_wrd hw h1 h2 (s := 0) (by omega) (by omega) h3 h4
  have b := nb_wrd hw h1 h2 (s := 1) (by omega) (by omega) h5 h6
  have z1 := zix_at (x := ((1144 + (1600 * 0)) + (40 * wrd F p 0 i)) + wrd F p 1 j) (by omega)
  have z2 := zix_at (x := ((1144 + (1600 * 1)) + (40 * wrd F p 1 j)) + wrd F p 0 i) (by omega)
  funext q
  rw [zfu_n, zfu_n]
  by_cases r : 1144 ≤ q ∧ q < 4344
  · have hq : hit F c' q ↔ (hit F c q ∨ ((q : Int) = 1144 + 40 * wrd F p 0 i + wrd F p 1 j ∨ (q : Int) = 2744 + 40 * wrd F p 1 j + wrd F p 0 i)) := by
      constructor
      · rintro ⟨p', i', j', a1, a2, a3, a4, a5, a6, a7, a8⟩
        rcases (hc _ _ _).mp a7 with h | h
        · exact Or.inl ⟨p', i', j', a1, a2, a3, a4, a5, a6, h, a8⟩
        · obtain ⟨rfl, rfl, rfl⟩ := h
          exact Or.inr a8
      · rintro (⟨p', i', j', a1, a2, a3, a4, a5, a6, a7, a8⟩ | h)
        · exact ⟨p', i', j', a1, a2, a3, a4, a5, a6, (hc _ _ _).mpr (Or.inl a7), a8⟩
        · exact ⟨p, i, j, h1, h2, h3, h4, h5, h6, (hc _ _ _).mpr (Or.inr ⟨rfl, rfl, rfl⟩), h⟩
    by_cases e2 : q = zix (((1144 + (1600 * 1)) + (40 * wrd F p 1 j)) + wrd F p 0 i)
    · rw [if_pos e2, mkC_t r (hq.mpr (Or.inr (Or.inr (by omega))))]
    · rw [if_neg e2]
      by_cases e1 : q = zix (((1144 + (1600 * 0)) + (40 * wrd F p 0 i)) + wrd F p 1 j)
      · rw [if_pos e1, mkC_t r (hq.mpr (Or.inr (Or.inl (by omega))))]
      · rw [if_neg e1]
        by_cases hh : hit F c q
        · rw [mkC_t r (hq.mpr (Or.inl hh)), mkC_t r hh]
        · rw [mkC_f r hh, mkC_f r (fun x => by
            rcases hq.mp x with h | h | h
            · exact hh h
            · exact e1 (by omega)
            · exact e2 (by omega))]
  · rw [if_neg (by omega), if_neg (by omega), mkC_n r, mkC_n r]
theorem SameA.lik_ {G : Nat → Int} (h : SameA F G) (hw : WF F) {u v : Int} (hu : 0 ≤ u) (hu2 : u < wds F 0) (hv : 0 ≤ v) (hv2 : v < wds F 1) : lik G u v = lik F u v := by
  have w0 := hw.wds_ (s := 0) (by omega) (by omega)
  have w1 := hw.wds_ (s := 1) (by omega) (by omega)
  have a := hw.ltn_ (s := 0) (by omega) (by omega) hu hu2
  have b := hw.ltn_ (s := 1) (by omega) (by omega) hv hv2
  unfold lik
  rw [h.ltn_ (by omega) (by omega) hv (by omega), h.ltn_ (by omega) (by omega) hu (by omega)]
  obtain ⟨N, hN⟩ := Int.eq_ofNat_of_zero_le (by omega : 0 ≤ ltn F 1 v)
  rw [hN]
  refine Lcol_congr N (ltn F 0 u) (by omega) (fun i k i0 i1 k0 k1 => ?_) _ (by omega) (Int.le_refl _)
  unfold lke
  rw [h.ltr_ (by omega) (by omega) hu (by omega) i0 (by omega), h.ltr_ (by omega) (by omega) hv (by omega) k0 (by omega)]
theorem fwt_ok (hw : WF F) {w u : Int} (h1 : 0 ≤ w) (h2 : w < 2) (hu : 0 ≤ u) (hu2 : u < wds F w) : ∀ v, 0 ≤ v → v < wds F (1 - w) → 1 ≤ fwt F w u v ∧ fwt F w u v ≤ 22 := by
  intro v v0 v1
  unfold fwt
  split
  · omega
  · rcases (by omega : w = 0 ∨ w = 1) with rfl | rfl
    · rw [show (1 : Int) - 0 = 1 by omega] at v1
      have := lik_le hw hu hu2 v0 v1
      rw [if_pos rfl]
      omega
    · rw [show (1 : Int) - 1 = 0 by omega] at v1
      have := lik_le hw v0 v1 hu hu2
      rw [if_neg (by decide)]
      omega
theorem nwS_le2 (hw : WF F) {w : Int} {wt : Int → Int → Int} (h1 : 0 ≤ w) (h2 : w < 2) (hok : ∀ u v, 0 ≤ u → u < wds F w → 0 ≤ v → v < wds F (1 - w) → 0 ≤ wt u v ∧ wt u v ≤ 40000000000) : ∀ u v, 0 ≤ u → u < wds F w → 0 ≤ v → v < 40 → shr F w u v ≠ -1 → 0 ≤ nwS F w wt u v ∧ nwS F w wt u v ≤ 200000 := by
  intro u v u0 u1 v0 v1 hne
  have q3 := hw.wds_ h1 h2
  have q4 := hw.wds_ (s := 1 - w) (by omega) (by omega)
  have o := hw.out h1 h2 u0 (by omega) v0 v1 hne
  exact dsh_le (by omega) v0 o.2 (ptn_f.mpr hne) (fun v a b => hok u v u0 u1 a b)
theorem fwt_nw (hw : WF F) {w : Int} (h1 : 0 ≤ w) (h2 : w < 2) : ∀ u v, 0 ≤ u → u < wds F w → 0 ≤ v → v < 40 → shr F w u v ≠ -1 → 0 ≤ nwS F w (fwt F w) u v ∧ nwS F w (fwt F w) u v ≤ 200000 := nwS_le2 hw h1 h2 (fun u v u0 u1 v0 v1 => by have := fwt_ok hw h1 h2 u0 u1 v v0 v1; omega)
theorem mkF0_wf (hw : WF (mkN F)) : WF (mkF0 F) := goS_wf hw (by omega) (by omega) (hw.wds_ (s := 0) (by omega) (by omega)).2 (fwt_nw hw (by omega) (by omega))
theorem mkF0_ptn (hw : WF (mkN F)) {w u v : Int} (h3 : 0 ≤ w) (h4 : w < 2) (h5 : 0 ≤ u) (h6 : u < 40) (h7 : 0 ≤ v) (h8 : v < 40) : ptn (mkF0 F) w u v = ptn (mkN F) w u v := goS_ptn (by omega) (by omega) h3 h4 (hw.wds_ (s := 0) (by omega) (by omega)).2 h5 h6 h7 h8 (fwt_nw hw (by omega) (by omega))
theorem mkF0_shr1 (hw : WF (mkN F)) {u v : Int} (h5 : 0 ≤ u) (h6 : u < 40) (h7 : 0 ≤ v) (h8 : v < 40) : shr (mkF0 F) 1 u v = shr (mkN F) 1 u v := by
  have := goS_shr (F := mkN F) (w := 0) (w' := 1) (n := wds (mkN F) 0) (nw := nwS (mkN F) 0 (fwt (mkN F) 0)) (by omega) (by omega) (by omega) (by omega) (hw.wds_ (s := 0) (by omega) (by omega)).2 h5 h6 h7 h8
  rw [if_neg (fun x => by have := x.1; omega)] at this
  exact this
theorem mkF_nw1 (hw : WF (mkN F)) : ∀ u v, 0 ≤ u → u < wds (mkN F) 1 → 0 ≤ v → v < 40 → shr (mkF0 F) 1 u v ≠ -1 → 0 ≤ nwS (mkN F) 1 (fwt (mkN F) 1) u v ∧ nwS (mkN F) 1 (fwt (mkN F) 1) u v ≤ 200000 := by
  intro u v u0 u1 v0 v1 hne
  have q := hw.wds_ (s := 1) (by omega) (by omega)
  rw [mkF0_shr1 hw u0 (by omega) v0 v1] at hne
  exact fwt_nw hw (by omega) (by omega) u v u0 u1 v0 v1 hne
theorem mkF_wf (hw : WF (mkN F)) : WF (mkF F) := goS_wf (mkF0_wf hw) (by omega) (by omega) (hw.wds_ (s := 1) (by omega) (by omega)).2 (mkF_nw1 hw)
theorem mkF_same : SameA (mkN F) (mkF F) := (goS_same (F := mkN F) (by omega)).tr (goS_same (by omega))
theorem mkF_ptn (hw : WF (mkN F)) {w u v : Int} (h3 : 0 ≤ w) (h4 : w < 2) (h5 : 0 ≤ u) (h6 : u < 40) (h7 : 0 ≤ v) (h8 : v < 40) : ptn (mkF F) w u v = ptn (mkN F) w u v := by
  have a := goS_ptn (F := mkF0 F) (w := 1) (n := wds (mkN F) 1) (nw := nwS (mkN F) 1 (fwt (mkN F) 1)) (by omega) (by omega) h3 h4 (hw.wds_ (s := 1) (by omega) (by omega)).2 h5 h6 h7 h8 (mkF_nw1 hw)
  exact a.trans (mkF0_ptn hw h3 h4 h5 h6 h7 h8)
theorem mkF_shr (hw : WF (mkN F)) {w u v : Int} (h3 : 0 ≤ w) (h4 : w < 2) (h5 : 0 ≤ u) (h6 : u < 40) (h7 : 0 ≤ v) (h8 : v < 40) : shr (mkF F) w u v = if shr (mkN F) w u v = -1 then -1 else nwS (mkN F) w (fwt (mkN F) w) u v := by
  have q0 := hw.wds_ (s := 0) (by omega) (by omega)
  have q1 := hw.wds_ (s := 1) (by omega) (by omega)
  have a := goS_shr (F := mkF0 F) (w := 1) (w' := w) (n := wds (mkN F) 1) (nw := nwS (mkN F) 1 (fwt (mkN F) 1)) (by omega) (by omega) h3 h4 q1.2 h5 h6 h7 h8
  have e : mkF F = goS (mkF0 F) 1 (wds (mkN F) 1) (nwS (mkN F) 1 (fwt (mkN F) 1)) := rfl
  rw [← e] at a
  rw [a]
  rcases (by omega : w = 0 ∨ w = 1) with rfl | rfl
  · have b := goS_shr (F := mkN F) (w := 0) (w' := 0) (n := wds (mkN F) 0) (nw := nwS (mkN F) 0 (fwt (mkN F) 0)) (by omega) (by omega) (by omega) (by omega) q0.2 h5 h6 h7 h8
    have e0 : mkF0 F = goS (mkN F) 0 (wds (mkN F) 0) (nwS (mkN F) 0 (fwt (mkN F) 0)) := rfl
    rw [← e0] at b
    rw [if_neg (fun x => by have := x.1; omega), b]
    by_cases c : shr (mkN F) 0 u v = -1
    · rw [if_neg (fun x => x.2.2 c), if_pos c, c]
    · rw [if_neg c, if_pos ⟨rfl, (hw.out (by omega) (by omega) h5 h6 h7 h8 c).1, c⟩]
  · rw [mkF0_shr1 hw h5 h6 h7 h8]
    by_cases c : shr (mkN F) 1 u v = -1
    · rw [if_neg (fun x => x.2.2 c), if_pos c, c]
    · rw [if_neg c, if_pos ⟨rfl, (hw.out (by omega) (by omega) h5 h6 h7 h8 c).1, c⟩]
theorem mkN_ner {w k : Int} (h3 : 0 ≤ w) (h4 : w < 2) (h5 : 0 ≤ k) (h6 : k < 8) : ner (mkN F) w k = 12500 := by
  have e := zix_at (x := (8 + (8 * w)) + k) (by omega)
  unfold ner mkN
  rw [mkC_n (by omega), if_pos (by omega)]
theorem mkF_ner {w k : Int} (h3 : 0 ≤ w) (h4 : w < 2) (h5 : 0 ≤ k) (h6 : k < 8) : ner (mkF F) w k = 12500 := by
  have a := goS_ner (F := mkF0 F) (w := 1) (w' := w) (k := k) (n := wds (mkN F) 1) (nw := nwS (mkN F) 1 (fwt (mkN F) 1)) (by omega) h3 h4 h5 h6
  have b := goS_ner (F := mkN F) (w := 0) (w' := w) (k := k) (n := wds (mkN F) 0) (nw := nwS (mkN F) 0 (fwt (mkN F) 0)) (by omega) h3 h4 h5 h6
  have c := mkN_ner (F := F) h3 h4 h5 h6
  exact (a.trans b).trans c
end
