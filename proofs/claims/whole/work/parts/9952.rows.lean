/-! JOINED ROWS ARE ROWS. -/
theorem hky_r {H : Int → Int} {n w r i : Int} (sg : sgn H n) (h : (shs H n).1 = 0) (w0 : 0 ≤ w) (w1 : w < 2) (r0 : 0 ≤ r) (r1 : r < shn H w) (i0 : 0 ≤ i) (i1 : i < hln H (shq H w) r) : 0 ≤ hky H (shq H w) r i ∧ hky H (shq H w) r i < 34359738368 := by
  obtain ⟨b1, b2⟩ := sh_ok sg h w0 w1
  obtain ⟨c1, c2⟩ := b2 r r0 r1
  have ns := nsF_sen sg c1.1 c1.2 c2 rfl
  have := ns.2.2.2.2 i i0 i1
  exact kyW_b (by omega)
theorem jl_r {H : Int → Int} {n w p m : Int} (sg : sgn H n) (h : (shs H n).1 = 0) (w0 : 0 ≤ w) (w1 : w < 2) (p0 : 0 ≤ p) (m1 : 1 ≤ m) (m2 : m ≤ 2) (hp : p + m ≤ shn H w) : 1 ≤ jlF H w p m ∧ ∀ i, 0 ≤ i → i < jlF H w p m → 0 ≤ jkF H w p i ∧ jkF H w p i < 34359738368 := by
  have a := hln_r sg h w0 w1 p0 (show p < shn H w by omega)
  have z1 : jlF H w p 1 = hln H (shq H w) p := by
    have := jlF_s (H := H) (w := w) (p := p) (m := 0) (by omega)
    rw [Int.add_zero] at this
    rw [show (1 : Int) = 0 + 1 from rfl, this]
    show 0 + _ = _
    omega
  rcases (by omega : m = 1 ∨ m = 2) with rfl | rfl
  · rw [z1]
    refine ⟨a.1, fun i i0 i1 => ?_⟩
    unfold jkF
    rw [if_pos i1]
    exact hky_r sg h w0 w1 p0 (by omega) i0 i1
  · have b := hln_r sg h w0 w1 (r := p + 1) (by omega) (by omega)
    have z2 : jlF H w p 2 = hln H (shq H w) p + hln H (shq H w) (p + 1) := by
      have := jlF_s (H := H) (w := w) (p := p) (m := 1) (by omega)
      rw [show (2 : Int) = 1 + 1 from rfl, this, z1]
    rw [z2]
    refine ⟨by omega, fun i i0 i1 => ?_⟩
    unfold jkF
    by_cases c : i < hln H (shq H w) p
    · rw [if_pos c]
      exact hky_r sg h w0 w1 p0 (by omega) i0 c
    · rw [if_neg c]
      exact hky_r sg h w0 w1 (by omega) (by omega) (by omega) (by omega)
theorem jn_ok {H : Int → Int} {n W : Int} (sg : sgn H n) (h : (shs H n).1 = 0) (nk : nkS H W) (nf : ∀ m, 0 ≤ m → m < W → ¬ jfP H m) : ∀ m : Nat, (m : Int) ≤ W → (0 ≤ (jnS H m).1 ∧ (jnS H m).1 ≤ (wkS H m).1) ∧ ∀ s r, 0 ≤ s → s < 2 → 0 ≤ r → r < (jnS H m).1 → (1 ≤ (jnS H m).2.1 s r ∧ (jnS H m).2.1 s r ≤ 6) ∧ ∀ i, 0 ≤ i → i < (jnS H m).2.1 s r → 0 ≤ (jnS H m).2.2 s r i ∧ (jnS H m).2.2 s r i < 34359738368 := by
  intro m
  induction m with
  | zero =>
    intro _
    refine ⟨⟨Int.le_refl _, Int.le_refl _⟩, fun s r _ _ r0 r1 => ?_⟩
    have : (jnS H ((0 : Nat) : Int)).1 = 0 := rfl
    omega
  | succ m ih =>
    intro hm
    obtain ⟨ih1, ih2⟩ := ih (by omega)
    have w := wk_in sg h nk m (by omega)
    have kn := nk.2.1 m (by omega) (by omega)
    have ej := jnS_s (H := H) (m := m) (by omega)
    have ew := wkS_s (H := H) (n := m) (by omega)
    have kr : (0 ≤ knS H m ∧ knS H m < 5) ∧ (wkS H m).1 + tkF (knS H m) 0 ≤ shn H 0 ∧ (wkS H m).2 + tkF (knS H m) 1 ≤ shn H 1 := by
      rcases kiS_r sg h (i := (wkS H m).1) (j := (wkS H m).2) (by omega) (by omega) with r | r
      · exact absurd r.1 kn
      · exact ⟨r.1, r.2.1⟩
    have eK : kiS H (wkS H m).1 (wkS H m).2 = knS H m := rfl
    rw [eK] at ew
    have tk := tkF_r kr.1.1 kr.1.2
    rw [show ((m + 1 : Nat) : Int) = (m : Int) + 1 by omega, ej, ew]
    by_cases c : knS H m = 1 ∨ knS H m = 2
    · rw [if_pos c]
      exact ⟨⟨ih1.1, by (try dsimp only); omega⟩, ih2⟩
    · rw [if_neg c]
      have k2 : 1 ≤ tkF (knS H m) 0 ∧ 1 ≤ tkF (knS H m) 1 := by
        rcases (by omega : knS H m = 0 ∨ knS H m = 3 ∨ knS H m = 4) with e | e | e <;> rw [e] <;> decide
      have no := nf m (by omega) (by omega)
      refine ⟨⟨by (try dsimp only); omega, by (try dsimp only); omega⟩, fun s r s0 s1 r0 r1 => ?_⟩
      (try dsimp only at r1 ⊢)
      by_cases e : r = (jnS H m).1
      · rw [if_pos e]
        rcases (by omega : s = 0 ∨ s = 1) with rfl | rfl
        · have q := jl_r sg h (w := 0) (p := psS H m 0) (m := tkF (knS H m) 0) (by omega) (by omega) (by rw [show psS H m 0 = (wkS H m).1 from rfl]; exact w.1.1) k2.1 tk.1.2 kr.2.1
          refine ⟨⟨q.1, Classical.byContradiction (fun x => no ⟨c, Or.inl (by omega)⟩)⟩, fun i i0 i1 => ?_⟩
          rw [if_pos e]
          exact q.2 i i0 i1
        · have q := jl_r sg h (w := 1) (p := psS H m 1) (m := tkF (knS H m) 1) (by omega) (by omega) (by rw [show psS H m 1 = (wkS H m).2 from rfl]; exact w.2.1) k2.2 tk.2.1.2 kr.2.2
          refine ⟨⟨q.1, Classical.byContradiction (fun x => no ⟨c, Or.inr (by omega)⟩)⟩, fun i i0 i1 => ?_⟩
          rw [if_pos e]
          exact q.2 i i0 i1
      · rw [if_neg e]
        have q := ih2 s r s0 s1 r0 (by omega)
        refine ⟨q.1, fun i i0 i1 => ?_⟩
        rw [if_neg e]
        exact q.2 i i0 i1
