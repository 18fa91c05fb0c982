/-! THE CLASS PUTS SENTENCES TOGETHER. -/
/-- words of sentences one behind another, and their keys -/
def jlF (H : Int → Int) (w p m : Int) : Int := sm m (fun x => hln H (shq H w) (p + x))
def jkF (H : Int → Int) (w p i : Int) : Int := if i < hln H (shq H w) p then hky H (shq H w) p i else hky H (shq H w) (p + 1) (i - hln H (shq H w) p)
theorem jlF_s {H : Int → Int} {w p m : Int} (h : 0 ≤ m) : jlF H w p (m + 1) = jlF H w p m + hln H (shq H w) (p + m) := sm_s _ h
theorem hln_r {H : Int → Int} {n w r : Int} (sg : sgn H n) (h : (shs H n).1 = 0) (w0 : 0 ≤ w) (w1 : w < 2) (r0 : 0 ≤ r) (r1 : r < shn H w) : 1 ≤ hln H (shq H w) r ∧ hln H (shq H w) r ≤ 6 := by
  obtain ⟨b1, b2⟩ := sh_ok sg h w0 w1
  obtain ⟨c1, c2⟩ := b2 r r0 r1
  have ns := nsF_sen sg c1.1 c1.2 c2 rfl
  exact ⟨ns.2.2.1, ns.2.2.2.1⟩
section
variable {P : zP} {d t : zD P}
theorem r_push8 {b : Nat} {R x : Int} {ln : Int → Int} {ky : Int → Int → Int} (hb : b = 97 ∨ b = 100) (R0 : 0 ≤ R) (h : rO t.m b (R + 1) (fun r => if r = R then 8 else ln r) ky) : rw_push t b x = some (0, t) := by
  have hz : zkd b = 7 := by rcases hb with rfl | rfl <;> rfl
  obtain ⟨h1, h2, h3, -⟩ := h
  have y : zin (R + 1 - 1) 12 := of_eq_true (zinT (by omega))
  have l := (h3 R R0 (by omega)).1
  (try dsimp only at l)
  rw [if_pos rfl] at l
  rw [rw_push_e hz, h1, if_neg (by rw [wr_id (by omega)]; omega), if_pos y, show R + 1 - 1 = R by omega, l, if_pos (by omega)]
theorem k_maPut {H : Int → Int} {n w p m R : Int} {b c : Nat} {ln : Int → Int} {ky : Int → Int → Int} (hw : (b = 29 ∧ c = 97 ∧ w = 0) ∨ (b = 32 ∧ c = 100 ∧ w = 1)) (sg : sgn H n) (h : (shs H n).1 = 0) (ro : rO d.m b (shn H w) (hln H (shq H w)) (hky H (shq H w))) (rt : rO d.m c R ln ky) (hR : R < 12) (p0 : 0 ≤ p) (m1 : 0 ≤ m) (m2 : m ≤ 2) (hp : p + m ≤ shn H w) : Ok (ma_putTogether d b p m c) (fun v s => v = (if 6 < jlF H w p m then 0 else 1) ∧ Fx (bS c) d s ∧ rO s.m c (R + 1) (fun r => if r = R then (if 8 < jlF H w p m then 8 else jlF H w p m) else ln r) (fun r i => if r = R then jkF H w p i else ky r i)) := by
  have w0 : 0 ≤ w := by omega
  have w1 : w < 2 := by omega
  have hb : zkd b = 7 := by rcases hw with ⟨rfl, -, -⟩ | ⟨rfl, -, -⟩ <;> rfl
  have hc : zkd c = 7 := by rcases hw with ⟨-, rfl, -⟩ | ⟨-, rfl, -⟩ <;> rfl
  have hc2 : c = 97 ∨ c = 100 := by omega
  have hM := (sh_ok sg h w0 w1).1
  have R0 := rt.2.1.1
  rw [ma_putTogether_e hb hc]
  obtain ⟨s1, e1, x1, o1⟩ := r_open hc2 rt hR
  rw [e1, Option.bind_some]
  (try dsimp only)
  have o1' : rO s1.m c (R + 1) (fun r => if r = R then 0 else ln r) (fun r i => if r = R then jkF H w p i else ky r i) := o1.co rfl (fun r _ _ => rfl) (fun r i r0 r1 i0 i1 => by
    (try dsimp only at i1)
    by_cases e : r = R
    · rw [if_pos e] at i1
      omega
    · rw [if_neg e])
  have far : ∀ s : zD P, Fx (bS c) d s → rO s.m b (shn H w) (hln H (shq H w)) (hky H (shq H w)) := fun s f => ro.fx f (by unfold bS; omega) (by unfold bS; omega) (by unfold bS; omega)
  refine lpM (fun x s (y : Int × zV) => ma_putTogether_6 s (2, ((103 : Nat) : Int)) b p m c y.1 (p + x) y.2) (fun x s y => Fx (bS c) d s ∧ y.1 = jlF H w p x ∧ rO s.m c (R + 1) (fun r => if r = R then (if 8 < jlF H w p x then 8 else jlF H w p x) else ln r) (fun r i => if r = R then jkF H w p i else ky r i)) 0 m m1 s1 (0, (3, 0)) ⟨x1, rfl, o1'⟩ (fun s y hi => ?_) (fun x s y x0 x1' hi hnext => ?_) |> fun q => by
    (try dsimp only at q)
    rw [Int.add_zero] at q
    exact q
  · obtain ⟨i1, i2, i3⟩ := hi
    (try dsimp only)
    have jr : 0 ≤ jlF H w p m ∧ jlF H w p m ≤ m * 6 := sm_le m1 (fun x x0 x1 => by
      have := hln_r sg h w0 w1 (r := p + x) (by omega) (by omega)
      (try dsimp only)
      omega)
    rw [ma_putTogether_6_e hb hc, if_pos (by omega), i2]
    by_cases e : 6 < jlF H w p m
    · rw [if_pos (by rw [wr_id (by omega), wr_id (by omega)]; exact e), if_pos e]
      exact Ok_ret ⟨rfl, i1, i3⟩
    · rw [if_neg (by rw [wr_id (by omega), wr_id (by omega)]; exact e), if_neg e]
      exact Ok_ret ⟨rfl, i1, i3⟩
  · obtain ⟨i1, i2, i3⟩ := hi
    have l := hln_r sg h w0 w1 (r := p + x) (by omega) (by omega)
    have jx : 0 ≤ jlF H w p x ∧ jlF H w p x ≤ x * 6 := sm_le x0 (fun z z0 z1 => by
      have := hln_r sg h w0 w1 (r := p + z) (by omega) (by omega)
      (try dsimp only)
      omega)
    have js := jlF_s (H := H) (w := w) (p := p) x0
    have key : ∀ i, 0 ≤ i → i < hln H (shq H w) (p + x) → hky H (shq H w) (p + x) i = jkF H w p (jlF H w p x + i) := fun i i0 i1 => by
      rcases (by omega : x = 0 ∨ x = 1) with rfl | rfl
      · have z : jlF H w p 0 = 0 := rfl
        rw [z, Int.zero_add, Int.add_zero] at *
        unfold jkF
        rw [if_pos i1]
      · have z : jlF H w p 1 = hln H (shq H w) p := by
          have := jlF_s (H := H) (w := w) (p := p) (m := 0) (by omega)
          rw [Int.add_zero] at this
          rw [show (1 : Int) = 0 + 1 from rfl, this]
          show 0 + _ = _
          omega
        rw [z]
        unfold jkF
        rw [if_neg (by omega)]
        exact congrArg _ (by omega)
    (try dsimp only)
    rw [ma_putTogether_6_e hb hc, if_neg (by rw [wr_id (by omega), wr_id (by omega)]; omega), r_len (far s i1) (by omega) (by omega) hb, Option.bind_some]
    (try dsimp only)
    refine lpD (fun i s' => ma_putTogether_19 s' (2, ((103 : Nat) : Int)) b p m c (y.1 + hln H (shq H w) (p + x)) (p + x) i) (fun i s' => Fx (bS c) d s' ∧ rO s'.m c (R + 1) (fun r => if r = R then (if 8 < jlF H w p x + i then 8 else jlF H w p x + i) else ln r) (fun r i => if r = R then jkF H w p i else ky r i)) 0 (hln H (shq H w) (p + x)) (by omega) s ⟨i1, by rw [Int.add_zero]; exact i3⟩ (fun s' hj => ?_) (fun i s' i0 i1' hj hn => ?_)
    · obtain ⟨j1, j2⟩ := hj
      (try dsimp only)
      rw [ma_putTogether_19_e hb hc, r_len (far s' j1) (by omega) (by omega) hb, Option.bind_some]
      (try dsimp only)
      rw [if_pos (by omega), show p + x + 1 = p + (x + 1) by omega]
      exact hnext _ (_, _) ⟨j1, by (try dsimp only); rw [js, i2], by rw [js]; exact j2⟩
    · obtain ⟨j1, j2⟩ := hj
      (try dsimp only)
      rw [ma_putTogether_19_e hb hc, r_len (far s' j1) (by omega) (by omega) hb, Option.bind_some]
      (try dsimp only)
      rw [if_neg (by rw [wr_id (by omega), wr_id (by omega)]; omega), r_key (far s' j1) (by omega) (by omega) i0 i1' hb, Option.bind_some]
      (try dsimp only)
      by_cases e : 8 ≤ jlF H w p x + i
      · have a : (if 8 < jlF H w p x + i then 8 else jlF H w p x + i) = 8 := by split <;> omega
        have a2 : (if 8 < jlF H w p x + (i + 1) then 8 else jlF H w p x + (i + 1)) = 8 := by split <;> omega
        rw [a] at j2
        rw [r_push8 hc2 R0 j2, Option.bind_some]
        refine hn _ ⟨j1, ?_⟩
        rw [a2]
        exact j2
      · have a : (if 8 < jlF H w p x + i then 8 else jlF H w p x + i) = jlF H w p x + i := if_neg (by omega)
        have a2 : (if 8 < jlF H w p x + (i + 1) then 8 else jlF H w p x + (i + 1)) = jlF H w p x + i + 1 := by rw [if_neg (by omega)]; omega
        rw [a] at j2
        obtain ⟨s5, e5, x5, o5⟩ := r_push (x := hky H (shq H w) (p + x) i) (ky' := fun r i => if r = R then jkF H w p i else ky r i) hc2 j2 R0 (by omega) (fun _ _ _ _ _ _ => rfl) (fun _ _ _ => rfl) (by rw [if_pos rfl]; exact key i i0 i1')
        rw [e5, Option.bind_some]
        refine hn _ ⟨j1.tr x5, ?_⟩
        rw [a2]
        exact o5
end
