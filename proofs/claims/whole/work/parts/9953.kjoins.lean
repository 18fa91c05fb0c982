/-! JOINS, the class. -/
section
variable {P : zP} {d t : zD P} {F G : Nat → Int}
def jwS : Nat → Prop := fun r => maS r ∨ jS r ∨ tkP r
/-- from sheets that stand, W parts: what joins answers and leaves -/
theorem k_joins {H : Int → Int} {n : Int} (hc : CI d F) (sg : sgn H n) (h : (shs H n).1 = 0) (sta : STA d) (ro0 : rO d.m 29 (shn H 0) (hln H (shq H 0)) (hky H (shq H 0))) (ro1 : rO d.m 32 (shn H 1) (hln H (shq H 1)) (hky H (shq H 1))) : ∃ W, nkS H W ∧ (((∀ m, 0 ≤ m → m < W → ¬ jfP H m) → prs F + (jnS H W).1 ≤ 24 → ¬ OVF F (jnS H W).2.1 (jnS H W).2.2 (jnS H W).1 → apG F G (jnS H W).2.1 (jnS H W).2.2 (jnS H W).1 ∧ WFc G) → Ok (wl_joins d) (fun v s => Fx jwS d s ∧ ((∃ m, 0 ≤ m ∧ m < W ∧ jfP H m) → v = -5 ∧ CI s F) ∧ ((∀ m, 0 ≤ m → m < W → ¬ jfP H m) → (24 < prs F + (jnS H W).1 → v = -3 ∧ CI s F) ∧ (prs F + (jnS H W).1 ≤ 24 → (OVF F (jnS H W).2.1 (jnS H W).2.2 (jnS H W).1 → v = -4 ∧ CI s F) ∧ (¬ OVF F (jnS H W).2.1 (jnS H W).2.2 (jnS H W).1 → v = prs G ∧ CI s (mkF G)))))) := by
  have hM := (sh_ok sg h (s := 0) (by omega) (by omega)).1
  have m29 : d.m 29 2 = shn H 0 := ro0.1
  have hz : st_hasSheets d = some (1, d) := by rw [st_hasSheets_e, m29, if_neg (by rw [wr_id (by omega)]; omega)]
  obtain ⟨v0, s0, e0, x0, -, nk, l5⟩ := k_match sg h sta ro0 ro1
  refine ⟨s0.m 103 6, nk, fun hG => ?_⟩
  have f0 : ∀ r, r < 69 → s0.m r = d.m r := fun r hr => x0 r (by unfold maS; omega)
  have c0 : CI s0 F := hc.fr (fun r r0 r1 => f0 r (by omega))
  generalize hW : s0.m 103 6 = W at *
  rw [wl_joins_e, hz, Option.bind_some]
  (try dsimp only)
  rw [if_pos oz1, e0, Option.bind_some]
  (try dsimp only)
  refine Ok_bind (k_join sg h (sta.fr (fun r hr => f0 r (by omega))) (ro0.fx x0 (by unfold maS; omega) (by unfold maS; omega) (by unfold maS; omega)) (ro1.fx x0 (by unfold maS; omega) (by unfold maS; omega) (by unfold maS; omega)) hW nk l5) (fun v1 s1 f1 => ?_)
  obtain ⟨x1, a1, a2⟩ := f1
  have X1 : Fx jwS d s1 := fun r hr => (x1 r (fun q => hr (Or.inr (Or.inl q)))).trans (x0 r (fun q => hr (Or.inl q)))
  have c1 : CI s1 F := c0.fr (fun r r0 r1 => x1 r (by unfold jS; omega))
  (try dsimp only)
  by_cases ff : ∃ m, 0 ≤ m ∧ m < W ∧ jfP H m
  · rw [a1 ff, if_neg (fun x => x zz0)]
    refine Ok_ret ⟨X1, fun _ => ⟨rfl, c1⟩, fun hh => ?_⟩
    obtain ⟨m, b0, b1, b2⟩ := ff
    exact absurd b2 (hh m b0 b1)
  · have nf : ∀ m, 0 ≤ m → m < W → ¬ jfP H m := fun m b0 b1 b2 => ff ⟨m, b0, b1, b2⟩
    obtain ⟨hv, o0, o1⟩ := a2 nf
    have jn := jn_ok sg h nk nf W.toNat (by have := nk.1; omega)
    rw [show ((W.toNat : Nat) : Int) = W by have := nk.1; omega] at jn
    rw [hv, if_pos oz1]
    refine Ok_bind (k_takePairs (G := G) c1 o0 o1 (fun s r s0 s1 r0 r1 => (jn.2 s r s0 s1 r0 r1).1) (fun s r i s0 s1 r0 r1 i0 i1 => (jn.2 s r s0 s1 r0 r1).2 i i0 i1) (hG nf)) (fun v2 s2 f2 => ?_)
    obtain ⟨x2, g2⟩ := f2
    exact Ok_ret ⟨X1.tr (fun r hr => x2 r (fun q => hr (Or.inr (Or.inr q)))), fun hh => absurd hh ff, fun _ => g2⟩
end
