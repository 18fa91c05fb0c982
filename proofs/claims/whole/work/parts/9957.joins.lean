/-! JOINS, both sides. -/
section
variable {P : zP} {d t : zD P} {F : Nat → Int} {B : Int → Int} {T : Int}
theorem b_joins (h : INV d F B T) : BO d (fun d => wl_joins d) (fun d => m_joins d) := by
  have yS : zin 4344 18180 := of_eq_true (zinT (by omega))
  have eS : F (zix 4344) = shl F := rfl
  have lb := h.2.2.2.2.1.1
  by_cases c2 : shl F = 0
  · have m29 : d.m 29 2 = 0 := h.2.2.2.1.1 c2
    have hz : st_hasSheets d = some (0, d) := by rw [st_hasSheets_e, m29, if_pos (by rw [wr_id (by omega)]; omega)]
    refine BO_a (-2) h ?_ (fun s hs => ?_)
    · (try dsimp only)
      rw [wl_joins_e, hz, Option.bind_some]
      (try dsimp only)
      rw [if_neg (fun x => x zz0)]
      exact Ok_ret ⟨rfl, qF.rf⟩
    · (try dsimp only)
      rw [m_joins_e, if_pos yS, hs.f, eS, c2, if_neg (fun x => x zz0)]
      exact Ok_ret ⟨rfl, rF.rf⟩
  · obtain ⟨sg, sh0⟩ := h.2.2.2.2.1.2 c2
    have rr := h.2.2.2.1.2 c2
    have lo : lowE F (cpF F 0 2) := cpF_low (by omega)
    have wc := h.wf.c
    have wl := wc.low lo
    have c1 : CI d (cpF F 0 2) := h.ci.same (fun q hq => lo q (by omega))
    have oF1 : ORX (cpF F 0 2) := (show sx F (cpF F 0 2) from fun q q0 _ _ _ _ => lo q (by omega)).ORX h.wf h.2.2.2.2.2.1
    obtain ⟨W, nk, -⟩ := k_joins (G := F) c1 sg sh0 h.sta rr.1 rr.2
    have kj : ∀ G : Nat → Int, ((∀ m, 0 ≤ m → m < W → ¬ jfP (sgF F) m) → prs (cpF F 0 2) + (jnS (sgF F) W).1 ≤ 24 → ¬ OVF (cpF F 0 2) (jnS (sgF F) W).2.1 (jnS (sgF F) W).2.2 (jnS (sgF F) W).1 → apG (cpF F 0 2) G (jnS (sgF F) W).2.1 (jnS (sgF F) W).2.2 (jnS (sgF F) W).1 ∧ WFc G) → Ok (wl_joins d) (fun v s => Fx jwS d s ∧ ((∃ m, 0 ≤ m ∧ m < W ∧ jfP (sgF F) m) → v = -5 ∧ CI s (cpF F 0 2)) ∧ ((∀ m, 0 ≤ m → m < W → ¬ jfP (sgF F) m) → (24 < prs (cpF F 0 2) + (jnS (sgF F) W).1 → v = -3 ∧ CI s (cpF F 0 2)) ∧ (prs (cpF F 0 2) + (jnS (sgF F) W).1 ≤ 24 → (OVF (cpF F 0 2) (jnS (sgF F) W).2.1 (jnS (sgF F) W).2.2 (jnS (sgF F) W).1 → v = -4 ∧ CI s (cpF F 0 2)) ∧ (¬ OVF (cpF F 0 2) (jnS (sgF F) W).2.1 (jnS (sgF F) W).2.2 (jnS (sgF F) W).1 → v = prs G ∧ CI s (mkF G))))) := fun G hG => by
      obtain ⟨W', nk', k⟩ := k_joins (G := G) c1 sg sh0 h.sta rr.1 rr.2
      rw [nkS_uni nk' nk] at k
      exact k hG
    obtain ⟨v0, s0, e0, nf0, ga, gb⟩ := n_joins h.f wc h.o h.2.2.2.2.1 c2 nk
    obtain ⟨G0, hG0⟩ : ∃ G, (∀ m, 0 ≤ m → m < W → ¬ jfP (sgF F) m) → prs (cpF F 0 2) + (jnS (sgF F) W).1 ≤ 24 → ¬ OVF (cpF F 0 2) (jnS (sgF F) W).2.1 (jnS (sgF F) W).2.2 (jnS (sgF F) W).1 → apG (cpF F 0 2) G (jnS (sgF F) W).2.1 (jnS (sgF F) W).2.2 (jnS (sgF F) W).1 ∧ WFc G := by
      by_cases q1 : (∀ m, 0 ≤ m → m < W → ¬ jfP (sgF F) m) ∧ prs (cpF F 0 2) + (jnS (sgF F) W).1 ≤ 24 ∧ ¬ OVF (cpF F 0 2) (jnS (sgF F) W).2.1 (jnS (sgF F) W).2.2 (jnS (sgF F) W).1
      · obtain ⟨G, a1, a2, -⟩ := ((gb q1.1).2 q1.2.1).2 q1.2.2
        exact ⟨G, fun _ _ _ => ⟨a1, a2⟩⟩
      · exact ⟨F, fun a b c => absurd ⟨a, b, c⟩ q1⟩
    have n133 : ¬ jwS 133 := by unfold jwS maS jS tkP; omega
    have n132 : ¬ jwS 132 := by unfold jwS maS jS tkP; omega
    have n134 : ¬ jwS 134 := by unfold jwS maS jS tkP; omega
    obtain ⟨v, s, e, fx, f1, f2⟩ := kj G0 hG0
    obtain ⟨v', s', e', nf', g1, g2⟩ := n_joins (t := s) ((fx 133 n133).trans h.f) wc (by rw [fx 132 n132]; exact h.o) h.2.2.2.2.1 c2 nk
    have fin : ∀ K : Nat → Int, v = v' → CI s K → s'.m 133 = K → hiE F K → ORX K → BO d (fun d => wl_joins d) (fun d => m_joins d) := fun K ev hci hk hh ho => by
      refine ⟨v, s, s', K, B, T, e, by rw [ev]; exact e', ?_⟩
      exact INV.mk2 h (hci.fr (fun r r0 r1 => nf'.1 r (by omega))) hk (h.tq.fr (by rw [nf'.1 11 (by omega), fx 11 (by unfold jwS maS jS tkP; omega)]) (by rw [nf'.1 12 (by omega), fx 12 (by unfold jwS maS jS tkP; omega)]) (by rw [nf'.2.2.1, fx 132 n132]) (by rw [nf'.1 134 (by omega), fx 134 n134])) hh ho (by rw [nf'.2.2.2]; exact h.o.symm) (fun r hr => (nf'.1 r (by omega)).trans (fx r (by unfold jwS maS jS tkP; omega))) (by rw [nf'.2.1, fx 132 n132])
    by_cases nf : ∀ m, 0 ≤ m → m < W → ¬ jfP (sgF F) m
    · have f5 := f2 nf
      have g5 := g2 nf
      by_cases q2 : prs (cpF F 0 2) + (jnS (sgF F) W).1 ≤ 24
      · by_cases q3 : OVF (cpF F 0 2) (jnS (sgF F) W).2.1 (jnS (sgF F) W).2.2 (jnS (sgF F) W).1
        · have f6 := (f5.2 q2).1 q3
          have g6 := (g5.2 q2).1 q3
          exact fin (s'.m 133) (f6.1.trans g6.1.symm) (f6.2.same (fun q hq => (g6.2 q (by omega)).trans (lo q (by omega)).symm)) rfl (fun q _ q1 => g6.2 q q1) ((show sx F (s'.m 133) from fun q q0 _ _ _ _ => g6.2 q (by omega)).ORX h.wf h.2.2.2.2.2.1)
        · obtain ⟨G1, a1, a2, a3, a4, a5⟩ := (g5.2 q2).2 q3
          obtain ⟨v2, s2, e2, -, -, f2'⟩ := kj G1 (fun _ _ _ => ⟨a1, a2⟩)
          have es := e2.symm.trans e
          have ev : v2 = v ∧ s2 = s := by
            injection es with es
            injection es with x y
            exact ⟨x, y⟩
          obtain ⟨rfl, rfl⟩ := ev
          have f6 := ((f2' nf).2 q2).2 q3
          have jn := jn_ok sg sh0 nk nf W.toNat (by have := nk.1; omega)
          rw [show ((W.toNat : Nat) : Int) = W by have := nk.1; omega] at jn
          refine fin (mkF G1) (f6.1.trans a3.symm) f6.2 a4 (fun q hq0 hq1 => ?_) (ORX_mk a2 ?_)
          · rw [mkF_hi a2 hq0, a5 q hq0]
            exact lo q hq1
          · by_cases R0 : (jnS (sgF F) W).1 = 0
            · rw [R0] at a1
              exact ORD_ap0 oF1.1 a1
            · exact ORD_ap oF1.1 wl (by omega) (fun s q s0 s1 q0 q1 => (jn.2 s q s0 s1 q0 q1).1) a1
      · have f6 := f5.1 (by omega)
        have g6 := g5.1 (by omega)
        exact fin F (f6.1.trans g6.1.symm) (f6.2.same (fun q hq => (lo q (by omega)).symm)) g6.2 (fun _ _ _ => rfl) h.2.2.2.2.2.1
    · have ff : ∃ m, 0 ≤ m ∧ m < W ∧ jfP (sgF F) m := Classical.byContradiction (fun c => nf (fun m a b x => c ⟨m, a, b, x⟩))
      have f6 := f1 ff
      have g6 := g1 ff
      exact fin F (f6.1.trans g6.1.symm) (f6.2.same (fun q hq => (lo q (by omega)).symm)) g6.2 (fun _ _ _ => rfl) h.2.2.2.2.2.1
end
