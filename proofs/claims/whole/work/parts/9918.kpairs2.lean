/-! PAIRS COME: pairs, the class whole. -/
section
variable {P : zP} {d t : zD P} {F G : Nat → Int}
theorem CI.ca2 {s : zD P} (h : CI d F) (hc : CA s F) (e : ∀ r, 35 ≤ r → r < 41 → s.m r = d.m r) : CI s F := by
  refine ⟨hc, fun w k h1 h2 h3 h4 => ?_, fun w k h1 h2 h3 h4 => ?_⟩
  · have z := zix2 h1 h2
    rw [e _ (by omega) (by omega)]
    exact h.2.1 w k h1 h2 h3 h4
  · have z := zix2 h1 h2
    rw [e _ (by omega) (by omega)]
    exact h.2.2 w k h1 h2 h3 h4
def tkP : Nat → Prop := fun r => (14 ≤ r ∧ r < 29) ∨ (36 ≤ r ∧ r < 41) ∨ (109 ≤ r ∧ r < 113)
/-- rows become pairs -/
theorem k_takePairs (h : CI d F) {ln : Int → Int → Int} {ky : Int → Int → Int → Int} {R : Int} (o0 : rO d.m 97 R (ln 0) (ky 0)) (o1 : rO d.m 100 R (ln 1) (ky 1)) (l6 : ∀ s r, 0 ≤ s → s < 2 → 0 ≤ r → r < R → 1 ≤ ln s r ∧ ln s r ≤ 6) (hky : ∀ s r i, 0 ≤ s → s < 2 → 0 ≤ r → r < R → 0 ≤ i → i < ln s r → 0 ≤ ky s r i ∧ ky s r i < 34359738368) (hG : prs F + R ≤ 24 → ¬ OVF F ln ky R → apG F G ln ky R ∧ WFc G) : Ok (wl_takePairs d) (fun a t => Fx tkP d t ∧ (24 < prs F + R → a = -3 ∧ CI t F) ∧ (prs F + R ≤ 24 → (OVF F ln ky R → a = -4 ∧ CI t F) ∧ (¬ OVF F ln ky R → a = prs G ∧ CI t (mkF G)))) := by
  have z : ∀ r, aS r → tkP r := fun r hr => by unfold aS at hr; unfold tkP; omega
  rw [wl_takePairs_e]
  refine Ok_bind (k_append (G := G) h.1 o0 o1 l6 hky (fun c c0 c1 => hG c (fun hh => by rcases hh with hh | hh <;> omega))) (fun a s f => ?_)
  obtain ⟨fx, f1, f2, f3⟩ := f
  have keep : CA s F → CI s F := fun hc => h.ca2 hc (fun r r0 r1 => fx r (by unfold aS; omega))
  (try dsimp only)
  by_cases c1 : 24 < prs F + R
  · have g := f1 c1
    rw [g.1, if_pos (by rw [wr_id (by omega)]; omega)]
    exact Ok_ret ⟨fx.mo z, fun _ => ⟨rfl, keep g.2⟩, fun hh => by omega⟩
  · have c1' : prs F + R ≤ 24 := Int.not_lt.mp c1
    by_cases c2 : OVF F ln ky R
    · have g := f2 c1' c2
      rw [g.1, if_pos (by rw [wr_id (by omega)]; omega)]
      exact Ok_ret ⟨fx.mo z, fun hh => by omega, fun _ => ⟨fun _ => ⟨rfl, keep g.2⟩, fun hh => absurd c2 hh⟩⟩
    · have g := f3 c1' (Int.not_lt.mp (fun hh => c2 (Or.inl hh))) (Int.not_lt.mp (fun hh => c2 (Or.inr hh)))
      have hap := hG c1' c2
      have p24 := hap.2.1
      rw [g.1, if_neg (by rw [wr_id (by omega)]; omega)]
      refine Ok_bind (k_begin g.2) (fun v s2 f4 => ?_)
      exact Ok_ret ⟨(fx.mo z).tr (fun r hr => f4.2 r (by unfold tkP at hr; omega) (by unfold tkP at hr; omega)), fun hh => by omega, fun _ => ⟨fun hh => absurd hh c2, fun _ => ⟨rfl, f4.1⟩⟩⟩
def pkS : Nat → Prop := fun r => r = 11 ∨ (97 ≤ r ∧ r < 103) ∨ tkP r
theorem k_pairs (h : CI d F) {B : Int → Int} {T n : Int} (hq : TQ d B T) (hn : I32 n) (hG : (prd (cutB B n) n 12 0).1 = 0 → prs F + (prd (cutB B n) n 12 0).2.2 ≤ 24 → ¬ OVF F (cln (cutB B n)) (cky (cutB B n)) (prd (cutB B n) n 12 0).2.2 → apG F G (cln (cutB B n)) (cky (cutB B n)) (prd (cutB B n) n 12 0).2.2 ∧ WFc G) : Ok (wl_pairs d n) (fun v s => Fx pkS d s ∧ (¬ pqC T n → v = -1 ∧ s = d) ∧ (pqC T n → s.m 11 1 = 0 ∧ ((prd (cutB B n) n 12 0).1 ≠ 0 → v = -1000 * (prd (cutB B n) n 12 0).1 - (prd (cutB B n) n 12 0).2.1 ∧ CI s F) ∧ ((prd (cutB B n) n 12 0).1 = 0 → (24 < prs F + (prd (cutB B n) n 12 0).2.2 → v = -3 ∧ CI s F) ∧ (prs F + (prd (cutB B n) n 12 0).2.2 ≤ 24 → (OVF F (cln (cutB B n)) (cky (cutB B n)) (prd (cutB B n) n 12 0).2.2 → v = -4 ∧ CI s F) ∧ (¬ OVF F (cln (cutB B n)) (cky (cutB B n)) (prd (cutB B n) n 12 0).2.2 → v = prs G ∧ CI s (mkF G)))))) := by
  have zz : wr 0 = 0 := rfl
  have oz : ¬ wr 1 = 0 := by rw [wr_id (by omega)]; omega
  have hT := hq.2.2.1
  have hn' := hn
  unfold I32 at hn'
  rw [wl_pairs_e, wr_id (by omega), wr_id (by omega), wr_id (by omega)]
  have no : ¬ pqC T n → Ok (some (-1, d)) (fun v s => Fx pkS d s ∧ (¬ pqC T n → v = -1 ∧ s = d) ∧ (pqC T n → s.m 11 1 = 0 ∧ ((prd (cutB B n) n 12 0).1 ≠ 0 → v = -1000 * (prd (cutB B n) n 12 0).1 - (prd (cutB B n) n 12 0).2.1 ∧ CI s F) ∧ ((prd (cutB B n) n 12 0).1 = 0 → (24 < prs F + (prd (cutB B n) n 12 0).2.2 → v = -3 ∧ CI s F) ∧ (prs F + (prd (cutB B n) n 12 0).2.2 ≤ 24 → (OVF F (cln (cutB B n)) (cky (cutB B n)) (prd (cutB B n) n 12 0).2.2 → v = -4 ∧ CI s F) ∧ (¬ OVF F (cln (cutB B n)) (cky (cutB B n)) (prd (cutB B n) n 12 0).2.2 → v = prs G ∧ CI s (mkF G)))))) := fun hc => Ok_ret ⟨Fx.rf, fun _ => ⟨rfl, rfl⟩, fun hh => absurd hh hc⟩
  by_cases a1 : n < 1
  · rw [if_pos a1]
    exact no (fun hh => by have := hh.1; omega)
  rw [if_neg a1]
  by_cases a2 : 200 < n
  · rw [if_pos a2]
    exact no (fun hh => by have := hh.1; omega)
  rw [if_neg a2, k_holds hq.1 hT hn, Option.bind_some]
  (try dsimp only)
  by_cases a3 : n ≤ T
  · have hC : pqC T n := ⟨by omega, a3⟩
    have sg := cutB_s hq.n (n := n) (by omega) a3
    rw [bi_t a3, if_pos oz]
    refine Ok_bind (k_readPairs hq.1 (cutB_k hq a3) sg a3 hT.2) (fun v s f => ?_)
    obtain ⟨u, e, fu, hu1, hu3, hu4⟩ := k_clear (t := s)
    have fx : Fx pkS d u := (f.1.mo (fun r hr => by unfold t2S bS at hr; unfold pkS; omega)).tr (fu.mo (fun r hr => Or.inl hr))
    have ci : CI u F := h.fr (fun r r0 r1 => by
      rw [fu r (by omega), f.1 r (by unfold t2S bS; omega)])
    (try dsimp only)
    rw [e, Option.bind_some]
    (try dsimp only)
    by_cases c3 : (prd (cutB B n) n 12 0).1 = 0
    · have g := prd_G (H := cutB B n) (n := n) 12 0 c3
      obtain ⟨rfl, r97, r100⟩ := f.2.2.2 c3
      have hlk : ∀ s q, 0 ≤ s → s < 2 → 0 ≤ q → q < (prd (cutB B n) n 12 0).2.2 → (1 ≤ cln (cutB B n) s q ∧ cln (cutB B n) s q ≤ 6) ∧ ∀ i, 0 ≤ i → i < cln (cutB B n) s q → 0 ≤ cky (cutB B n) s q i ∧ cky (cutB B n) s q i < 34359738368 := fun s q s0 s1 q0 q1 => by
        have key : ∀ m : Nat, (m : Int) < (prd (cutB B n) n 12 0).2.2 → 0 ≤ sst (cutB B n) 0 m ∧ sst (cutB B n) 0 m ≤ n := by
          intro m
          induction m with
          | zero =>
            intro _
            have e : sst (cutB B n) 0 ((0 : Nat) : Int) = 0 := cst_0 (H := cutB B n)
            rw [e]
            exact ⟨Int.le_refl _, by omega⟩
          | succ m ih =>
            intro hm
            have i := ih (by omega)
            have c := clG_l (s := 1) sg (g.2.1 m (by omega) (by omega)) i.1 i.2 (by omega) (by omega)
            have e : sst (cutB B n) 0 ((m + 1 : Nat) : Int) = (sen (cutB B n) 6 0 (sst (cutB B n) 1 m)).2.1 + 1 := by
              have := cst_s (H := cutB B n) (r := (m : Int)) (by omega)
              rw [show ((m + 1 : Nat) : Int) = (m : Int) + 1 by omega]
              exact this
            have mid := g.2.2.2 m (by omega) (by omega)
            have s0' := sen_0 (q := sst (cutB B n) 1 m) sg 6 c.2.1.1 c.2.1.2
            have lt := sg.lt (k := (sen (cutB B n) 6 0 (sst (cutB B n) 1 m)).2.1) (by rw [mid.2]; decide)
            rw [e]
            omega
        have kq := key q.toNat (by omega)
        rw [show ((q.toNat : Nat) : Int) = q by omega] at kq
        have c := clG_l sg (g.2.1 q q0 q1) kq.1 kq.2 s0 s1
        exact ⟨c.1, c.2.2⟩
      rw [if_neg oz]
      refine Ok_bind (k_takePairs (G := G) ci (r97.fx fu (by decide) (by decide) (by decide)) (r100.fx fu (by decide) (by decide) (by decide)) (fun s q s0 s1 q0 q1 => (hlk s q s0 s1 q0 q1).1) (fun s q i s0 s1 q0 q1 i0 i1 => (hlk s q s0 s1 q0 q1).2 i i0 i1) (hG c3)) (fun a s2 f2 => ?_)
      obtain ⟨g1, g2, g3⟩ := f2
      refine Ok_ret ⟨fx.tr (g1.mo (fun r hr => Or.inr (Or.inr hr))), fun hh => absurd hC hh, fun _ => ⟨?_, fun hh => absurd c3 hh, fun _ => ⟨g2, g3⟩⟩⟩
      rw [g1 11 (by unfold tkP; omega)]
      exact hu1
    · have f2 := f.2.2.1 c3
      rw [f2.1, if_pos zz, k_faultA (hu4.trans f2.2) (hu3.trans f.2.1.1.2.2), Option.bind_some]
      exact Ok_ret ⟨fx, fun hh => absurd hC hh, fun _ => ⟨hu1, fun _ => ⟨rfl, ci⟩, fun hh => absurd hh c3⟩⟩
  · rw [bi_f a3, if_neg (fun hh => hh zz)]
    exact no (fun hh => a3 hh.2)
end
