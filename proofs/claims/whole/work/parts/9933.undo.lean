/-! KEPT AND UNDONE, both sides. -/
/-- alike in the file's own part -/
def lo45 (F G : Nat → Int) : Prop := ∀ q : Nat, q < 4545 → G q = F q
section
variable {F G : Nat → Int}
theorem lo45.l (e : lo45 F G) : shl G = shl F := e _ (by rw [zix_id (by omega)]; omega)
theorem lo45.s (e : lo45 F G) (h : WFs F) : sgF G = sgF F := by
  have h1 := h.1
  funext k
  unfold sgF
  rw [e.l]
  by_cases c : 0 ≤ k ∧ k < shl F
  · rw [if_pos c, if_pos c]
    exact e _ (by rw [zix_id (by omega)]; omega)
  · rw [if_neg c, if_neg c]
theorem WFs.lo (h : WFs F) (e : lo45 F G) : WFs G := by
  unfold WFs
  rw [e.l, e.s h]
  exact h
theorem RepD.lo {m : Nat → Nat → Int} {b : Nat} (h : RepD m b F) (hs : WFs F) (e : lo45 F G) : RepD m b G := by
  unfold RepD
  rw [e.l, e.s hs]
  exact h
theorem lo45.x (e : lo45 F G) : sx F G := fun q q0 _ _ _ _ => e q (by omega)
end
section
variable {P : zP} {d t : zD P} {F G : Nat → Int} {B : Int → Int} {T : Int}
theorem b_keep (h : INV d F B T) : BO d (fun d => wl_keep d) (fun d => m_keep d) := by
  have hw := h.wf
  have y0 : zin 0 18180 := of_eq_true (zinT (by omega))
  have lK : lo45 F (cpF F 0 1) := fun q hq => by
    unfold cpF
    rw [if_neg (by omega)]
  have lk : lo45 F (kpF (cpF F 0 1)) := fun q hq => by
    unfold kpF
    rw [if_pos hq, show 4545 + q = 4545 * 1 + q by omega, cpF_base hq]
    exact congrArg F (by omega)
  have cK : CI d (cpF F 0 1) := h.ci.same (fun q hq => lK q (by omega))
  have ck : CI d (kpF (cpF F 0 1)) := h.ci.same (fun q hq => lk q (by omega))
  have h5 : d.m 13 5 = 0 ∨ d.m 13 5 = 1 := by rw [h.ci.ca.ltd_]; exact hw.ltd_
  have h6 : d.m 13 6 = 0 ∨ d.m 13 6 = 1 := by rw [h.ci.ca.plc_]; exact hw.plc_
  obtain ⟨v1, s1, e1, f1⟩ := k_takeAll (d := d) (a := 41) (b := 13) (by omega) h5 h6
  obtain ⟨x1, g1, g2, g3⟩ := f1
  have e10 : (s1.up 10 12 1).m 10 = zfu (s1.m 10) 12 1 := u_10_12
  have x2 : ∀ r, r ≠ 10 → (r < 41 ∨ 69 ≤ r) → (s1.up 10 12 1).m r = d.m r := fun r r1 r2 => (up_ne r1).trans (x1 r (by omega))
  have x3 : ∀ r, 41 ≤ r → r < 69 → (s1.up 10 12 1).m r = s1.m r := fun r r1 r2 => up_ne (by omega)
  have ek : wl_keep d = some (prs F, s1.up 10 12 1) := by
    rw [wl_keep_e, e1, Option.bind_some]
    (try dsimp only)
    rw [x2 14 (by omega) (by omega), h.ci.ca.prs_]
  generalize hs2 : s1.up 10 12 1 = s2 at *
  obtain ⟨s3, hs3⟩ : ∃ s3, s3 = s2.up 132 1 1 := ⟨_, rfl⟩
  have e132 : s3.m 132 = zfu (s2.m 132) 1 1 := by rw [hs3]; exact u_132_1
  have y3 : ∀ r, r ≠ 132 → s3.m r = s2.m r := fun r r1 => by rw [hs3]; exact up_ne r1
  have sF : s3.m 133 = F := (y3 133 (by decide)).trans ((x2 133 (by omega) (by omega)).trans h.f)
  obtain ⟨v4, s4, e4, x4, f4⟩ := n_copies sF (a := 0) (b := 1) (by omega) (by omega) (by decide)
  have f4' : s4.m 133 = cpF F 0 1 := f4
  have er : ∀ r, r ≠ 133 → s4.m r = s3.m r := fun r r1 => x4 r r1
  have all : ∀ r, r ≠ 10 → r ≠ 132 → r ≠ 133 → (r < 41 ∨ 69 ≤ r) → s4.m r = d.m r := fun r r1 r2 r3 r4 => (er r r3).trans ((y3 r r2).trans (x2 r r1 r4))
  have kal : ∀ r, 41 ≤ r → r < 69 → s4.m r = s1.m r := fun r r1 r2 => (er r (by omega)).trans ((y3 r (by omega)).trans (x3 r r1 r2))
  have e2 : s4.m 132 = zfu (d.m 132) 1 1 := by rw [er 132 (by decide), e132, x2 132 (by omega) (by omega)]
  have e3 : s4.m 10 = zfu (s1.m 10) 12 1 := by rw [er 10 (by decide), y3 10 (by decide), e10]
  refine ⟨prs F, s2, s4, cpF F 0 1, B, T, ek, ?_, ?_⟩
  · (try dsimp only)
    rw [m_keep_e, ← hs3, e4, Option.bind_some, if_pos y0]
    (try dsimp only)
    rw [f4']
    exact congrArg (fun x => some (x, s4)) (lK _ (by rw [zix_id (by omega)]; omega))
  · refine ⟨cK.fr (fun r r0 r1 => all r (by omega) (by omega) (by omega) (by omega)), f4', h.tq.fr (by rw [all 11 (by omega) (by omega) (by omega) (by omega)]) (all 12 (by omega) (by omega) (by omega) (by omega)) (by rw [e2]; rfl) (all 134 (by omega) (by omega) (by omega) (by omega)), (h.2.2.2.1.fr (fun r r0 r1 => all r (by omega) (by omega) (by omega) (by omega))).lo h.2.2.2.2.1 lK, h.2.2.2.2.1.lo lK, lK.x.ORX hw h.2.2.2.2.2.1, by rw [e2]; exact h.o, Or.inr ⟨by rw [e3]; rfl, by rw [e2]; rfl, ck.wf, h.2.2.2.2.1.lo lk, lk.x.ORX hw h.2.2.2.2.2.1, (g1 _ ck.wf ck.1.2).fr (fun r r0 r1 => kal r (by omega) (by omega)), (g2 _ ck.2).fr (fun r r0 r1 => kal r (by omega) (by omega)), (g3 _ (h.2.2.2.1.lo h.2.2.2.2.1 lk)).fr (fun r r0 r1 => kal r (by omega) (by omega))⟩, h.sta.fr (fun r hr => all r (by omega) (by omega) (by omega) (by omega))⟩
theorem b_undo (h : INV d F B T) : BO d (fun d => wl_undo d) (fun d => m_undo d) := by
  have kp := h.2.2.2.2.2.2.2.1
  rcases kp with ⟨k1, k2⟩ | ⟨k1, k2, wk, sk, ok, ak, ck, dk⟩
  · refine ⟨0, d, d, F, B, T, ?_, ?_, h⟩
    · (try dsimp only)
      rw [wl_undo_e, k1, if_neg (fun x => x zz0)]
    · (try dsimp only)
      rw [m_undo_e, k2, if_neg (fun x => x zz0)]
  · have lK : lo45 (kpF F) (cpF F 1 0) := fun q hq => by
      unfold kpF cpF
      rw [if_pos hq, if_pos (by omega)]
      exact congrArg F (by omega)
    have eK : kpF (cpF F 1 0) = kpF F := by
      funext q
      unfold kpF cpF
      by_cases c : q < 4545
      · rw [if_pos c, if_pos c, if_neg (by omega)]
      · rw [if_neg c, if_neg c]
    have h5 : d.m 41 5 = 0 ∨ d.m 41 5 = 1 := by rw [show d.m 41 5 = ltd (kpF F) from ak.2.2.2.2.2.2.2.1]; exact wk.ltd_
    have h6 : d.m 41 6 = 0 ∨ d.m 41 6 = 1 := by rw [show d.m 41 6 = plc (kpF F) from ak.2.2.2.2.2.2.2.2.1]; exact wk.plc_
    obtain ⟨v1, s1, e1, f1⟩ := k_takeAll (d := d) (a := 13) (b := 41) (by omega) h5 h6
    obtain ⟨x1, g1, g2, g3⟩ := f1
    have ck1 : CI s1 (kpF F) := ⟨⟨wk, g1 _ wk ak⟩, g2 _ ck⟩
    have cK : CI s1 (cpF F 1 0) := ck1.same (fun q hq => lK q (by omega))
    have sF : s1.m 133 = F := (x1 133 (by omega)).trans h.f
    obtain ⟨v4, s4, e4, x4, f4⟩ := n_copies sF (a := 1) (b := 0) (by omega) (by omega) (by decide)
    have f4' : s4.m 133 = cpF F 1 0 := f4
    have er : ∀ r, r ≠ 133 → s4.m r = s1.m r := fun r r1 => x4 r r1
    have all : ∀ r, r ≠ 133 → (r < 13 ∨ 41 ≤ r) → s4.m r = d.m r := fun r r1 r2 => (er r r1).trans (x1 r (by omega))
    refine ⟨1, s1, s4, cpF F 1 0, B, T, ?_, ?_, ?_⟩
    · (try dsimp only)
      rw [wl_undo_e, k1, if_pos oz1, e1, Option.bind_some]
    · (try dsimp only)
      rw [m_undo_e, x1 132 (by omega), k2, if_pos oz1, e4, Option.bind_some]
    · refine ⟨cK.fr (fun r r0 r1 => er r (by omega)), f4', h.tq.fr (by rw [all 11 (by omega) (by omega)]) (all 12 (by omega) (by omega)) (by rw [all 132 (by omega) (by omega)]) (all 134 (by omega) (by omega)), ((g3 _ dk).fr (fun r r0 r1 => er r (by omega))).lo sk lK, sk.lo lK, lK.x.ORX wk ok, by rw [all 132 (by omega) (by omega)]; exact h.o, Or.inr ⟨by rw [all 10 (by omega) (by omega)]; exact k1, by rw [all 132 (by omega) (by omega)]; exact k2, by rw [eK]; exact wk, by rw [eK]; exact sk, by rw [eK]; exact ok, by rw [eK]; exact ak.fr (fun r r0 r1 => all r (by omega) (by omega)), by rw [eK]; exact ck.fr (fun r r0 r1 => all r (by omega) (by omega)), by rw [eK]; exact dk.fr (fun r r0 r1 => all r (by omega) (by omega))⟩, h.sta.fr (fun r hr => all r (by omega) (by omega))⟩
end
