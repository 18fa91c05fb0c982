/-! EVEN AND TRIED, both sides. -/
theorem mkN_ptn {G : Nat → Int} (wG : WF G) (hP : PTI G) {w u v : Int} (w0 : 0 ≤ w) (w1 : w < 2) (u0 : 0 ≤ u) (u1 : u < 40) (v0 : 0 ≤ v) (v1 : v < 40) : ptn (mkN G) w u v = ptn G w u v := by
  have z := mkN_shr wG.c w0 w1 u0 u1 v0 v1
  unfold ptn
  by_cases cm : mt G (fun _ _ _ => True) w u v
  · rw [z.1 cm]
    obtain ⟨p, i, j, a1, a2, a3, a4, a5⟩ := cm
    have ge : 0 ≤ shr G w u v := by
      rcases a5 with ⟨rfl, rfl, rfl⟩ | ⟨rfl, rfl, rfl⟩
      · exact wG.ptn_ (w := 0) (by omega) (by omega) a1.1 a1.2 a2.1 a2.2 a3.1 a3.2
      · exact wG.ptn_ (w := 1) (by omega) (by omega) a1.1 a1.2 a3.1 a3.2 a2.1 a2.2
    rw [decide_eq_false (show ¬ (0 : Int) = -1 by decide), decide_eq_false (show ¬ shr G w u v = -1 by omega)]
  · rw [z.2 cm]
    have : shr G w u v = -1 := Classical.byContradiction (fun x => cm (hP w u v w0 w1 u0 u1 v0 v1 x))
    rw [this]
theorem CA.mk {P : zP} {d : zD P} {G : Nat → Int} (h : CA d G) (hP : PTI G) : CA d (mkN G) := mkC_same.ca (wf_mkN h.wf.c) (fun w u v w0 w1 u0 u1 v0 v1 => mkN_ptn h.wf hP w0 w1 u0 u1 v0 v1) h
theorem rdQ.mk {G : Nat → Int} (wG : WF G) (hP : PTI G) (hm : WF (mkF G)) : rdQ G (mkF G) := ⟨hm, SameA.tr mkC_same mkF_same, fun w u v w0 w1 u0 u1 v0 v1 => (mkF_ptn (wf_mkN wG.c) w0 w1 u0 u1 v0 v1).trans (mkN_ptn wG hP w0 w1 u0 u1 v0 v1), fun q hq => mkF_hi wG.c hq⟩
theorem cpF_base {F : Nat → Int} {a b q : Nat} (hq : q < 4545) : cpF F a b (4545 * b + q) = F (4545 * a + q) := by
  unfold cpF
  rw [if_pos (by omega)]
  exact congrArg F (by omega)
theorem oth_sym_le (F G : Nat → Int) (w : Int) : 0 ≤ oth F G w ∧ oth F G w ≤ 1600 := oth_le F G w
/-- shares that are not nothing, one way -/
def fsF (G : Nat → Int) (w : Int) : Int := sm 1600 (fun k => if shf G w k ≤ 0 then 0 else 1)
theorem fsF_le (G : Nat → Int) (w : Int) : 0 ≤ fsF G w ∧ fsF G w ≤ 1600 := by
  have := sm_le (g := fun k => if shf G w k ≤ 0 then (0 : Int) else 1) (n := 1600) (B := 1) (by omega) (fun k _ _ => by (try dsimp only); split <;> omega)
  unfold fsF
  omega
theorem sm_cat {g : Int → Int} {a b : Int} (ha : 0 ≤ a) (hb : 0 ≤ b) : sm (a + b) g = sm a g + sm b (fun k => g (a + k)) := by
  obtain ⟨n, rfl⟩ := Int.eq_ofNat_of_zero_le hb
  clear hb
  induction n with
  | zero => rw [show ((0 : Nat) : Int) = 0 from rfl, sm_z, Int.add_zero, Int.add_zero]
  | succ n ih =>
    rw [show ((n + 1 : Nat) : Int) = (n : Int) + 1 by omega, ← Int.add_assoc, sm_s _ (by omega), sm_s _ (by omega), ih]
    omega
section
variable {P : zP} {d t : zD P} {F G : Nat → Int} {B : Int → Int} {T : Int}
theorem k_fullShares (hc : CI d G) {w : Int} (w0 : 0 ≤ w) (w1 : w < 2) : st_fullShares d w = some (fsF G w, d) := by
  have y2 : zin w 2 := of_eq_true (zinT (by omega))
  have e : st_fullShares_4 d w 0 0 = st_fullShares_4 d w (fsF G w) 1600 := lpS (fun k a => st_fullShares_4 d w a k) (fun k => if shf G w k ≤ 0 then 0 else 1) 1600 (by omega) (fun k a k0 k1 _ => by
    have y16 : zin k 1600 := of_eq_true (zinT (by omega))
    have c1 := hc.shf_ w0 w1 k0 k1
    have bG := hc.wf.shf_ w0 w1 k0 k1
    (try dsimp only)
    rw [st_fullShares_4_e, if_neg (by rw [wr_id (by omega), wr_id (by omega)]; omega), if_pos y2, if_pos y16, c1]
    by_cases e1 : shf G w k = -1
    · rw [if_pos e1, if_pos zz0, if_pos (by omega), Int.add_zero]
    · rw [if_neg e1, wr_id (by omega)]
      by_cases e3 : shf G w k = 0
      · rw [if_pos e3, if_pos (by omega), Int.add_zero]
      · rw [if_neg e3, if_neg (by omega)])
  rw [st_fullShares_e, e, st_fullShares_4_e, if_pos (by omega)]
theorem n_notNothing (hF : d.m 133 = G) (hw : WF G) : m_notNothing d = some (fsF G 0 + fsF G 1, d) := by
  have e : m_notNothing_4 d 0 0 = m_notNothing_4 d (sm 3200 (fun k => if G (zix (1144 + k)) ≤ 0 then 0 else 1)) 3200 := lpS (fun k a => m_notNothing_4 d a k) (fun k => if G (zix (1144 + k)) ≤ 0 then 0 else 1) 3200 (by omega) (fun k a k0 k1 _ => by
    have y1 : zin (1144 + k) 18180 := of_eq_true (zinT (by omega))
    have b : -1 ≤ G (zix (1144 + k)) ∧ G (zix (1144 + k)) ≤ 2000000000 := by
      by_cases c : k < 1600
      · have := hw.shf_ (w := 0) (k := k) (by omega) (by omega) (by omega) (by omega)
        unfold shf at this
        rw [show (1144 + (1600 * (0 : Int))) + k = 1144 + k by omega] at this
        omega
      · have := hw.shf_ (w := 1) (k := k - 1600) (by omega) (by omega) (by omega) (by omega)
        unfold shf at this
        rw [show (1144 + (1600 * (1 : Int))) + (k - 1600) = 1144 + k by omega] at this
        omega
    (try dsimp only)
    rw [m_notNothing_4_e, if_neg (by rw [wr_id (by omega), wr_id (by omega)]; omega), if_pos y1, hF, wr_id (by omega)]
    by_cases e3 : G (zix (1144 + k)) ≤ 0
    · rw [if_pos e3, if_pos e3, Int.add_zero]
    · rw [if_neg e3, if_neg e3])
  have s2 : sm 3200 (fun k => if G (zix (1144 + k)) ≤ 0 then (0 : Int) else 1) = fsF G 0 + fsF G 1 := by
    rw [show (3200 : Int) = 1600 + 1600 from rfl, sm_cat (by omega) (by omega)]
    unfold fsF shf
    refine congr (congrArg _ (sm_congr (by omega) (fun k k0 k1 => ?_))) (sm_congr (by omega) (fun k k0 k1 => ?_))
    · (try dsimp only)
      rw [show (1144 + (1600 * (0 : Int))) + k = 1144 + k by omega]
    · (try dsimp only)
      rw [show (1144 + (1600 * (1 : Int))) + k = 1144 + (1600 + k) by omega]
  rw [m_notNothing_e, e, m_notNothing_4_e, if_pos (by omega), s2]
theorem b_even (h : INV d F B T) : BO d (fun d => wl_even d) (fun d => m_even d) := by
  have lo : lowE F (cpF F 0 2) := cpF_low (by omega)
  have cF : CI d (cpF F 0 2) := h.ci.same (fun q hq => lo q (by omega))
  have wF1 := cF.wf
  have oF1 : ORX (cpF F 0 2) := (show sx F (cpF F 0 2) from fun q q0 _ _ _ _ => lo q (by omega)).ORX h.wf h.2.2.2.2.2.1
  have kx : Ok (wl_even d) (fun v s => v = oth (cpF F 0 2) (mkF (cpF F 0 2)) 0 + oth (cpF F 0 2) (mkF (cpF F 0 2)) 1 ∧ CI s (mkF (cpF F 0 2)) ∧ Fx (fun r => (36 ≤ r ∧ r < 41) ∨ (91 ≤ r ∧ r < 97) ∨ (109 ≤ r ∧ r < 113)) d s) := by
    rw [wl_even_e]
    refine Ok_bind k_aside (fun v s f => ?_)
    have fx : Fx (fun r => (36 ≤ r ∧ r < 41) ∨ (91 ≤ r ∧ r < 97) ∨ (109 ≤ r ∧ r < 113)) d s := f.1.mo (fun r hr => by unfold shS at hr; omega)
    have ca0 : CA s (cpF F 0 2) := cF.ca.fr (fun r r0 r1 => f.1 r (by unfold shS; omega))
    have as0 : asQ s (cpF F 0 2) := f.as cF
    (try dsimp only)
    refine Ok_bind (k_begin (ca0.mk oF1.2)) (fun v2 s2 f2 => ?_)
    have as2 : asQ s2 (cpF F 0 2) := as0.fr (fun r r0 r1 => f2.2 r (by omega) (by omega))
    have hq := rdQ.mk wF1 oF1.2 f2.1.wf
    (try dsimp only)
    rw [k_othersThan wF1 f2.1 as2 hq (by omega) (by omega), Option.bind_some]
    (try dsimp only)
    rw [k_othersThan wF1 f2.1 as2 hq (by omega) (by omega), Option.bind_some]
    exact Ok_ret ⟨rfl, f2.1, fx.tr (fun r hr => f2.2 r (by omega) (by omega))⟩
  obtain ⟨v, s, e, hv, hci, fx⟩ := kx
  have sF : s.m 133 = F := (fx 133 (by omega)).trans h.f
  have hq := rdQ.mk wF1 oF1.2 hci.wf
  have nx : Ok (m_even s) (fun v' s' => v' = oth (cpF F 0 2) (mkF (cpF F 0 2)) 0 + oth (cpF F 0 2) (mkF (cpF F 0 2)) 1 ∧ s'.m 133 = mkF (cpF F 0 2) ∧ Fx (fun r => r = 133 ∨ (143 ≤ r ∧ r < 147)) s s') := by
    rw [m_even_e]
    refine Ok_bind (n_copies sF (a := 0) (b := 2) (by omega) (by omega) (by decide)) (fun v1 s1 f1 => ?_)
    have f1b : s1.m 133 = cpF F 0 2 := f1.2
    (try dsimp only)
    refine Ok_bind (n_makesNew f1b (wf_mkN wF1.c)) (fun v2 s2 f2 => ?_)
    have base : ∀ q : Nat, q < 4345 → mkF (cpF F 0 2) (4545 * (2 : Int).toNat + q) = cpF F 0 2 q := fun q hq => by
      rw [mkF_hi wF1.c (by show 4344 ≤ 4545 * 2 + q; omega), show (2 : Int).toNat = 2 from rfl, cpF_base (by omega), lo q (by omega)]
      exact congrArg F (by omega)
    (try dsimp only)
    rw [n_others (F := cpF F 0 2) f2.1 hci.wf wF1 (b := 2) (by omega) base (by omega) (by omega), Option.bind_some]
    (try dsimp only)
    rw [n_others (F := cpF F 0 2) f2.1 hci.wf wF1 (b := 2) (by omega) base (by omega) (by omega), Option.bind_some]
    exact Ok_ret ⟨rfl, f2.1, (f1.1.mo (fun r hr => Or.inl hr)).tr (fun r hr => f2.2 r (by omega) (by omega))⟩
  obtain ⟨v', s', e', hv', hF', fx'⟩ := nx
  have er : ∀ r, (r < 36 ∨ (41 ≤ r ∧ r < 91) ∨ (97 ≤ r ∧ r < 109) ∨ (113 ≤ r ∧ r < 133) ∨ r = 134) → s'.m r = d.m r := fun r hr => (fx' r (by omega)).trans (fx r (by omega))
  refine ⟨v, s, s', mkF (cpF F 0 2), B, T, e, by rw [hv, ← hv']; exact e', ?_⟩
  exact INV.rd h (hci.fr (fun r r0 r1 => fx' r (by omega))) hF' (Or.inl hq) (fun q q0 q1 => (mkF_hi wF1.c q0).trans (lo q q1)) (hq.orx wF1 oF1) (fun r hr => er r (by omega)) (by rw [er 132 (by omega)]) (by rw [er 132 (by omega)]) (by rw [er 132 (by omega)])
end
