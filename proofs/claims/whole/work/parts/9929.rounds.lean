/-! ROUNDS, both sides: shares laid aside, gone over, counted, taken back. -/
theorem goF_hi {F : Nat → Int} (hw : WF F) {w : Int} (w0 : 0 ≤ w) (w1 : w < 2) {q : Nat} (hq : 4344 ≤ q) : goF F w q = F q := by
  have b := hw.wds_ w0 w1
  unfold goF
  by_cases c : plc F = 0
  · rw [if_pos c]
    unfold goS
    rw [if_neg (by omega)]
  · rw [if_neg c]
    unfold goN
    rw [if_neg (by omega)]
    unfold goS
    rw [if_neg (by omega)]
/-- how many shares are others -/
noncomputable def oth (F G : Nat → Int) (w : Int) : Int := sm 1600 (fun k => if shf G w k = shf F w k then 0 else 1)
theorem oth_le (F G : Nat → Int) (w : Int) : 0 ≤ oth F G w ∧ oth F G w ≤ 1600 := by
  have := sm_le (g := fun k => if shf G w k = shf F w k then (0 : Int) else 1) (n := 1600) (B := 1) (by omega) (fun k _ _ => by (try dsimp only); split <;> omega)
  unfold oth
  omega
/-- what rounds keep -/
def rdQ (F G : Nat → Int) : Prop := WF G ∧ SameA F G ∧ (∀ w u v, 0 ≤ w → w < 2 → 0 ≤ u → u < 40 → 0 ≤ v → v < 40 → ptn G w u v = ptn F w u v) ∧ ∀ q : Nat, 4344 ≤ q → G q = F q
theorem rdQ.rf {F : Nat → Int} (h : WF F) : rdQ F F := ⟨h, fun _ _ => rfl, fun _ _ _ _ _ _ _ _ _ => rfl, fun _ _ => rfl⟩
theorem rdQ.tr {F G H : Nat → Int} (h : rdQ F G) (h2 : rdQ G H) : rdQ F H := ⟨h2.1, h.2.1.tr h2.2.1, fun w u v a b c e f g => (h2.2.2.1 w u v a b c e f g).trans (h.2.2.1 w u v a b c e f g), fun q hq => (h2.2.2.2 q hq).trans (h.2.2.2 q hq)⟩
theorem rdQ.go {F : Nat → Int} (h : WF F) {w : Int} (w0 : 0 ≤ w) (w1 : w < 2) : rdQ F (goF F w) := ⟨goF_wf h w0 w1, goF_same w0 w1, fun w' u v a b c e f g => goF_ptn h w0 w1 a b c e f g, fun q hq => goF_hi h w0 w1 hq⟩
theorem rdQ.neg {F G : Nat → Int} (h : rdQ F G) {w k : Int} (w0 : 0 ≤ w) (w1 : w < 2) (k0 : 0 ≤ k) (k1 : k < 1600) : shf G w k = -1 ↔ shf F w k = -1 := by
  have e : k = (k / 40) * 40 + k % 40 := by omega
  have p := h.2.2.1 w (k / 40) (k % 40) w0 w1 (by omega) (by omega) (by omega) (by omega)
  rw [e, shf_shr, shf_shr]
  unfold ptn at p
  by_cases a : shr G w (k / 40) (k % 40) = -1 <;> by_cases b : shr F w (k / 40) (k % 40) = -1
  · exact ⟨fun _ => b, fun _ => a⟩
  · rw [decide_eq_true a, decide_eq_false b] at p
    exact absurd p (by decide)
  · rw [decide_eq_false a, decide_eq_true b] at p
    exact absurd p (by decide)
  · exact ⟨fun x => absurd x a, fun x => absurd x b⟩
theorem rdQ.orx {F G : Nat → Int} (h : rdQ F G) (hw : WF F) (ho : ORX F) : ORX G := ⟨ho.1.same hw.c h.2.1, fun w u v a b c e f g hne => by
  refine mt_same hw.c h.2.1 (ho.2 w u v a b c e f g (fun x => hne ?_))
  have := h.neg (w := w) (k := u * 40 + v) a b (by omega) (by omega)
  rw [shf_shr, shf_shr] at this
  exact this.mpr x⟩
noncomputable def gI (F : Nat → Int) (w n : Int) : Nat → Int := fo n F (fun _ G => goF G w)
theorem gI_s {F : Nat → Int} {w n : Int} (h : 0 ≤ n) : gI F w (n + 1) = goF (gI F w n) w := fo_s _ _ h
section
variable {P : zP} {d t : zD P} {F G : Nat → Int} {B : Int → Int} {T : Int}
def shS (a : Nat) : Nat → Prop := fun r => a + 22 ≤ r ∧ r < a + 28
/-- shares copied from one state to another -/
def shQ (a b : Nat) (d s : zD P) : Prop := Fx (shS a) d s ∧ ∀ w, 0 ≤ w → w < 2 → (∀ k : Nat, k < 1600 → s.m (a + 22 + (1 + zix w)) k = d.m (b + 22 + (1 + zix w)) k) ∧ ∀ k : Nat, k < 8 → s.m (a + 25 + (1 + zix w)) k = d.m (b + 25 + (1 + zix w)) k
theorem k_takeShares {a b : Nat} (ha : zkd a = 9) (hb : zkd b = 9) (h1 : ∀ w : Nat, w < 2 → (zkd (a + 22 + (1 + w)) = 20 ∨ zkd (a + 22 + (1 + w)) = 21 ∨ zkd (a + 22 + (1 + w)) = 22) ∧ (zkd (a + 25 + (1 + w)) = 20 ∨ zkd (a + 25 + (1 + w)) = 21 ∨ zkd (a + 25 + (1 + w)) = 22)) (hab : b + 28 ≤ a + 22 ∨ a + 28 ≤ b + 22) : Ok (st_takeShares d a b) (fun _ s => shQ a b d s) := by
  have z0 : zix 0 = 0 := by rw [zix_id (by omega)]; rfl
  have z8 : zix 8 = 8 := by rw [zix_id (by omega)]; rfl
  have z16 : zix 1600 = 1600 := by rw [zix_id (by omega)]; rfl
  rw [st_takeShares_e ha hb]
  refine lpD (fun w s => st_takeShares_2 s a b w) (fun w s => Fx (shS a) d s ∧ ∀ w', 0 ≤ w' → w' < w → (∀ k : Nat, k < 1600 → s.m (a + 22 + (1 + zix w')) k = d.m (b + 22 + (1 + zix w')) k) ∧ ∀ k : Nat, k < 8 → s.m (a + 25 + (1 + zix w')) k = d.m (b + 25 + (1 + zix w')) k) 0 2 (by omega) d ⟨Fx.rf, fun w' a0 a1 => by omega⟩ (fun s hi => ?_) (fun w s w0 w1 hi hnext => ?_)
  · (try dsimp only)
    rw [st_takeShares_2_e ha hb, if_pos (by omega)]
    exact Ok_ret hi
  · have y2 : zin w 2 := of_eq_true (zinT (by omega))
    have zw := zix2 w0 w1
    have kd := h1 (zix w) zw
    (try dsimp only)
    rw [st_takeShares_2_e ha hb, if_neg (by rw [wr_id (by omega), wr_id (by omega)]; omega), if_pos y2, if_pos y2, if_pos (by rw [z0, z16, wr_id (by omega), wr_id (by omega)]; omega), if_pos y2, if_pos y2, if_pos (by rw [z0, z8, wr_id (by omega), wr_id (by omega)]; omega), z0, z8, z16]
    refine hnext _ ?_
    refine ⟨(hi.1.cp ⟨by omega, by omega⟩).cp ⟨by omega, by omega⟩, fun w' a0 a1 => ?_⟩
    have zw' := zix2 (s := w') a0 (by omega)
    by_cases e : w' = w
    · rw [e]
      refine ⟨fun k hk => ?_, fun k hk => ?_⟩
      · rw [cp_ne (by omega), cp_ar kd.1]
        unfold zcp
        rw [if_pos (by omega), hi.1 _ (by unfold shS; omega)]
        exact congrArg _ (by omega)
      · rw [cp_ar kd.2, cp_ne (by omega)]
        unfold zcp
        rw [if_pos (by omega), hi.1 _ (by unfold shS; omega)]
        exact congrArg _ (by omega)
    · have ez : zix w' ≠ zix w := by rw [zix_id (by omega), zix_id (by omega)]; omega
      have o := hi.2 w' a0 (by omega)
      refine ⟨fun k hk => ?_, fun k hk => ?_⟩
      · rw [cp_ne (by omega), cp_ne (by omega)]
        exact o.1 k hk
      · rw [cp_ne (by omega), cp_ne (by omega)]
        exact o.2 k hk
theorem k_aside : Ok (st_takeShares d 69 13) (fun _ s => shQ 69 13 d s) := k_takeShares rfl rfl (fun w hw => by
  rcases (by omega : w = 0 ∨ w = 1) with rfl | rfl <;> decide) (by omega)
theorem k_back : Ok (st_takeShares d 13 69) (fun _ s => shQ 13 69 d s) := k_takeShares rfl rfl (fun w hw => by
  rcases (by omega : w = 0 ∨ w = 1) with rfl | rfl <;> decide) (by omega)
/-- what lies aside -/
def asQ (s : zD P) (F : Nat → Int) : Prop := RepC s.m 69 F
theorem shQ.as {s : zD P} (h : shQ 69 13 d s) (hc : CI d F) : asQ s F := ⟨fun w k w0 w1 k0 k1 => by
  rw [(h.2 w w0 w1).1 _ (by rw [zix_id (by omega)]; omega)]
  exact hc.2.1 w k w0 w1 k0 k1, fun w k w0 w1 k0 k1 => by
  rw [(h.2 w w0 w1).2 _ (by rw [zix_id (by omega)]; omega)]
  exact hc.2.2 w k w0 w1 k0 k1⟩
theorem k_othersThan (hF : WF F) (hc : CI d G) (ha : asQ d F) (hr : rdQ F G) {w : Int} (w0 : 0 ≤ w) (w1 : w < 2) : st_othersThan d w = some (oth F G w, d) := by
  have y2 : zin w 2 := of_eq_true (zinT (by omega))
  have e : st_othersThan_4 d w 0 0 = st_othersThan_4 d w (oth F G w) 1600 := lpS (fun k a => st_othersThan_4 d w a k) (fun k => if shf G w k = shf F w k then 0 else 1) 1600 (by omega) (fun k a k0 k1 _ => by
    have y16 : zin k 1600 := of_eq_true (zinT (by omega))
    have c1 := hc.shf_ w0 w1 k0 k1
    have c2 := ha.1 w k w0 w1 k0 k1
    have c2' : d.m (91 + (1 + zix w)) (zix k) = if shf F w k = -1 then 0 else shf F w k := c2
    have n := hr.neg w0 w1 k0 k1
    have bG := hr.1.shf_ w0 w1 k0 k1
    (try dsimp only)
    rw [st_othersThan_4_e, if_neg (by rw [wr_id (by omega), wr_id (by omega)]; omega), if_pos y2, if_pos y16, if_pos y2, if_pos y16, c1, c2']
    by_cases e1 : shf G w k = -1
    · have e2 := n.mp e1
      rw [if_pos e1, if_pos e2, if_pos rfl, if_pos (by rw [e1, e2]), Int.add_zero]
    · have e2 : ¬ shf F w k = -1 := fun x => e1 (n.mpr x)
      rw [if_neg e1, if_neg e2]
      by_cases e3 : shf G w k = shf F w k
      · rw [if_pos (by rw [e3]), if_pos e3, Int.add_zero]
      · have bF := hF.shf_ w0 w1 k0 k1
        rw [if_neg (by rw [wr_id (by omega), wr_id (by omega)]; exact e3), if_neg e3])
  rw [st_othersThan_e, e, st_othersThan_4_e, if_pos (by omega)]
theorem n_others (hF : d.m 133 = G) (hwG : WF G) (hwF : WF F) {b : Int} (b0 : 0 ≤ b ∧ b < 4) (hb : ∀ q : Nat, q < 4345 → G (4545 * b.toNat + q) = F q) {w : Int} (w0 : 0 ≤ w) (w1 : w < 2) : m_others d w b = some (oth F G w, d) := by
  have e : m_others_4 d w b 0 0 = m_others_4 d w b (oth F G w) 1600 := lpS (fun k a => m_others_4 d w b a k) (fun k => if shf G w k = shf F w k then 0 else 1) 1600 (by omega) (fun k a k0 k1 _ => by
    have y1 : zin ((1144 + (1600 * w)) + k) 18180 := of_eq_true (zinT (by omega))
    have y2 : zin ((((4545 * b) + 1144) + (1600 * w)) + k) 18180 := of_eq_true (zinT (by omega))
    have e1 : G (zix ((1144 + (1600 * w)) + k)) = shf G w k := rfl
    have e2 : G (zix ((((4545 * b) + 1144) + (1600 * w)) + k)) = shf F w k := by
      have := hb (zix ((1144 + (1600 * w)) + k)) (by rw [zix_id (by omega)]; omega)
      unfold shf
      rw [← this]
      exact congrArg G (by rw [zix_id (by omega), zix_id (by omega)]; omega)
    have bG := hwG.shf_ w0 w1 k0 k1
    have bF := hwF.shf_ w0 w1 k0 k1
    (try dsimp only)
    rw [m_others_4_e, if_neg (by rw [wr_id (by omega), wr_id (by omega)]; omega), if_pos y1, if_pos y2, hF, e1, e2]
    by_cases e3 : shf G w k = shf F w k
    · rw [if_pos (by rw [e3]), if_pos e3, Int.add_zero]
    · rw [if_neg (by rw [wr_id (by omega), wr_id (by omega)]; exact e3), if_neg e3])
  rw [m_others_e, e, m_others_4_e, if_pos (by omega)]
/-- a call that goes rounds on: from what the files say to what holds -/
theorem INV.rd {s' : zD P} {K : Nat → Int} (h : INV d F B T) (hc : CI s' K) (hK : s'.m 133 = K) (hq : rdQ (cpF F 0 2) K ∨ lowE F K) (he : hiE F K) (ho : ORX K) (hr : ∀ r, (r < 13 ∨ (29 ≤ r ∧ r < 35) ∨ (41 ≤ r ∧ r < 69) ∨ r = 134) → s'.m r = d.m r) (h1 : s'.m 132 1 = d.m 132 1) (h3 : s'.m 132 3 = d.m 132 3) (h8 : s'.m 132 8 = d.m 132 8) : INV s' K B T := INV.mk2 h hc hK (h.tq.fr (by rw [hr 11 (by omega)]) (hr 12 (by omega)) h3 (hr 134 (by omega))) he ho h8 (fun r hr' => hr r (by omega)) h1
theorem b_rounds (h : INV d F B T) {a n : Int} (ha : I32 a) (hn : I32 n) : BO d (fun d => wl_rounds d a n) (fun d => m_rounds d a n) := by
  have hn' := hn
  unfold I32 at hn'
  by_cases c1 : 0 ≤ a ∧ a ≤ 1
  · by_cases c2 : 1 ≤ n ∧ n ≤ 30
    · have lo : lowE F (cpF F 0 2) := cpF_low (by omega)
      have cF : CI d (cpF F 0 2) := h.ci.same (fun q hq => lo q (by omega))
      have wF1 := cF.wf
      have oF1 : ORX (cpF F 0 2) := (show sx F (cpF F 0 2) from fun q q0 _ _ _ _ => lo q (by omega)).ORX h.wf h.2.2.2.2.2.1
      have w1 : a < 2 := by omega
      have kx : Ok (wl_rounds d a n) (fun v s => v = oth (cpF F 0 2) (gI (cpF F 0 2) a n) a ∧ CI s (gI (cpF F 0 2) a n) ∧ rdQ (cpF F 0 2) (gI (cpF F 0 2) a n) ∧ Fx (fun r => (36 ≤ r ∧ r < 41) ∨ (91 ≤ r ∧ r < 97) ∨ (109 ≤ r ∧ r < 115)) d s) := by
        rw [wl_rounds_e, kw_isSide ha, bi_t c1, Option.bind_some]
        (try dsimp only)
        rw [if_neg oz1, if_neg (by rw [wr_id (by omega), wr_id (by omega)]; omega), if_pos (by rw [wr_id (by omega), wr_id (by omega)]; omega)]
        refine Ok_bind k_aside (fun v s f => ?_)
        have fx : Fx (fun r => (36 ≤ r ∧ r < 41) ∨ (91 ≤ r ∧ r < 97) ∨ (109 ≤ r ∧ r < 115)) d s := f.1.mo (fun r hr => by unfold shS at hr; omega)
        have ci0 : CI s (cpF F 0 2) := cF.fr (fun r r0 r1 => f.1 r (by unfold shS; omega))
        have as0 : asQ s (cpF F 0 2) := f.as cF
        (try dsimp only)
        refine lpD (fun k s => wl_rounds_18 s a n k) (fun k s => Fx (fun r => (36 ≤ r ∧ r < 41) ∨ (91 ≤ r ∧ r < 97) ∨ (109 ≤ r ∧ r < 115)) d s ∧ CI s (gI (cpF F 0 2) a k) ∧ rdQ (cpF F 0 2) (gI (cpF F 0 2) a k) ∧ asQ s (cpF F 0 2)) 0 n (by omega) s ⟨fx, ci0, rdQ.rf wF1, as0⟩ (fun s hi => ?_) (fun k s k0 k1 hi hnext => ?_)
        · obtain ⟨i1, i2, i3, i4⟩ := hi
          (try dsimp only)
          rw [wl_rounds_18_e, if_pos (by omega), k_othersThan wF1 i2 i4 i3 c1.1 w1, Option.bind_some]
          exact Ok_ret ⟨rfl, i2, i3, i1⟩
        · obtain ⟨i1, i2, i3, i4⟩ := hi
          (try dsimp only)
          rw [wl_rounds_18_e, if_neg (by rw [wr_id (by omega), wr_id (by omega)]; omega)]
          refine Ok_bind (k_go i2 c1.1 w1) (fun v s2 f2 => ?_)
          refine hnext _ ?_
          rw [gI_s k0]
          exact ⟨i1.tr (fun r hr => f2.2 r (by omega) (by omega)), f2.1, i3.tr (rdQ.go i2.wf c1.1 w1), i4.fr (fun r r0 r1 => f2.2 r (by omega) (by omega))⟩
      obtain ⟨v, s, e, hv, hci, hrd, fx⟩ := kx
      have sF : s.m 133 = F := (fx 133 (by omega)).trans h.f
      have nx : Ok (m_rounds s a n) (fun v' s' => v' = oth (cpF F 0 2) (gI (cpF F 0 2) a n) a ∧ s'.m 133 = gI (cpF F 0 2) a n ∧ Fx (fun r => r = 133 ∨ (143 ≤ r ∧ r < 149)) s s') := by
        rw [m_rounds_e, n_isSide ha, bi_t c1, Option.bind_some]
        (try dsimp only)
        rw [if_neg oz1, n_in (by unfold I32; omega), bi_t c2, Option.bind_some]
        (try dsimp only)
        rw [if_pos oz1]
        refine Ok_bind (n_copies sF (a := 0) (b := 2) (by omega) (by omega) (by decide)) (fun v1 s1 f1 => ?_)
        have f1b : s1.m 133 = cpF F 0 2 := f1.2
        (try dsimp only)
        refine lpD (fun k t => m_rounds_16 t a n k) (fun k t => Fx (fun r => r = 133 ∨ (143 ≤ r ∧ r < 149)) s t ∧ t.m 133 = gI (cpF F 0 2) a k ∧ rdQ (cpF F 0 2) (gI (cpF F 0 2) a k)) 0 n (by omega) s1 ⟨f1.1.mo (fun r hr => Or.inl hr), f1b, rdQ.rf wF1⟩ (fun t hi => ?_) (fun k t k0 k1 hi hnext => ?_)
        · obtain ⟨i1, i2, i3⟩ := hi
          (try dsimp only)
          rw [m_rounds_16_e, if_pos (by omega), n_others (F := cpF F 0 2) i2 i3.1 wF1 (b := 2) (by omega) (fun q hq => ?_) c1.1 w1, Option.bind_some]
          · exact Ok_ret ⟨rfl, i2, i1⟩
          · rw [i3.2.2.2 _ (by show 4344 ≤ 4545 * 2 + q; omega)]
            unfold cpF
            rw [if_pos (by show 4545 * 2 ≤ 4545 * 2 + q ∧ 4545 * 2 + q < 4545 * 2 + 4545; omega), if_neg (by omega)]
            exact congrArg F (by show 4545 * 2 + q - 4545 * 2 + 4545 * 0 = q; omega)
        · obtain ⟨i1, i2, i3⟩ := hi
          (try dsimp only)
          rw [m_rounds_16_e, if_neg (by rw [wr_id (by omega), wr_id (by omega)]; omega)]
          refine Ok_bind (n_goesRound i2 i3.1 c1.1 w1) (fun v2 t2 f2 => ?_)
          refine hnext _ ?_
          rw [gI_s k0]
          exact ⟨i1.tr (fun r hr => f2.2 r (by omega) (by omega)), f2.1, i3.tr (rdQ.go i3.1 c1.1 w1)⟩
      obtain ⟨v', s', e', hv', hF', fx'⟩ := nx
      have er : ∀ r, (r < 36 ∨ (41 ≤ r ∧ r < 91) ∨ (97 ≤ r ∧ r < 109) ∨ (115 ≤ r ∧ r < 133) ∨ r = 134) → s'.m r = d.m r := fun r hr => (fx' r (by omega)).trans (fx r (by omega))
      refine ⟨v, s, s', gI (cpF F 0 2) a n, B, T, e, by rw [hv, ← hv']; exact e', ?_⟩
      exact INV.rd h (hci.fr (fun r r0 r1 => fx' r (by omega))) hF' (Or.inl hrd) (fun q q0 q1 => (hrd.2.2.2 q q0).trans (lo q q1)) (hrd.orx wF1 oF1) (fun r hr => er r (by omega)) (by rw [er 132 (by omega)]) (by rw [er 132 (by omega)]) (by rw [er 132 (by omega)])
    · refine BO_a (-1) h ?_ (fun s hs => ?_)
      · (try dsimp only)
        rw [wl_rounds_e, kw_isSide ha, bi_t c1, Option.bind_some]
        (try dsimp only)
        rw [if_neg oz1]
        by_cases e : n < 1
        · rw [if_pos (by rw [wr_id (by omega), wr_id (by omega)]; exact e)]
          exact Ok_ret ⟨rfl, qF.rf⟩
        · rw [if_neg (by rw [wr_id (by omega), wr_id (by omega)]; exact e), if_neg (by rw [wr_id (by omega), wr_id (by omega)]; omega)]
          exact Ok_ret ⟨rfl, qF.rf⟩
      · (try dsimp only)
        rw [m_rounds_e, n_isSide ha, bi_t c1, Option.bind_some]
        (try dsimp only)
        rw [if_neg oz1, n_in (by unfold I32; omega), bi_f c2, Option.bind_some]
        (try dsimp only)
        rw [if_neg (fun x => x zz0)]
        exact Ok_ret ⟨rfl, rF.rf⟩
  · refine BO_a (-1) h ?_ (fun s hs => ?_)
    · (try dsimp only)
      rw [wl_rounds_e, kw_isSide ha, bi_f c1, Option.bind_some]
      (try dsimp only)
      rw [if_pos zz0]
      exact Ok_ret ⟨rfl, qF.rf⟩
    · (try dsimp only)
      rw [m_rounds_e, n_isSide ha, bi_f c1, Option.bind_some]
      (try dsimp only)
      rw [if_pos zz0]
      exact Ok_ret ⟨rfl, rF.rf⟩
end
