/-! CALLS ON THE TAPE, both sides: feed, find, over, sheets. -/
section
variable {P : zP} {d t : zD P} {F G : Nat → Int} {B : Int → Int} {T : Int}
theorem TN.fr {e : zD P} (h : TN d B T) (h3 : e.m 132 3 = d.m 132 3) (h4 : e.m 134 = d.m 134) : TN e B T := by
  unfold TN at h ⊢
  rw [h3, h4]
  exact h
def kT : Nat → Prop := fun r => r = 11 ∨ (69 ≤ r ∧ r < 132)
theorem BO_tape {X M : zD P → Option (Int × zD P)} {R : Int → Prop} (C : Prop) (h : INV d F B T) (hX : Ok (X d) (fun v s => (C → R v ∧ Fx kT d s ∧ s.m 11 1 = 0) ∧ (¬ C → v = -1 ∧ s = d))) (hM : ∀ s : zD P, TN s B T → s.m 133 = F → s.m 132 8 = 0 → Ok (M s) (fun v s' => (C → R v ∧ nF s s' ∧ s'.m 133 = s.m 133 ∧ s'.m 132 3 = 0) ∧ (¬ C → v = -1 ∧ s' = s))) (uni : C → ∀ v v', R v → R v' → v = v') : BO d X M := by
  obtain ⟨v, s, e, f1, f2⟩ := hX
  by_cases c : C
  · obtain ⟨r, fx, t0⟩ := f1 c
    obtain ⟨v', s', e', g1, g2⟩ := hM s (h.tq.n.fr (by rw [fx 132 (by unfold kT; omega)]) (fx 134 (by unfold kT; omega))) ((fx 133 (by unfold kT; omega)).trans h.f) (by rw [fx 132 (by unfold kT; omega)]; exact h.o)
    obtain ⟨r', nf, eF, t3⟩ := g1 c
    have ev := uni c v v' r r'
    refine ⟨v, s, s', F, B, 0, e, by rw [ev]; exact e', ?_⟩
    have er : ∀ r, r < 132 → ¬ kT r → s'.m r = d.m r := fun r hr hk => (nf.1 r hr).trans (fx r hk)
    refine INV.mk2 h (h.ci.fr (fun r r0 r1 => er r (by omega) (by unfold kT; omega))) (by rw [eF, fx 133 (by unfold kT; omega)]; exact h.f) (TQ_0 (by rw [nf.1 11 (by omega)]; exact t0) t3) (fun _ _ _ => rfl) h.2.2.2.2.2.1 (by rw [nf.2.2, fx 132 (by unfold kT; omega)]) (fun r hr => er r (by omega) (by unfold kT; omega)) (by rw [nf.2.1, fx 132 (by unfold kT; omega)])
  · obtain ⟨rfl, rfl⟩ := f2 c
    obtain ⟨v', s', e', g1, g2⟩ := hM s h.tq.n h.f h.o
    obtain ⟨rfl, rfl⟩ := g2 c
    exact ⟨-1, s', s', F, B, T, e, e', h⟩
theorem b_find (h : INV d F B T) {a b : Int} (ha : I32 a) (hb : I32 b) : BO d (fun d => wl_find d a b) (fun d => m_find d a b) := BO_tape (R := fun v => v = fnA F (cutB B b) a b) (fnC T a b) h (Ok_mono (k_find h.ci.ca h.tq ha hb) (fun v s f => ⟨fun c => ⟨(f.1 c).1, (f.1 c).2.1.mo (fun r hr => Or.inl hr), (f.1 c).2.2⟩, f.2⟩)) (fun s h1 h2 h3 => Ok_mono (n_find h2 h.wf h1 h3 ha hb) (fun v s' f => ⟨fun c => ⟨(f.1 c).1, (f.1 c).2.1, (f.1 c).2.2.1, (f.1 c).2.2.2⟩, f.2⟩)) (fun _ _ _ e e' => e.trans e'.symm)
theorem sdN_le {B : Int → Int} {n T : Int} (h : TN d B T) (n0 : 0 ≤ n) (nT : n ≤ T) (hg : svd (cutB B n) F n 8 0 = true) : 0 ≤ sdN (cutB B n) := by
  have sg := cutB_s h n0 nT
  have sv := svd_ok (F := F) (q := 0) sg 8 0 (by omega) (by rw [wst_0]; omega) (by rw [wst_0]; exact n0)
  rw [wst_0] at sv
  have g := sv.mp hg
  have s0 := (sen_0 (q := 0) sg 8 (by omega) n0).2 g.1
  unfold sdN
  omega
theorem b_over (h : INV d F B T) {a b c : Int} (ha : I32 a) (hb : I32 b) (hc : I32 c) : BO d (fun d => wl_over d a b c) (fun d => m_over d a b c) := BO_tape (R := fun v => ovR F B a b c v) (ovC T a b c) h (Ok_mono (k_over h.ci h.tq ha hb hc) (fun v s f => ⟨fun q => ⟨(f.1 q).1, (f.1 q).2.1.mo (fun r hr => by unfold kOv at hr; unfold kT; omega), (f.1 q).2.2⟩, f.2⟩)) (fun s h1 h2 h3 => Ok_mono (n_over h2 h.wf h1 h3 ha hb hc) (fun v s' f => ⟨fun q => ⟨(f.1 q).1, ⟨(f.1 q).2.1, (f.1 q).2.2.2.1, (f.1 q).2.2.2.2.1⟩, (f.1 q).2.2.1, (f.1 q).2.2.2.2.2⟩, f.2⟩)) (fun q v v' e e' => by
  by_cases g : svd (cutB B b) F b 8 0 = true
  · have w := q.1
    exact ovW_uni (sdN_le h.tq.n (by have := q.2.2.1; omega) q.2.2.2 g) (by omega) (by omega) (e.1 g) (e'.1 g)
  · rw [e.2 g, e'.2 g])
theorem b_feed (h : INV d F B T) (a b c e f : Int) : BO d (fun d => wl_feed d a b c e f) (fun d => m_feed d a b c e f) := by
  obtain ⟨v, s, ev, f1, f2⟩ := k_feed h.tq a b c e f
  have tb := h.tq.2.2.1
  by_cases q : T ≤ 220
  · obtain ⟨rfl, fx, t1, t2⟩ := f1 q
    obtain ⟨v', s', ev', g1, g2⟩ := n_feed (d := s) (h.tq.n.fr (by rw [fx 132 (by omega)]) (fx 134 (by omega))) a b c e f
    obtain ⟨rfl, mt, t3, t4⟩ := g1 q
    have er : ∀ r, r ≠ 11 → r ≠ 12 → r ≠ 132 → r ≠ 134 → s'.m r = d.m r := fun r r1 r2 r3 r4 => (mt.1 r r3 r4).trans (fx r (by omega))
    have ek : ∀ k, k ≠ 3 → s'.m 132 k = d.m 132 k := fun k hk => (mt.2 k hk).trans (by rw [fx 132 (by omega)])
    refine ⟨T + 20, s, s', F, fdB B T a b c e f, T + 20, ev, ev', ?_⟩
    have le := fdB_le (B := B) (T := T) (fun k k0 k1 => (h.tq.2.2.2 k k0 k1).2.2) a b c e f
    exact INV.mk2 h (h.ci.fr (fun r r0 r1 => er r (by omega) (by omega) (by omega) (by omega))) ((er 133 (by decide) (by decide) (by decide) (by decide)).trans h.f) ⟨by rw [mt.1 11 (by decide) (by decide)]; exact t1, t3, by omega, fun k k0 k1 => ⟨by rw [mt.1 12 (by decide) (by decide)]; exact t2 k k0 k1, t4 k k0 k1, le k k0 k1⟩⟩ (fun _ _ _ => rfl) h.2.2.2.2.2.1 (ek 8 (by decide)) (fun r hr => er r (by omega) (by omega) (by omega) (by omega)) (ek 1 (by decide))
  · obtain ⟨rfl, rfl⟩ := f2 q
    obtain ⟨v', s', ev', g1, g2⟩ := n_feed (d := s) h.tq.n a b c e f
    obtain ⟨rfl, rfl⟩ := g2 q
    exact ⟨-1, s', s', F, B, T, ev, ev', h⟩
theorem sx_rf : sx F F := fun _ _ _ _ _ _ => rfl
theorem CI.same (h : CI d F) (e : ∀ q : Nat, q < 4344 → G q = F q) : CI d G := by
  have hw := h.wf
  have es : sx F G := fun q q0 _ _ _ _ => e q q0
  have p24 := hw.prs_
  have te : ∀ p i, 0 ≤ p → p < 24 → 0 ≤ i → i < 6 → tld G p i = tld F p i := fun p i p0 p1 i0 i1 => e _ (by rw [zix_id (by omega)]; omega)
  have l1 : lst G = lst F := e _ (by rw [zix_id (by omega)]; omega)
  have l2 : ltd G = ltd F := e _ (by rw [zix_id (by omega)]; omega)
  have l3 : plc G = plc F := e _ (by rw [zix_id (by omega)]; omega)
  refine ⟨⟨hw.sx es (fun p i p0 p1 i0 i1 => by rw [te p i p0 (by omega) i0 i1]; exact hw.tld_ p0 p1 i0 i1) (by rw [l1]; exact hw.lst_) (by rw [l2]; exact hw.ltd_) (by rw [l3]; exact hw.plc_), h.1.2.sx hw es (fun _ _ _ => rfl) (fun p i p0 p1 i0 i1 => ?_) (by rw [l2]; exact h.1.ltd_) (by rw [l3]; exact h.1.plc_) (by rw [l1]; exact h.1.lst_)⟩, h.2.sx es⟩
  have q := h.1.2.2.2.2.2.2.2.1 p i p0 p1 i0 i1
  rw [q]
  by_cases cp : p < prs F
  · rw [if_pos cp, if_pos cp, te p i p0 p1 i0 i1]
  · rw [if_neg cp, if_neg cp]
theorem b_sheets (h : INV d F B T) {n : Int} (hn : I32 n) : BO d (fun d => wl_sheets d n) (fun d => m_sheets d n) := by
  obtain ⟨v, s, ev, f⟩ := k_sheets h.tq hn
  by_cases q : 1 ≤ n ∧ n ≤ 200 ∧ n ≤ T
  · rw [if_pos q] at f
    obtain ⟨hv, fx, t0, g1, g2⟩ := f
    have ks : ∀ r, ¬ kSh r → s.m r = d.m r := fun r hr => fx r hr
    have sF : s.m 133 = F := (ks 133 (by unfold kSh; omega)).trans h.f
    obtain ⟨v', s', ev', g⟩ := n_sheets (t := s) sF (h.tq.n.fr (by rw [ks 132 (by unfold kSh; omega)]) (ks 134 (by unfold kSh; omega))) (by rw [ks 132 (by unfold kSh; omega)]; exact h.o) hn
    rw [if_pos q] at g
    obtain ⟨hv', nf, t3, hFs⟩ := g
    have sg := cutB_s h.tq.n (n := n) (by omega) q.2.2
    have er : ∀ r, r < 132 → ¬ kSh r → s'.m r = d.m r := fun r hr hk => (nf.1 r hr).trans (fx r hk)
    have ci0 : CI s' F := ⟨h.ci.1.fr (fun r r0 r1 => er r (by omega) (by unfold kSh; omega)), h.ci.2.fr (fun r r0 r1 => er r (by omega) (by unfold kSh; omega))⟩
    have tq0 : TQ s' B 0 := TQ_0 (by rw [nf.1 11 (by omega)]; exact t0) t3
    have h8 : s'.m 132 8 = 0 := by rw [nf.2.2, ks 132 (by unfold kSh; omega)]; exact h.o
    have kp : KPT s' F := h.2.2.2.2.2.2.2.1.fr (by rw [er 10 (by omega) (by unfold kSh; omega)]) (by rw [nf.2.1, ks 132 (by unfold kSh; omega)]) (fun r r0 r1 => er r (by omega) (by unfold kSh; omega))
    by_cases c : (shs (cutB B n) n).1 = 0
    · rw [if_pos c] at hFs
      have low : ∀ q : Nat, q < 4344 → shF F (cutB B n) n q = F q := fun q hq => by
        unfold shF
        rw [if_neg (by omega), if_neg (by omega)]
      have ek : kpF (shF F (cutB B n) n) = kpF F := by
        funext k
        unfold kpF shF
        by_cases ck : k < 4545
        · rw [if_pos ck, if_pos ck, if_neg (by omega), if_neg (by omega)]
        · rw [if_neg ck, if_neg ck]
      have el : shl (shF F (cutB B n) n) = n := shF_l
      have es : sgF (shF F (cutB B n) n) = cutB B n := shF_e sg (fun k hk => by unfold cutB; rw [if_neg (by omega)])
      have ro := g1 c
      refine ⟨v, s, s', shF F (cutB B n) n, B, 0, ev, by rw [hv, ← hv']; exact ev', ci0.same low, hFs, tq0, ⟨fun hh => by rw [el] at hh; omega, fun _ => ?_⟩, ⟨by rw [el]; omega, fun _ => by rw [el, es]; exact ⟨sg, c⟩⟩, (show sx F (shF F (cutB B n) n) from fun q q0 _ _ _ _ => low q q0).ORX h.wf h.2.2.2.2.2.1, h8, ?_, h.sta.fr (fun r hr => er r (by omega) (by unfold kSh; omega))⟩
      · rw [es]
        unfold rO at ro ⊢
        rw [nf.1 (13 + 16) (by omega), nf.1 (13 + 16 + 1) (by omega), nf.1 (13 + 16 + 2) (by omega), nf.1 (13 + 19) (by omega), nf.1 (13 + 19 + 1) (by omega), nf.1 (13 + 19 + 2) (by omega)]
        exact ro
      · unfold KPT at kp ⊢
        rw [ek]
        exact kp
    · rw [if_neg c] at hFs
      have g3 := g2 c
      exact ⟨v, s, s', F, B, 0, ev, by rw [hv, ← hv']; exact ev', ci0, hFs, tq0, h.2.2.2.1.fr (fun r r0 r1 => (nf.1 r (by omega)).trans (g3 r (by omega) (by omega))), h.2.2.2.2.1, h.2.2.2.2.2.1, h8, kp, h.sta.fr (fun r hr => er r (by omega) (by unfold kSh; omega))⟩
  · rw [if_neg q] at f
    obtain ⟨rfl, rfl⟩ := f
    obtain ⟨v', s', ev', g⟩ := n_sheets (t := s) h.f h.tq.n h.o hn
    rw [if_neg q] at g
    obtain ⟨rfl, rfl⟩ := g
    exact ⟨-1, s', s', F, B, T, ev, ev', h⟩
end
