/-! SINGLE CELLS CHANGED: what stays. -/
def tdC (q : Nat) : Prop := 24 ≤ q ∧ q < 504 ∧ 14 ≤ (q - 24) % 20
/-- alike in all but told links and what is set -/
def sx (F G : Nat → Int) : Prop := ∀ q : Nat, q < 4344 → q ≠ 1 → q ≠ 2 → q ≠ 3 → ¬ tdC q → G q = F q
/-- alike in sheets and in what is kept -/
def hiE (F G : Nat → Int) : Prop := ∀ q : Nat, 4344 ≤ q → q < 9090 → G q = F q
section
variable {F G : Nat → Int}
theorem sx.prs_ (e : sx F G) : prs G = prs F := e _ (by rw [zix_id (by omega)]; omega) (by rw [zix_id (by omega)]; omega) (by rw [zix_id (by omega)]; omega) (by rw [zix_id (by omega)]; omega) (by unfold tdC; rw [zix_id (by omega)]; omega)
theorem sx.wds_ (e : sx F G) {s : Int} (s0 : 0 ≤ s) (s1 : s < 2) : wds G s = wds F s := e _ (by rw [zix_id (by omega)]; omega) (by rw [zix_id (by omega)]; omega) (by rw [zix_id (by omega)]; omega) (by rw [zix_id (by omega)]; omega) (by unfold tdC; rw [zix_id (by omega)]; omega)
theorem sx.lng_ (e : sx F G) {p s : Int} (p0 : 0 ≤ p) (p1 : p < 24) (s0 : 0 ≤ s) (s1 : s < 2) : lng G p s = lng F p s := e _ (by rw [zix_id (by omega)]; omega) (by rw [zix_id (by omega)]; omega) (by rw [zix_id (by omega)]; omega) (by rw [zix_id (by omega)]; omega) (by unfold tdC; rw [zix_id (by omega)]; omega)
theorem sx.wrd_ (e : sx F G) {p s i : Int} (p0 : 0 ≤ p) (p1 : p < 24) (s0 : 0 ≤ s) (s1 : s < 2) (i0 : 0 ≤ i) (i1 : i < 6) : wrd G p s i = wrd F p s i := e _ (by rw [zix_id (by omega)]; omega) (by rw [zix_id (by omega)]; omega) (by rw [zix_id (by omega)]; omega) (by rw [zix_id (by omega)]; omega) (by
  unfold tdC
  rw [zix_id (by omega)]
  rcases (by omega : s = 0 ∨ s = 1) with rfl | rfl <;> omega)
theorem sx.ltn_ (e : sx F G) {s w : Int} (s0 : 0 ≤ s) (s1 : s < 2) (w0 : 0 ≤ w) (w1 : w < 40) : ltn G s w = ltn F s w := e _ (by rw [zix_id (by omega)]; omega) (by rw [zix_id (by omega)]; omega) (by rw [zix_id (by omega)]; omega) (by rw [zix_id (by omega)]; omega) (by unfold tdC; rw [zix_id (by omega)]; omega)
theorem sx.ltr_ (e : sx F G) {s w k : Int} (s0 : 0 ≤ s) (s1 : s < 2) (w0 : 0 ≤ w) (w1 : w < 40) (k0 : 0 ≤ k) (k1 : k < 7) : ltr G s w k = ltr F s w k := e _ (by rw [zix_id (by omega)]; omega) (by rw [zix_id (by omega)]; omega) (by rw [zix_id (by omega)]; omega) (by rw [zix_id (by omega)]; omega) (by unfold tdC; rw [zix_id (by omega)]; omega)
theorem sx.shf_ (e : sx F G) {w k : Int} (w0 : 0 ≤ w) (w1 : w < 2) (k0 : 0 ≤ k) (k1 : k < 1600) : shf G w k = shf F w k := e _ (by rw [zix_id (by omega)]; omega) (by rw [zix_id (by omega)]; omega) (by rw [zix_id (by omega)]; omega) (by rw [zix_id (by omega)]; omega) (by unfold tdC; rw [zix_id (by omega)]; omega)
theorem sx.shr_ (e : sx F G) {w u v : Int} (w0 : 0 ≤ w) (w1 : w < 2) (u0 : 0 ≤ u) (u1 : u < 40) (v0 : 0 ≤ v) (v1 : v < 40) : shr G w u v = shr F w u v := by
  rw [← shf_shr, ← shf_shr]
  exact e.shf_ w0 w1 (by omega) (by omega)
theorem sx.ner_ (e : sx F G) {w k : Int} (w0 : 0 ≤ w) (w1 : w < 2) (k0 : 0 ≤ k) (k1 : k < 8) : ner G w k = ner F w k := e _ (by rw [zix_id (by omega)]; omega) (by rw [zix_id (by omega)]; omega) (by rw [zix_id (by omega)]; omega) (by rw [zix_id (by omega)]; omega) (by unfold tdC; rw [zix_id (by omega)]; omega)
theorem WF.sx (h : WF F) (e : sx F G) (ht : ∀ p i, 0 ≤ p → p < prs F → 0 ≤ i → i < 6 → 0 ≤ tld G p i ∧ tld G p i < 64) (hl : 0 ≤ lst G ∧ lst G ≤ 100000) (hd : ltd G = 0 ∨ ltd G = 1) (hp : plc G = 0 ∨ plc G = 1) : WF G := by
  have p24 := h.prs_
  refine ⟨by rw [e.prs_]; exact h.prs_, fun p s a b c f => ?_, fun p s i a b c f i0 i1 => ?_, fun s a b => by rw [e.wds_ a b]; exact h.wds_ a b, fun s w a b c f => ?_, fun s w k a b c f k0 k1 => ?_, fun p i a b i0 i1 => ht p i a (by rw [← e.prs_]; exact b) i0 i1, fun w k a b k0 k1 => by rw [e.shf_ a b k0 k1]; exact h.shf_ a b k0 k1, fun w p i j a b c f i0 i1 j0 j1 => ?_, fun w u v a b u0 u1 v0 v1 hne => ?_, fun w k a b k0 k1 => by rw [e.ner_ a b k0 k1]; exact h.ner_ a b k0 k1, hl, hd, hp⟩
  · rw [e.prs_] at b
    rw [e.lng_ a (by omega) c f]; exact h.lng_ a b c f
  · rw [e.prs_] at b
    rw [e.lng_ a (by omega) c f] at i1
    have l := h.lng_ a b c f
    rw [e.wrd_ a (by omega) c f i0 (by omega), e.wds_ c f]; exact h.wrd_ a b c f i0 i1
  · rw [e.wds_ a b] at f
    have w40 := h.wds_ a b
    rw [e.ltn_ a b c (by omega)]; exact h.ltn_ a b c f
  · rw [e.wds_ a b] at f
    have w40 := h.wds_ a b
    have l := h.ltn_ a b c f
    rw [e.ltn_ a b c (by omega)] at k1
    rw [e.ltr_ a b c (by omega) k0 (by omega)]; exact h.ltr_ a b c f k0 k1
  · rw [e.prs_] at f
    have l := h.lng_ c f a b
    have l' := h.lng_ (s := 1 - w) c f (by omega) (by omega)
    rw [e.lng_ c (by omega) a b] at i1
    rw [e.lng_ c (by omega) (by omega) (by omega)] at j1
    have x := h.wrd_ c f a b i0 i1
    have y := h.wrd_ (s := 1 - w) c f (by omega) (by omega) j0 j1
    have w1 := h.wds_ a b
    have w2 := h.wds_ (s := 1 - w) (by omega) (by omega)
    rw [e.wrd_ c (by omega) a b i0 (by omega), e.wrd_ c (by omega) (by omega) (by omega) j0 (by omega), e.shr_ a b (by omega) (by omega) (by omega) (by omega)]
    exact h.ptn_ a b c f i0 i1 j0 j1
  · rw [e.shr_ a b u0 u1 v0 v1] at hne
    rw [e.wds_ a b, e.wds_ (by omega) (by omega)]
    exact h.out a b u0 u1 v0 v1 hne
theorem sx.ORD (e : sx F G) (h : WF F) (ho : ORD F) : ORD G := fun s s0 s1 => by
  have p24 := h.prs_
  obtain ⟨o1, o2⟩ := ho s s0 s1
  refine ⟨fun w w0 w1 => ?_, fun p i w p0 p1 i0 i1 w0 w1 => ?_⟩
  · rw [e.wds_ s0 s1] at w1
    obtain ⟨p, i, hp, hi, hw⟩ := o1 w w0 w1
    have l := h.lng_ hp.1 hp.2 s0 s1
    exact ⟨p, i, by rw [e.prs_]; exact hp, by rw [e.lng_ hp.1 (by omega) s0 s1]; exact hi, by rw [e.wrd_ hp.1 (by omega) s0 s1 hi.1 (by omega)]; exact hw⟩
  · rw [e.prs_] at p1
    rw [e.lng_ p0 (by omega) s0 s1] at i1
    have l := h.lng_ p0 p1 s0 s1
    rw [e.wrd_ p0 (by omega) s0 s1 i0 (by omega)] at w1
    obtain ⟨p', i', hp, hi, hw⟩ := o2 p i w p0 p1 i0 i1 w0 w1
    have l' := h.lng_ hp.1 (Int.lt_of_le_of_lt hp.2 p1) s0 s1
    exact ⟨p', i', hp, by rw [e.lng_ hp.1 (by omega) s0 s1]; exact hi, by rw [e.wrd_ hp.1 (by omega) s0 s1 hi.1 (by omega)]; exact hw⟩
theorem sx.PTI (e : sx F G) (h : WF F) (hp : PTI F) : PTI G := fun w u v w0 w1 u0 u1 v0 v1 hne => by
  have p24 := h.prs_
  rw [e.shr_ w0 w1 u0 u1 v0 v1] at hne
  obtain ⟨p, i, j, a1, a2, a3, a4, a5⟩ := hp w u v w0 w1 u0 u1 v0 v1 hne
  have l0 := h.lng_ (p := p) (s := 0) a1.1 a1.2 (by omega) (by omega)
  have l1 := h.lng_ (p := p) (s := 1) a1.1 a1.2 (by omega) (by omega)
  refine ⟨p, i, j, by rw [e.prs_]; exact a1, by rw [e.lng_ a1.1 (by omega) (by omega) (by omega)]; exact a2, by rw [e.lng_ a1.1 (by omega) (by omega) (by omega)]; exact a3, trivial, ?_⟩
  rw [e.wrd_ a1.1 (by omega) (by omega) (by omega) a2.1 (by omega), e.wrd_ a1.1 (by omega) (by omega) (by omega) a3.1 (by omega)]
  exact a5
theorem sx.ORX (e : sx F G) (h : WF F) (ho : ORX F) : ORX G := ⟨e.ORD h ho.1, e.PTI h ho.2⟩
theorem key_sx (e : sx F G) (h : WF F) {s w : Int} (s0 : 0 ≤ s) (s1 : s < 2) (w0 : 0 ≤ w) (w1 : w < wds F s) : key G s w = key F s w := by
  have w40 := h.wds_ s0 s1
  exact (key_eq ((h.vw s0 s1).2 w w0 w1) (e.ltn_ s0 s1 w0 (by omega)) (fun k k0 k1 => e.ltr_ s0 s1 w0 (by omega) k0 k1)).2
/-- a state of the class that shows the changed file -/
theorem RepA.sx {m m' : Nat → Nat → Int} {b : Nat} (h : RepA m b F) (hw : WF F) (e : sx F G) (hr : ∀ r, b < r → r < b + 15 → m' r = m r) (h15 : ∀ p i, 0 ≤ p → p < 24 → 0 ≤ i → i < 6 → m' (b + 15) (zix ((p * 6) + i)) = if p < prs F then tld G p i else 0) (h5 : m' b 5 = ltd G) (h6 : m' b 6 = plc G) (h7 : m' b 7 = lst G) : RepA m' b G := by
  have p24 := hw.prs_
  have eg : ∀ (c : Nat) (s : Int), c ≤ 12 → 0 ≤ s → s < 2 → m' (b + c + (1 + zix s)) = m (b + c + (1 + zix s)) := fun c s h2 h3 h4 => hr _ (by omega) (by have := zix2 h3 h4; omega)
  obtain ⟨a1, a2, a3, a4, a5, a6, a7, a8⟩ := h
  refine ⟨by rw [hr _ (by omega) (by omega), e.prs_]; exact a1, fun s s0 s1 => by rw [hr _ (by omega) (by omega), e.wds_ s0 s1]; exact a2 s s0 s1, fun s w s0 s1 w0 w1 => ?_, fun s u v s0 s1 u0 u1 v0 v1 => ?_, fun s p s0 s1 p0 p1 => ?_, fun s p i s0 s1 p0 p1 i0 i1 => ?_, fun p i p0 p1 i0 i1 => by rw [e.prs_]; exact h15 p i p0 p1 i0 i1, h5, h6, h7⟩
  · rw [e.wds_ s0 s1] at w1
    rw [eg 3 s (by omega) s0 s1, key_sx e hw s0 s1 w0 w1]
    exact a3 s w s0 s1 w0 w1
  · rw [eg 6 s (by omega) s0 s1]
    unfold ptn
    rw [e.shr_ s0 s1 u0 u1 v0 v1]
    exact a4 s u v s0 s1 u0 u1 v0 v1
  · rw [e.prs_] at p1
    rw [eg 9 s (by omega) s0 s1, e.lng_ p0 (by omega) s0 s1]
    exact a5 s p s0 s1 p0 p1
  · rw [e.prs_] at p1
    rw [e.lng_ p0 (by omega) s0 s1] at i1
    have l := hw.lng_ p0 p1 s0 s1
    rw [eg 12 s (by omega) s0 s1, e.wrd_ p0 (by omega) s0 s1 i0 (by omega)]
    exact a6 s p i s0 s1 p0 p1 i0 i1
theorem RepC.sx {m : Nat → Nat → Int} {b : Nat} (h : RepC m b F) (e : sx F G) : RepC m b G := ⟨fun w k w0 w1 k0 k1 => by rw [e.shf_ w0 w1 k0 k1]; exact h.1 w k w0 w1 k0 k1, fun w k w0 w1 k0 k1 => by rw [e.ner_ w0 w1 k0 k1]; exact h.2 w k w0 w1 k0 k1⟩
theorem hiE.l (e : hiE F G) : shl G = shl F := e _ (by rw [zix_id (by omega)]; omega) (by rw [zix_id (by omega)]; omega)
theorem hiE.s (e : hiE F G) (h : WFs F) : sgF G = sgF F := by
  have h1 := h.1
  funext k
  unfold sgF
  rw [e.l]
  by_cases c : 0 ≤ k ∧ k < shl F
  · rw [if_pos c, if_pos c]
    exact e _ (by rw [zix_id (by omega)]; omega) (by rw [zix_id (by omega)]; omega)
  · rw [if_neg c, if_neg c]
theorem WFs.hi (h : WFs F) (e : hiE F G) : WFs G := by
  unfold WFs
  rw [e.l, e.s h]
  exact h
theorem RepD.hi {m : Nat → Nat → Int} {b : Nat} (h : RepD m b F) (hs : WFs F) (e : hiE F G) : RepD m b G := by
  unfold RepD
  rw [e.l, e.s hs]
  exact h
theorem hiE.k (e : hiE F G) : kpF G = kpF F := by
  funext k
  unfold kpF
  by_cases c : k < 4545
  · rw [if_pos c, if_pos c]
    exact e _ (by omega) (by omega)
  · rw [if_neg c, if_neg c]
end
section
variable {P : zP} {d t : zD P} {F G : Nat → Int} {B : Int → Int} {T : Int}
theorem KPT.hi (h : KPT d F) (e : hiE F G) : KPT d G := by
  unfold KPT at h ⊢
  rw [e.k]
  exact h
/-- one file, both sides: from what stays to what holds again -/
theorem INV.mk2 {s' : zD P} {B' : Int → Int} {T' : Int} (h : INV d F B T) (hc : CI s' G) (hF : s'.m 133 = G) (hT : TQ s' B' T') (he : hiE F G) (ho : ORX G) (h8 : s'.m 132 8 = d.m 132 8) (hr : ∀ r, (29 ≤ r ∧ r < 35) ∨ (41 ≤ r ∧ r < 69) ∨ r = 10 ∨ r < 4 → s'.m r = d.m r) (h1 : s'.m 132 1 = d.m 132 1) : INV s' G B' T' := by
  obtain ⟨a1, a2, a3, a4, a5, a6, a7, a8, a9⟩ := h
  refine ⟨hc, hF, hT, (a4.fr (fun r r0 r1 => hr r (by omega))).hi a5 he, a5.hi he, ho, by rw [h8]; exact a7, (a8.fr (by rw [hr 10 (by omega)]) h1 (fun r r0 r1 => hr r (by omega))).hi he, a9.fr (fun r hr' => hr r (by omega))⟩
/-- a cell of what is set -/
noncomputable def stF (F : Nat → Int) (a : Nat) (x : Int) : Nat → Int := fun q => if q = a then x else F q
theorem stF_sx {a : Nat} {x : Int} (ha : a = 1 ∨ a = 2 ∨ a = 3 ∨ tdC a) : sx F (stF F a x) := fun q _ q1 q2 q3 q4 => by
  unfold stF
  rw [if_neg (fun e => by rw [e] at q1 q2 q3 q4; rcases ha with e | e | e | e <;> first | exact absurd e q4 | omega)]
theorem stF_hi {a : Nat} {x : Int} (ha : a < 4344) : hiE F (stF F a x) := fun q q0 _ => by
  unfold stF
  rw [if_neg (by omega)]
theorem b_least (h : INV d F B T) {a : Int} (ha : I32 a) : BO d (fun d => wl_least d a) (fun d => m_least d a) := by
  have ha' := ha
  unfold I32 at ha'
  have y1 : zin 1 18180 := of_eq_true (zinT (by omega))
  have z1 : zix 1 = 1 := by rw [zix_id (by omega)]; rfl
  by_cases c : 0 ≤ a ∧ a ≤ 100000
  · have hw := h.wf
    have e : sx F (stF F 1 a) := stF_sx (Or.inl rfl)
    have te : ∀ p i, 0 ≤ p → p < 24 → 0 ≤ i → i < 6 → tld (stF F 1 a) p i = tld F p i := fun p i p0 p1 i0 i1 => by
      unfold tld stF
      rw [zix_id (by omega), if_neg (by omega)]
    have l1 : lst (stF F 1 a) = a := by
      unfold lst stF
      rw [z1, if_pos rfl]
    have l2 : ltd (stF F 1 a) = ltd F := by
      unfold ltd stF
      rw [zix_id (by omega), if_neg (by decide)]
    have l3 : plc (stF F 1 a) = plc F := by
      unfold plc stF
      rw [zix_id (by omega), if_neg (by decide)]
    have p24 := hw.prs_
    have wG : WF (stF F 1 a) := hw.sx e (fun p i p0 p1 i0 i1 => by rw [te p i p0 (by omega) i0 i1]; exact hw.tld_ p0 p1 i0 i1) (by rw [l1]; exact c) (by rw [l2]; exact hw.ltd_) (by rw [l3]; exact hw.plc_)
    have eF1 : F (zix 1) = lst F := rfl
    refine ⟨lst F, d.up 13 7 a, (d.up 13 7 a).up 133 (zix 1) a, stF F 1 a, B, T, ?_, ?_, ?_⟩
    · (try dsimp only)
      rw [wl_least_e, if_neg (by rw [wr_id (by omega)]; omega), if_pos (by rw [wr_id (by omega), wr_id (by omega)]; omega), h.ci.ca.lst_]
    · (try dsimp only)
      rw [m_least_e, n_in (by unfold I32; omega), bi_t c, Option.bind_some]
      (try dsimp only)
      rw [if_pos oz1, if_pos y1, if_pos y1, up_ne (by decide), h.f, eF1]
    · have er : ∀ r, r ≠ 13 → r ≠ 133 → ((d.up 13 7 a).up 133 (zix 1) a).m r = d.m r := fun r r1 r2 => by rw [up_ne r2, up_ne r1]
      have e13 : ((d.up 13 7 a).up 133 (zix 1) a).m 13 = zfu (d.m 13) 7 a := by rw [up_ne (by decide), u_13_7]
      have eF : ((d.up 13 7 a).up 133 (zix 1) a).m 133 = stF F 1 a := by
        rw [u_133, up_ne (by decide), h.f, z1]
        rfl
      refine INV.mk2 h ⟨⟨wG, h.ci.1.2.sx hw e (fun r r0 r1 => er r (by omega) (by omega)) (fun p i p0 p1 i0 i1 => ?_) ?_ ?_ ?_⟩, (h.ci.2.fr (fun r r0 r1 => er r (by omega) (by omega))).sx e⟩ eF (h.tq.fr (by rw [er 11 (by decide) (by decide)]) (er 12 (by decide) (by decide)) (by rw [er 132 (by decide) (by decide)]) (er 134 (by decide) (by decide))) (stF_hi (by decide)) (e.ORX hw h.2.2.2.2.2.1) (by rw [er 132 (by decide) (by decide)]) (fun r hr => er r (by omega) (by omega)) (by rw [er 132 (by decide) (by decide)])
      · have q := h.ci.1.2.2.2.2.2.2.2.1 p i p0 p1 i0 i1
        rw [er (13 + 15) (by decide) (by decide), q]
        by_cases cp : p < prs F
        · rw [if_pos cp, if_pos cp, te p i p0 p1 i0 i1]
        · rw [if_neg cp, if_neg cp]
      · rw [e13, zfu_n, if_neg (by decide), l2]; exact h.ci.ca.ltd_
      · rw [e13, zfu_n, if_neg (by decide), l3]; exact h.ci.ca.plc_
      · rw [e13, zfu_n, if_pos rfl, l1]
  · refine BO_a (-1) h ?_ (fun s hs => ?_)
    · (try dsimp only)
      rw [wl_least_e]
      by_cases e : a < 0
      · rw [if_pos (by rw [wr_id (by omega)]; exact e)]
        exact Ok_ret ⟨rfl, qF.rf⟩
      · rw [if_neg (by rw [wr_id (by omega)]; exact e), if_neg (by rw [wr_id (by omega), wr_id (by omega)]; omega)]
        exact Ok_ret ⟨rfl, qF.rf⟩
    · (try dsimp only)
      rw [m_least_e, n_in (by unfold I32; omega), bi_f c, Option.bind_some]
      (try dsimp only)
      rw [if_neg (fun x => x zz0)]
      exact Ok_ret ⟨rfl, rF.rf⟩
theorem b_placed (h : INV d F B T) {a : Int} (ha : a = 0 ∨ a = 1) : BO d (fun d => wl_placed d a) (fun d => m_placed d a) := by
  have y3 : zin 3 18180 := of_eq_true (zinT (by omega))
  have z3 : zix 3 = 3 := by rw [zix_id (by omega)]; rfl
  have hw := h.wf
  have eF3 : F (zix 3) = plc F := rfl
  have pb := hw.plc_
  by_cases c : plc F = a
  · refine BO_a 0 h ?_ (fun s hs => ?_)
    · (try dsimp only)
      rw [wl_placed_e, h.ci.ca.plc_, if_neg (by rw [c]; exact fun x => x rfl)]
      exact Ok_ret ⟨rfl, qF.rf⟩
    · (try dsimp only)
      rw [m_placed_e, if_pos y3, hs.f, eF3, c]
      rcases ha with rfl | rfl
      · rw [if_pos zz0, if_neg (fun x => x rfl)]
        exact Ok_ret ⟨rfl, rF.rf⟩
      · rw [if_neg oz1, if_neg (fun x => x rfl)]
        exact Ok_ret ⟨rfl, rF.rf⟩
  · have e : sx F (stF F 3 a) := stF_sx (Or.inr (Or.inr (Or.inl rfl)))
    have te : ∀ p i, 0 ≤ p → p < 24 → 0 ≤ i → i < 6 → tld (stF F 3 a) p i = tld F p i := fun p i p0 p1 i0 i1 => by
      unfold tld stF
      rw [zix_id (by omega), if_neg (by omega)]
    have l1 : lst (stF F 3 a) = lst F := by
      unfold lst stF
      rw [zix_id (by omega), if_neg (by decide)]
    have l2 : ltd (stF F 3 a) = ltd F := by
      unfold ltd stF
      rw [zix_id (by omega), if_neg (by decide)]
    have l3 : plc (stF F 3 a) = a := by
      unfold plc stF
      rw [z3, if_pos rfl]
    have p24 := hw.prs_
    have wG : WF (stF F 3 a) := hw.sx e (fun p i p0 p1 i0 i1 => by rw [te p i p0 (by omega) i0 i1]; exact hw.tld_ p0 p1 i0 i1) (by rw [l1]; exact hw.lst_) (by rw [l2]; exact hw.ltd_) (by rw [l3]; exact ha)
    refine ⟨1, d.up 13 6 a, (d.up 13 6 a).up 133 (zix 3) a, stF F 3 a, B, T, ?_, ?_, ?_⟩
    · (try dsimp only)
      rw [wl_placed_e, h.ci.ca.plc_, if_pos (by rw [wr_id (by omega), wr_id (by omega)]; exact c), if_pos ha]
    · (try dsimp only)
      rw [m_placed_e, if_pos y3, up_ne (by decide), h.f, eF3]
      rcases ha with rfl | rfl
      · rw [if_pos zz0, if_pos (by rw [wr_id (by omega), wr_id (by omega)]; exact c), if_pos zz0, if_pos y3]
      · rw [if_neg oz1, if_pos (by rw [wr_id (by omega), wr_id (by omega)]; exact c), if_neg oz1, if_pos y3]
    · have er : ∀ r, r ≠ 13 → r ≠ 133 → ((d.up 13 6 a).up 133 (zix 3) a).m r = d.m r := fun r r1 r2 => by rw [up_ne r2, up_ne r1]
      have e13 : ((d.up 13 6 a).up 133 (zix 3) a).m 13 = zfu (d.m 13) 6 a := by rw [up_ne (by decide), u_13_6]
      have eF : ((d.up 13 6 a).up 133 (zix 3) a).m 133 = stF F 3 a := by
        rw [u_133, up_ne (by decide), h.f, z3]
        rfl
      refine INV.mk2 h ⟨⟨wG, h.ci.1.2.sx hw e (fun r r0 r1 => er r (by omega) (by omega)) (fun p i p0 p1 i0 i1 => ?_) ?_ ?_ ?_⟩, (h.ci.2.fr (fun r r0 r1 => er r (by omega) (by omega))).sx e⟩ eF (h.tq.fr (by rw [er 11 (by decide) (by decide)]) (er 12 (by decide) (by decide)) (by rw [er 132 (by decide) (by decide)]) (er 134 (by decide) (by decide))) (stF_hi (by decide)) (e.ORX hw h.2.2.2.2.2.1) (by rw [er 132 (by decide) (by decide)]) (fun r hr => er r (by omega) (by omega)) (by rw [er 132 (by decide) (by decide)])
      · have q := h.ci.1.2.2.2.2.2.2.2.1 p i p0 p1 i0 i1
        rw [er (13 + 15) (by decide) (by decide), q]
        by_cases cp : p < prs F
        · rw [if_pos cp, if_pos cp, te p i p0 p1 i0 i1]
        · rw [if_neg cp, if_neg cp]
      · rw [e13, zfu_n, if_neg (by decide), l2]; exact h.ci.ca.ltd_
      · rw [e13, zfu_n, if_pos rfl, l3]
      · rw [e13, zfu_n, if_neg (by decide), l1]; exact h.ci.ca.lst_
end
