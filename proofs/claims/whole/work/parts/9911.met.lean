/-! PAIRS COME: a file without shares; partners met are the file's. -/
def WFc (F : Nat → Int) : Prop := (0 ≤ prs F ∧ prs F ≤ 24)
  ∧ (∀ p s, 0 ≤ p → p < prs F → 0 ≤ s → s < 2 → 1 ≤ lng F p s ∧ lng F p s ≤ 6)
  ∧ (∀ p s i, 0 ≤ p → p < prs F → 0 ≤ s → s < 2 → 0 ≤ i → i < lng F p s → 0 ≤ wrd F p s i ∧ wrd F p s i < wds F s)
  ∧ (∀ s, 0 ≤ s → s < 2 → VW F s)
  ∧ (∀ p i, 0 ≤ p → p < prs F → 0 ≤ i → i < 6 → 0 ≤ tld F p i ∧ tld F p i < 64)
  ∧ (0 ≤ lst F ∧ lst F ≤ 100000) ∧ (ltd F = 0 ∨ ltd F = 1) ∧ (plc F = 0 ∨ plc F = 1)
theorem WF.c {F : Nat → Int} (h : WF F) : WFc F := ⟨h.prs_, fun p s p0 p1 s0 s1 => h.lng_ p0 p1 s0 s1, fun p s i p0 p1 s0 s1 i0 i1 => h.wrd_ p0 p1 s0 s1 i0 i1, fun s s0 s1 => h.vw s0 s1, fun p i p0 p1 i0 i1 => h.tld_ p0 p1 i0 i1, h.lst_, h.ltd_, h.plc_⟩
theorem shr_at {G : Nat → Int} {w u v : Int} (w0 : 0 ≤ w) (w1 : w < 2) (u0 : 0 ≤ u) (u1 : u < 40) (v0 : 0 ≤ v) (v1 : v < 40) : ∃ q : Nat, (q : Int) = 1144 + 1600 * w + 40 * u + v ∧ (1144 ≤ q ∧ q < 4344) ∧ shr G w u v = G q := ⟨zix (((1144 + (1600 * w)) + (40 * u)) + v), by rw [zix_id (by omega)]; omega, by rw [zix_id (by omega)]; omega, rfl⟩
theorem hit_mt {F : Nat → Int} (h : WFc F) {s u v : Int} {q : Nat} (s0 : 0 ≤ s) (s1 : s < 2) (u0 : 0 ≤ u) (u1 : u < 40) (v0 : 0 ≤ v) (v1 : v < 40) (hq : (q : Int) = 1144 + 1600 * s + 40 * u + v) : hit F (fun _ _ _ => True) q ↔ mt F (fun _ _ _ => True) s u v := by
  have w40 : ∀ s, 0 ≤ s → s < 2 → wds F s ≤ 40 := fun s s0 s1 => (h.2.2.2.1 s s0 s1).1.2
  have a0 := w40 0 (by omega) (by omega)
  have a1 := w40 1 (by omega) (by omega)
  constructor
  · rintro ⟨p, i, j, p0, p1, i0, i1, j0, j1, -, e⟩
    have x := h.2.2.1 p 0 i p0 p1 (by omega) (by omega) i0 i1
    have y := h.2.2.1 p 1 j p0 p1 (by omega) (by omega) j0 j1
    refine ⟨p, i, j, ⟨p0, p1⟩, ⟨i0, i1⟩, ⟨j0, j1⟩, trivial, ?_⟩
    rcases e with e | e
    · exact Or.inl (by omega)
    · exact Or.inr (by omega)
  · rintro ⟨p, i, j, ⟨p0, p1⟩, ⟨i0, i1⟩, ⟨j0, j1⟩, -, e⟩
    refine ⟨p, i, j, p0, p1, i0, i1, j0, j1, trivial, ?_⟩
    rcases e with ⟨rfl, rfl, rfl⟩ | ⟨rfl, rfl, rfl⟩
    · exact Or.inl (by omega)
    · exact Or.inr (by omega)
theorem mkN_shr {F : Nat → Int} (h : WFc F) {s u v : Int} (s0 : 0 ≤ s) (s1 : s < 2) (u0 : 0 ≤ u) (u1 : u < 40) (v0 : 0 ≤ v) (v1 : v < 40) : (mt F (fun _ _ _ => True) s u v → shr (mkN F) s u v = 0) ∧ (¬ mt F (fun _ _ _ => True) s u v → shr (mkN F) s u v = -1) := by
  obtain ⟨q, hq, hr, e⟩ := shr_at (G := mkN F) s0 s1 u0 u1 v0 v1
  have hm := hit_mt h s0 s1 u0 u1 v0 v1 hq
  rw [e]
  exact ⟨fun x => mkC_t hr (hm.mpr x), fun x => mkC_f hr (fun y => x (hm.mp y))⟩
theorem wf_mkN {F : Nat → Int} (h : WFc F) : WF (mkN F) := by
  have S : SameA F (mkN F) := mkC_same
  have hh := h
  obtain ⟨h1, h2, h3, h4, h5, h6, h7, h8⟩ := h
  have w40 : ∀ s, 0 ≤ s → s < 2 → 0 ≤ wds F s ∧ wds F s ≤ 40 := fun s s0 s1 => (h4 s s0 s1).1
  have split : ∀ k : Int, 0 ≤ k → k < 1600 → ∃ u v : Int, 0 ≤ u ∧ u < 40 ∧ 0 ≤ v ∧ v < 40 ∧ k = u * 40 + v := fun k k0 k1 => ⟨k / 40, k % 40, by omega, by omega, by omega, by omega, by omega⟩
  refine ⟨by rw [S.prs_]; exact h1, fun p s p0 p1 s0 s1 => ?_, fun p s i p0 p1 s0 s1 i0 i1 => ?_, fun s s0 s1 => by rw [S.wds_ s0 s1]; exact w40 s s0 s1, fun s w s0 s1 w0 w1 => ?_, fun s w k s0 s1 w0 w1 k0 k1 => ?_, fun p i p0 p1 i0 i1 => ?_, fun w k w0 w1 k0 k1 => ?_, fun w p i j w0 w1 p0 p1 i0 i1 j0 j1 => ?_, fun w u v w0 w1 u0 u1 v0 v1 hne => ?_, fun w k w0 w1 k0 k1 => ?_, by rw [S.lst_]; exact h6, by rw [S.ltd_]; exact h7, by rw [S.plc_]; exact h8⟩
  · rw [S.prs_] at p1
    rw [S.lng_ p0 (by omega) s0 s1]
    exact h2 p s p0 p1 s0 s1
  · rw [S.prs_] at p1
    rw [S.lng_ p0 (by omega) s0 s1] at i1
    have l := h2 p s p0 p1 s0 s1
    rw [S.wrd_ p0 (by omega) s0 s1 i0 (by omega), S.wds_ s0 s1]
    exact h3 p s i p0 p1 s0 s1 i0 i1
  · have a := w40 s s0 s1
    rw [S.wds_ s0 s1] at w1
    have b := (h4 s s0 s1).2 w w0 w1
    rw [S.ltn_ s0 s1 w0 (by omega)]
    have b2 := b.2.1
    omega
  · have a := w40 s s0 s1
    rw [S.wds_ s0 s1] at w1
    have b := (h4 s s0 s1).2 w w0 w1
    rw [S.ltn_ s0 s1 w0 (by omega)] at k1
    have b2 := b.2.1
    rw [S.ltr_ s0 s1 w0 (by omega) k0 (by omega)]
    exact b.2.2 k k0 k1
  · rw [S.prs_] at p1
    rw [S.tld_ p0 (by omega) i0 i1]
    exact h5 p i p0 p1 i0 i1
  · obtain ⟨u, v, u0, u1, v0, v1, rfl⟩ := split k k0 k1
    rw [shf_shr]
    have z := mkN_shr hh w0 w1 u0 u1 v0 v1
    by_cases c : mt F (fun _ _ _ => True) w u v
    · rw [z.1 c]; omega
    · rw [z.2 c]; omega
  · rw [S.prs_] at p1
    have lw := h2 p w p0 p1 w0 w1
    have lw' := h2 p (1 - w) p0 p1 (by omega) (by omega)
    rw [S.lng_ p0 (by omega) w0 w1] at i1
    rw [S.lng_ p0 (by omega) (by omega) (by omega)] at j1
    rw [S.wrd_ p0 (by omega) w0 w1 i0 (by omega), S.wrd_ p0 (by omega) (by omega) (by omega) j0 (by omega)]
    have x := h3 p w i p0 p1 w0 w1 i0 i1
    have y := h3 p (1 - w) j p0 p1 (by omega) (by omega) j0 j1
    have a := w40 w w0 w1
    have b := w40 (1 - w) (by omega) (by omega)
    have z := mkN_shr hh (s := w) (u := wrd F p w i) (v := wrd F p (1 - w) j) w0 w1 (by omega) (by omega) (by omega) (by omega)
    have c : mt F (fun _ _ _ => True) w (wrd F p w i) (wrd F p (1 - w) j) := by
      rcases (by omega : w = 0 ∨ w = 1) with rfl | rfl
      · exact ⟨p, i, j, ⟨p0, p1⟩, ⟨i0, i1⟩, ⟨j0, j1⟩, trivial, Or.inl ⟨rfl, rfl, rfl⟩⟩
      · exact ⟨p, j, i, ⟨p0, p1⟩, ⟨j0, j1⟩, ⟨i0, i1⟩, trivial, Or.inr ⟨rfl, rfl, rfl⟩⟩
    rw [z.1 c]
    omega
  · have z := mkN_shr hh w0 w1 u0 u1 v0 v1
    by_cases c : mt F (fun _ _ _ => True) w u v
    · rw [S.wds_ w0 w1, S.wds_ (by omega) (by omega)]
      obtain ⟨p, i, j, ⟨p0, p1⟩, ⟨i0, i1⟩, ⟨j0, j1⟩, -, e⟩ := c
      have x := h3 p 0 i p0 p1 (by omega) (by omega) i0 i1
      have y := h3 p 1 j p0 p1 (by omega) (by omega) j0 j1
      rcases e with ⟨rfl, rfl, rfl⟩ | ⟨rfl, rfl, rfl⟩
      · exact ⟨x.2, y.2⟩
      · exact ⟨y.2, x.2⟩
    · exact absurd (z.2 c) hne
  · have e : ner (mkN F) w k = 12500 := by
      unfold ner mkN
      have z : zix ((8 + (8 * w)) + k) = (8 + 8 * w + k).toNat := zix_id (by omega)
      rw [mkC_n (by omega), if_pos (by omega)]
    rw [e]
    omega
section
variable {P : zP} {d t : zD P} {G : Nat → Int}
theorem k_met (hc : WFc G) (h : RepB d.m 13 G) : Ok (co_meetPartners d) (fun _ t => Fx m2S d t ∧ CA t (mkN G)) := by
  have hw := wf_mkN hc
  have S : SameA G (mkN G) := mkC_same
  refine Ok_mono (k_meet hw h) (fun v t f => ⟨f.1, hw, ?_⟩)
  have hb : RepB t.m 13 G := h.fx f.1 (fun r r0 r1 r2 r3 => by unfold m2S; omega)
  obtain ⟨a1, a2, a3, a4, a5, a6, a7, a8, a9⟩ := hb
  have p24 := hc.1
  refine ⟨by rw [S.prs_]; exact a1, fun s s0 s1 => by rw [S.wds_ s0 s1]; exact a2 s s0 s1, fun s w s0 s1 w0 w1 => ?_, fun s u v s0 s1 u0 u1 v0 v1 => ?_, fun s p s0 s1 p0 p1 => ?_, fun s p i s0 s1 p0 p1 i0 i1 => ?_, fun p i p0 p1 i0 i1 => ?_, by rw [S.ltd_]; exact a7, by rw [S.plc_]; exact a8, by rw [S.lst_]; exact a9⟩
  · rw [← S.sy.key_ hw s0 s1 w0 w1]
    rw [S.wds_ s0 s1] at w1
    exact a3 s w s0 s1 w0 w1
  · have m := f.2 s u v s0 s1 u0 u1 v0 v1
    have z := mkN_shr hc s0 s1 u0 u1 v0 v1
    refine ⟨m.1.1, m.1.2, ?_⟩
    by_cases c : mt G (fun _ _ _ => True) s u v
    · unfold ptn
      rw [z.1 c]
      exact m.2.mpr c
    · unfold ptn
      rw [z.2 c]
      exact Bool.eq_false_iff.mpr (fun x => c (m.2.mp x))
  · rw [S.prs_] at p1
    rw [S.lng_ p0 (by omega) s0 s1]
    exact a4 s p s0 s1 p0 p1
  · rw [S.prs_] at p1
    rw [S.lng_ p0 (by omega) s0 s1] at i1
    have l := hc.2.1 p s p0 p1 s0 s1
    rw [S.wrd_ p0 (by omega) s0 s1 i0 (by omega)]
    exact a5 s p i s0 s1 p0 p1 i0 i1
  · rw [S.prs_]
    rw [a6 p i p0 p1 i0 i1]
    by_cases c : p < prs G
    · rw [if_pos c, if_pos c, S.tld_ p0 (by omega) i0 i1]
    · rw [if_neg c, if_neg c]
end
