/-! WHAT HOLDS BETWEEN CALLS; both sides answer alike. -/
/-- every word stands somewhere, and words are numbered as they come first -/
def ORD (F : Nat → Int) : Prop := ∀ s, 0 ≤ s → s < 2 → (∀ w, 0 ≤ w → w < wds F s → ∃ p i, (0 ≤ p ∧ p < prs F) ∧ (0 ≤ i ∧ i < lng F p s) ∧ wrd F p s i = w) ∧ ∀ p i w, 0 ≤ p → p < prs F → 0 ≤ i → i < lng F p s → 0 ≤ w → w < wrd F p s i → ∃ p' i', (0 ≤ p' ∧ p' ≤ p) ∧ (0 ≤ i' ∧ i' < lng F p' s) ∧ wrd F p' s i' = w
/-- partners meet in a pair -/
def PTI (F : Nat → Int) : Prop := ∀ w u v, 0 ≤ w → w < 2 → 0 ≤ u → u < 40 → 0 ≤ v → v < 40 → shr F w u v ≠ -1 → mt F (fun _ _ _ => True) w u v
def ORX (F : Nat → Int) : Prop := ORD F ∧ PTI F
/-- the kept file -/
def kpF (F : Nat → Int) : Nat → Int := fun k => if k < 4545 then F (4545 + k) else 0
section
variable {P : zP} {d t : zD P} {F : Nat → Int} {B : Int → Int} {T : Int}
def KPT (d : zD P) (F : Nat → Int) : Prop := (d.m 10 12 = 0 ∧ d.m 132 1 = 0) ∨ (d.m 10 12 = 1 ∧ d.m 132 1 = 1 ∧ WF (kpF F) ∧ WFs (kpF F) ∧ ORX (kpF F) ∧ RepA d.m 41 (kpF F) ∧ RepC d.m 41 (kpF F) ∧ RepD d.m 41 (kpF F))
/-- how many sentences a kind of part takes from a side, and what the kind costs -/
def tkF (k s : Int) : Int := if k = 0 then 1 else if k = 1 then 1 - s else if k = 2 then s else if k = 3 then 2 - s else 1 + s
def kcF (k : Int) : Int := if k = 0 then 0 else if k = 1 then 45 else if k = 2 then 45 else 20
def STA (d : zD P) : Prop := ∀ k, 0 ≤ k → k < 5 → d.m 1 (zix k) = tkF k 0 ∧ d.m 2 (zix k) = tkF k 1 ∧ d.m 3 (zix k) = kcF k
theorem STA.fr {e : zD P} (h : STA d) (hr : ∀ r, r < 4 → e.m r = d.m r) : STA e := fun k k0 k1 => by
  rw [hr 1 (by omega), hr 2 (by omega), hr 3 (by omega)]
  exact h k k0 k1
def INV (d : zD P) (F : Nat → Int) (B : Int → Int) (T : Int) : Prop := CI d F ∧ d.m 133 = F ∧ TQ d B T ∧ RepD d.m 13 F ∧ WFs F ∧ ORX F ∧ d.m 132 8 = 0 ∧ KPT d F ∧ STA d
theorem INV.sta (h : INV d F B T) : STA d := h.2.2.2.2.2.2.2.2
theorem INV.ci (h : INV d F B T) : CI d F := h.1
theorem INV.wf (h : INV d F B T) : WF F := h.1.1.1
theorem INV.f (h : INV d F B T) : d.m 133 = F := h.2.1
theorem INV.tq (h : INV d F B T) : TQ d B T := h.2.2.1
theorem INV.o (h : INV d F B T) : d.m 132 8 = 0 := h.2.2.2.2.2.2.1
/-- what a reading call of the class leaves -/
def qF (d s : zD P) : Prop := ∀ r, (r < 69 ∨ 132 ≤ r) → s.m r = d.m r
theorem qF.rf : qF d d := fun _ _ => rfl
theorem qF.tr {a b c : zD P} (h : qF a b) (h2 : qF b c) : qF a c := fun r hr => (h2 r hr).trans (h r hr)
theorem Fr.q {lo hi : Nat} {s : zD P} (h : Fr lo hi d s) (h0 : 69 ≤ lo) (h1 : hi ≤ 132) : qF d s := fun r hr => h r (by omega)
/-- what a reading call of the model leaves -/
def rF (d s : zD P) : Prop := (∀ r, r < 132 → s.m r = d.m r) ∧ s.m 133 = d.m 133 ∧ s.m 134 = d.m 134 ∧ s.m 132 1 = d.m 132 1 ∧ s.m 132 3 = d.m 132 3 ∧ s.m 132 8 = d.m 132 8
theorem rF.rf : rF d d := ⟨fun _ _ => rfl, rfl, rfl, rfl, rfl, rfl⟩
theorem rF.tr {a b c : zD P} (h : rF a b) (h2 : rF b c) : rF a c := ⟨fun r hr => (h2.1 r hr).trans (h.1 r hr), h2.2.1.trans h.2.1, h2.2.2.1.trans h.2.2.1, h2.2.2.2.1.trans h.2.2.2.1, h2.2.2.2.2.1.trans h.2.2.2.2.1, h2.2.2.2.2.2.trans h.2.2.2.2.2⟩
theorem Fr.r {lo hi : Nat} {s : zD P} (h : Fr lo hi d s) (h0 : 135 ≤ lo) : rF d s := ⟨fun r hr => h r (by omega), h 133 (by omega), h 134 (by omega), by rw [h 132 (by omega)], by rw [h 132 (by omega)], by rw [h 132 (by omega)]⟩
theorem FrP.r {s : zD P} (h : FrP d s) : rF d s := ⟨fun r hr => h.1 r (by omega) (by omega), h.1 133 (by omega) (by decide), h.1 134 (by omega) (by decide), h.2 1 (by decide), h.2 3 (by decide), h.2 8 (by decide)⟩
theorem RepA.fr {e : zD P} {b : Nat} {K : Nat → Int} (h : RepA d.m b K) (hr : ∀ r, b ≤ r → r < b + 16 → e.m r = d.m r) : RepA e.m b K := by
  have eg : ∀ (c : Nat) (s : Int), c ≤ 12 → 0 ≤ s → s < 2 → e.m (b + c + (1 + zix s)) = d.m (b + c + (1 + zix s)) := fun c s h2 h3 h4 => hr _ (by omega) (by have := zix2 h3 h4; omega)
  obtain ⟨a1, a2, a3, a4, a5, a6, a7, a8⟩ := h
  refine ⟨by rw [hr _ (by omega) (by omega)]; exact a1, fun s h1 h2 => by rw [hr _ (by omega) (by omega)]; exact a2 s h1 h2, fun s w h1 h2 h3 h4 => by rw [eg 3 s (by omega) h1 h2]; exact a3 s w h1 h2 h3 h4, fun s u v h1 h2 h3 h4 h5 h6 => by rw [eg 6 s (by omega) h1 h2]; exact a4 s u v h1 h2 h3 h4 h5 h6, fun s p h1 h2 h3 h4 => by rw [eg 9 s (by omega) h1 h2]; exact a5 s p h1 h2 h3 h4, fun s p i h1 h2 h3 h4 h5 h6 => by rw [eg 12 s (by omega) h1 h2]; exact a6 s p i h1 h2 h3 h4 h5 h6, fun p i h1 h2 h3 h4 => by rw [hr _ (by omega) (by omega)]; exact a7 p i h1 h2 h3 h4, ?_⟩
  rw [hr b (by omega) (by omega)]
  exact a8
theorem RepC.fr {e : zD P} {b : Nat} {K : Nat → Int} (h : RepC d.m b K) (hr : ∀ r, b + 22 ≤ r → r < b + 28 → e.m r = d.m r) : RepC e.m b K := by
  refine ⟨fun w k h1 h2 h3 h4 => ?_, fun w k h1 h2 h3 h4 => ?_⟩
  · rw [hr _ (by omega) (by have := zix2 h1 h2; omega)]; exact h.1 w k h1 h2 h3 h4
  · rw [hr _ (by omega) (by have := zix2 h1 h2; omega)]; exact h.2 w k h1 h2 h3 h4
theorem RepD.fr {e : zD P} {b : Nat} {K : Nat → Int} (h : RepD d.m b K) (hr : ∀ r, b + 16 ≤ r → r < b + 22 → e.m r = d.m r) : RepD e.m b K := by
  refine ⟨fun hh => by rw [hr _ (by omega) (by omega)]; exact h.1 hh, fun hh => ?_⟩
  have g := h.2 hh
  unfold rO at g ⊢
  rw [hr (b + 16) (by omega) (by omega), hr (b + 16 + 1) (by omega) (by omega), hr (b + 16 + 2) (by omega) (by omega), hr (b + 19) (by omega) (by omega), hr (b + 19 + 1) (by omega) (by omega), hr (b + 19 + 2) (by omega) (by omega)]
  exact g
theorem TQ.fr {e : zD P} (h : TQ d B T) (h1 : e.m 11 1 = d.m 11 1) (h2 : e.m 12 = d.m 12) (h3 : e.m 132 3 = d.m 132 3) (h4 : e.m 134 = d.m 134) : TQ e B T := by
  unfold TQ at h ⊢
  rw [h1, h2, h3, h4]
  exact h
theorem TQ_0 {e : zD P} (h1 : e.m 11 1 = 0) (h3 : e.m 132 3 = 0) : TQ e B 0 := ⟨h1, h3, by omega, fun k k0 k1 => by omega⟩
theorem KPT.fr {e : zD P} (h : KPT d F) (h1 : e.m 10 12 = d.m 10 12) (h2 : e.m 132 1 = d.m 132 1) (hr : ∀ r, 41 ≤ r → r < 69 → e.m r = d.m r) : KPT e F := by
  rcases h with ⟨a, b⟩ | ⟨a, b, c, f, g, x, y, z⟩
  · exact Or.inl ⟨h1.trans a, h2.trans b⟩
  · exact Or.inr ⟨h1.trans a, h2.trans b, c, f, g, x.fr (fun r r0 r1 => hr r r0 (by omega)), y.fr (fun r r0 r1 => hr r (by omega) (by omega)), z.fr (fun r r0 r1 => hr r (by omega) (by omega))⟩
theorem INV.q {s : zD P} (h : INV d F B T) (f : qF d s) : INV s F B T := by
  obtain ⟨h1, h2, h3, h4, h5, h6, h7, h8, h9⟩ := h
  refine ⟨h1.fr (fun r r0 r1 => f r (by omega)), by rw [f 133 (by omega)]; exact h2, h3.fr (by rw [f 11 (by omega)]) (f 12 (by omega)) (by rw [f 132 (by omega)]) (f 134 (by omega)), h4.fr (fun r r0 r1 => f r (by omega)), h5, h6, by rw [f 132 (by omega)]; exact h7, h8.fr (by rw [f 10 (by omega)]) (by rw [f 132 (by omega)]) (fun r r0 r1 => f r (by omega)), h9.fr (fun r hr => f r (by omega))⟩
theorem INV.r {s : zD P} (h : INV d F B T) (f : rF d s) : INV s F B T := by
  obtain ⟨h1, h2, h3, h4, h5, h6, h7, h8, h9⟩ := h
  refine ⟨h1.fr (fun r r0 r1 => f.1 r (by omega)), by rw [f.2.1]; exact h2, h3.fr (by rw [f.1 11 (by omega)]) (f.1 12 (by omega)) f.2.2.2.2.1 f.2.2.1, h4.fr (fun r r0 r1 => f.1 r (by omega)), h5, h6, by rw [f.2.2.2.2.2]; exact h7, h8.fr (by rw [f.1 10 (by omega)]) f.2.2.2.1 (fun r r0 r1 => f.1 r (by omega)), h9.fr (fun r hr => f.1 r (by omega))⟩
/-- both answer alike, and go on alike -/
def BO (d : zD P) (X M : zD P → Option (Int × zD P)) : Prop := ∃ v s s' F B T, X d = some (v, s) ∧ M s = some (v, s') ∧ INV s' F B T
theorem BO_ro {X M : zD P → Option (Int × zD P)} {R : Int → Prop} (h : INV d F B T) (hX : Ok (X d) (fun v s => R v ∧ qF d s)) (hM : ∀ s, INV s F B T → Ok (M s) (fun v s' => R v ∧ rF s s')) (uni : ∀ v v', R v → R v' → v = v') : BO d X M := by
  obtain ⟨v, s, e, r, f⟩ := hX
  have hs := h.q f
  obtain ⟨v', s', e', r', f'⟩ := hM s hs
  have ev := uni v v' r r'
  exact ⟨v, s, s', F, B, T, e, by rw [ev]; exact e', hs.r f'⟩
theorem BO_a {X M : zD P → Option (Int × zD P)} (a : Int) (h : INV d F B T) (hX : Ok (X d) (fun v s => v = a ∧ qF d s)) (hM : ∀ s, INV s F B T → Ok (M s) (fun v s' => v = a ∧ rF s s')) : BO d X M := BO_ro h hX hM (fun _ _ e e' => e.trans e'.symm)
/-- checks of the class -/
theorem kc_pair (h : CA d F) {p : Int} (hp : I32 p) : wl_isPair d p = some (bi (decide (0 ≤ p ∧ p < prs F)), d) := by
  have p24 := h.wf.prs_
  unfold I32 at hp
  rw [wl_isPair_e, h.prs_]
  by_cases a : p < 0
  · rw [if_pos (by rw [wr_id (by omega)]; exact a), bi_f (by omega)]
  · rw [if_neg (by rw [wr_id (by omega)]; exact a)]
    by_cases b : prs F ≤ p
    · rw [if_pos (by rw [wr_id (by omega), wr_id (by omega)]; exact b), bi_f (by omega)]
    · rw [if_neg (by rw [wr_id (by omega), wr_id (by omega)]; exact b), bi_t (by omega)]
theorem kc_word (h : CA d F) {s w : Int} (hs : I32 s) (hp : I32 w) : wl_isWord d s w = some (bi (decide ((0 ≤ s ∧ s ≤ 1) ∧ 0 ≤ w ∧ w < wds F s)), d) := by
  have zz : wr 0 = 0 := rfl
  have oz : ¬ wr 1 = 0 := by rw [wr_id (by omega)]; omega
  have hp' := hp
  unfold I32 at hp'
  rw [wl_isWord_e, kw_isSide hs, Option.bind_some]
  (try dsimp only)
  by_cases c : 0 ≤ s ∧ s ≤ 1
  · have w40 := h.wf.wds_ (s := s) c.1 (by omega)
    have z2 : zin s 2 := of_eq_true (zinT (by omega))
    rw [bi_t c, if_neg oz]
    by_cases a : w < 0
    · rw [if_pos (by rw [wr_id (by omega)]; exact a), bi_f (by omega)]
    · rw [if_neg (by rw [wr_id (by omega)]; exact a), if_pos z2, h.wds_ c.1 (by omega)]
      by_cases b : wds F s ≤ w
      · rw [if_pos (by rw [wr_id (by omega), wr_id (by omega)]; exact b), bi_f (by omega)]
      · rw [if_neg (by rw [wr_id (by omega), wr_id (by omega)]; exact b), bi_t ⟨c, by omega⟩]
  · rw [bi_f c, if_pos zz, bi_f (fun hh => c hh.1)]
theorem kc_place (h : CA d F) {p s i : Int} (s0 : 0 ≤ s) (s1 : s < 2) (hp : I32 p) (hi : I32 i) : wl_isPlace d p s i = some (bi (decide ((0 ≤ p ∧ p < prs F) ∧ 0 ≤ i ∧ i < lng F p s)), d) := by
  have zz : wr 0 = 0 := rfl
  have oz : ¬ wr 1 = 0 := by rw [wr_id (by omega)]; omega
  have hi' := hi
  unfold I32 at hi'
  have p24 := h.wf.prs_
  rw [wl_isPlace_e, kc_pair h hp, Option.bind_some]
  (try dsimp only)
  by_cases c : 0 ≤ p ∧ p < prs F
  · have l := h.wf.lng_ (p := p) (s := s) c.1 c.2 s0 s1
    have z2 : zin s 2 := of_eq_true (zinT (by omega))
    have z24 : zin p 24 := of_eq_true (zinT (by omega))
    rw [bi_t c, if_neg oz]
    by_cases a : i < 0
    · rw [if_pos (by rw [wr_id (by omega)]; exact a), bi_f (by omega)]
    · rw [if_neg (by rw [wr_id (by omega)]; exact a), if_pos z2, if_pos z24, h.lng_ s0 s1 c.1 c.2]
      by_cases b : lng F p s ≤ i
      · rw [if_pos (by rw [wr_id (by omega), wr_id (by omega)]; exact b), bi_f (by omega)]
      · rw [if_neg (by rw [wr_id (by omega), wr_id (by omega)]; exact b), bi_t ⟨c, by omega⟩]
  · rw [bi_f c, if_pos zz, bi_f (fun hh => c hh.1)]
end
