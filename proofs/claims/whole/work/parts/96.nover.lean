/-! OVER, the model whole. -/
section
variable {P : zP} {d t : zD P} {F : Nat → Int}
noncomputable def ovG (d : zD P) (kind n w : Int) : Option (Int × zD P) := (m_readsSaid (d.up 132 3 0) n).bind fun q4 => if wr q4.1 ≠ 0 then (m_findsPhrases q4.2 kind).bind fun q5 => (m_putsOver q5.2).bind fun q6 => if wr w ≠ 0 then if wr w ≠ wr 1 then (m_putOver q6.2 w).bind fun q7 => some (q7.1, q7.2) else if zin 0 9 then some (q6.2.m 157 (zix 0), q6.2) else none else if zin 0 9 then some (q6.2.m 156 (zix 0), q6.2) else none else some (-2, q4.2)
def ovN (t s : zD P) : Prop := (∀ r, r < 132 → s.m r = t.m r) ∧ s.m 133 = t.m 133 ∧ s.m 132 1 = t.m 132 1 ∧ s.m 132 8 = t.m 132 8 ∧ s.m 132 3 = 0
theorem n_overG (hF : d.m 133 = F) (hw : WF F) {B : Int → Int} {T kind n w : Int} (h : TN d B T) (h8 : d.m 132 8 = 0) (hC : ovC T kind n w) : Ok (ovG d kind n w) (fun v s => ovR F B kind n w v ∧ ovN d s) := by
  have zz : wr 0 = 0 := rfl
  have oz : ¬ wr 1 = 0 := by rw [wr_id (by omega)]; omega
  obtain ⟨hw0, hk, hn, hnT⟩ := hC
  have hv := hw.vw (s := 0) (by omega) (by omega)
  have sg := cutB_s h (n := n) (by omega) hnT
  have s0 := sen_0 (q := 0) sg 8 (by omega) sg.2.2.1
  have sv := svd_ok (F := F) (q := 0) sg 8 0 (by omega) (by rw [wst_0]; omega) (by rw [wst_0]; exact sg.2.2.1)
  rw [wst_0] at sv
  unfold ovG
  rw [m_readsSaid_e]
  have hs : src d (cutB B n) n := Or.inl ⟨h8, cutB_n h hnT⟩
  have e8 : ∀ j, j ≠ 3 → j ≠ 4 → j ≠ 5 → j ≠ 35 → ((((d.up 132 3 0).up 132 4 0).up 132 5 n).up 132 35 0).m 132 j = d.m 132 j := fun j j1 j2 j3 j4 => by
    rw [u_132_35, zfu_n, if_neg j4, u_132_5, zfu_n, if_neg j3, u_132_4, zfu_n, if_neg j2, u_132_3, zfu_n, if_neg j1]
  have er : ∀ r', r' ≠ 132 → ((((d.up 132 3 0).up 132 4 0).up 132 5 n).up 132 35 0).m r' = d.m r' := fun r' hr' => by
    rw [up_ne hr', up_ne hr', up_ne hr', up_ne hr']
  have e3 : ((((d.up 132 3 0).up 132 4 0).up 132 5 n).up 132 35 0).m 132 3 = 0 := by
    rw [u_132_35, zfu_n, if_neg (by decide), u_132_5, zfu_n, if_neg (by decide), u_132_4, zfu_n, if_neg (by decide), u_132_3, zfu_n, if_pos rfl]
  have hr : mR ((((d.up 132 3 0).up 132 4 0).up 132 5 n).up 132 35 0) (cutB B n) n (wst (cutB B n) 0 0) := by
    rw [wst_0]
    refine ⟨⟨?_, ?_⟩, ?_, sg, Int.le_refl _, sg.2.2.1⟩
    · rw [u_132_35, zfu_n, if_neg (by decide), u_132_5, zfu_n, if_neg (by decide), u_132_4, zfu_n, if_pos rfl]
    · rw [u_132_35, zfu_n, if_neg (by decide), u_132_5, zfu_n, if_pos rfl]
    · unfold src at hs ⊢
      rw [e8 8 (by decide) (by decide) (by decide) (by decide), er 134 (by decide), er 133 (by decide)]
      exact hs
  have e35 : ((((d.up 132 3 0).up 132 4 0).up 132 5 n).up 132 35 0).m 132 35 = 0 := by rw [u_132_35, zfu_n, if_pos rfl]
  have e1 := e8 1 (by decide) (by decide) (by decide) (by decide)
  have e88 := e8 8 (by decide) (by decide) (by decide) (by decide)
  generalize (((d.up 132 3 0).up 132 4 0).up 132 5 n).up 132 35 0 = u at e1 e88 e3 er hr e35 ⊢
  have nx := n_said (F := F) (H := cutB B n) (n := n) hw 8 0 u (0, n) (by omega) (by omega) (by rw [er 133 (by decide)]; exact hF) hr e35 (fun i i0 i1 => by omega)
  rw [wst_0] at nx
  refine Ok_bind nx (fun v s f => ?_)
  obtain ⟨fa, fb, fc⟩ := f
  have ov1 : ovN d s := ⟨fun r hr' => by rw [fa.1 r (by omega) (by omega) (by omega)]; exact er r (by omega), by rw [fa.1 133 (by decide) (by decide) (by decide)]; exact er 133 (by decide), by rw [fa.2 1 (by decide) (by decide) (by decide) (by decide)]; exact e1, by rw [fa.2 8 (by decide) (by decide) (by decide) (by decide)]; exact e88, by rw [fa.2 3 (by decide) (by decide) (by decide) (by decide)]; exact e3⟩
  (try dsimp only)
  cases good : svd (cutB B n) F n 8 0
  · rw [fb, good, if_neg (fun hh => hh (show wr (bi false) = 0 from rfl))]
    exact Ok_ret ⟨⟨fun hh => absurd (good.symm.trans hh) (by decide), fun _ => rfl⟩, ov1⟩
  · have g2 := fc good
    have gg := sv.mp good
    have sF : s.m 133 = F := ov1.2.1.trans hF
    have s2 := s0.2 gg.1
    rw [fb, good, if_pos (show wr (bi true) ≠ 0 from oz)]
    refine Ok_bind (n_findsPhrases sF hw hk.1 hk.2) (fun v3 s3 f3 => ?_)
    obtain ⟨f3a, K, B', n', n54, hqm, htab⟩ := f3
    have hphT : phT F kind K B' n' := ⟨n54, htab⟩
    have L0 : 0 ≤ sdN (cutB B n) ∧ sdN (cutB B n) ≤ 8 := by unfold sdN; omega
    have oq : oQ s3 K B' n' (sdW F (cutB B n)) (sdN (cutB B n)) := by
      refine ⟨hqm, by rw [f3a.2 35 (by decide)]; exact g2.1, fun i i0 i1 => ?_⟩
      have hi := g2.2 i i0 i1
      have nl := nuW_le (F := F) (s := 0) (K := kyW (cutB B n) (wst (cutB B n) 0 i)) hv.1.1
      have w40 := hv.1
      have ne := gg.2.2 i i0 i1
      rw [f3a.1 155 (by omega) (by decide)]
      refine ⟨hi, ?_⟩
      unfold sdW
      omega
    (try dsimp only)
    refine Ok_bind (n_putsOver hw hphT L0.1 L0.2 oq) (fun v4 s4 f4 => ?_)
    have ov4 : ovN d s4 := ⟨fun r hr' => by rw [f4.1 r (by omega), f3a.1 r (by omega) (by omega)]; exact ov1.1 r hr', by rw [f4.1 133 (by omega), f3a.1 133 (by omega) (by omega)]; exact ov1.2.1, by rw [f4.1 132 (by omega), f3a.2 1 (by decide)]; exact ov1.2.2.1, by rw [f4.1 132 (by omega), f3a.2 8 (by decide)]; exact ov1.2.2.2.1, by rw [f4.1 132 (by omega), f3a.2 3 (by decide)]; exact ov1.2.2.2.2⟩
    have oq4 := oq.fr f4.1
    (try dsimp only)
    rw [wr_id (x := w) (by omega), wr_id (x := 1) (by omega)]
    have z9 : zin 0 9 := of_eq_true (zinT (by omega))
    have pos : ∀ v, ovV K (fun j => s4.m 156 (zix j)) (fun j => s4.m 157 (zix j)) (fun j => s4.m 158 (zix j)) w v → ovR F B kind n w v := fun v hv => ⟨fun _ => ⟨K, B', n', _, _, _, hphT, f4.2.1, f4.2.2, hv⟩, fun hh => absurd good hh⟩
    by_cases w0 : w = 0
    · rw [if_neg (fun hh => hh w0), if_pos z9]
      refine Ok_ret ⟨pos _ ?_, ov4⟩
      unfold ovV
      rw [if_pos w0]
    · rw [if_pos w0]
      by_cases w1 : w = 1
      · rw [if_neg (fun hh => hh w1), if_pos z9]
        refine Ok_ret ⟨pos _ ?_, ov4⟩
        unfold ovV
        rw [if_neg w0, if_pos w1]
      · rw [if_pos w1]
        refine Ok_bind (n_walk hw hphT L0.1 L0.2 oq4 f4.2 (by omega)) (fun v5 s5 f5 => ?_)
        obtain ⟨rfl, hv5⟩ := f5
        exact Ok_ret ⟨pos _ hv5, ov4⟩
theorem n_over (hF : d.m 133 = F) (hw : WF F) {B : Int → Int} {T kind n w : Int} (h : TN d B T) (h8 : d.m 132 8 = 0) (h1 : I32 kind) (h2 : I32 n) (h3 : I32 w) : Ok (m_over d kind n w) (fun v s => (ovC T kind n w → ovR F B kind n w v ∧ ovN d s) ∧ (¬ ovC T kind n w → v = -1 ∧ s = d)) := by
  have zz : wr 0 = 0 := rfl
  have oz : ¬ wr 1 = 0 := by rw [wr_id (by omega)]; omega
  have hT := h.2.1
  have hw' := h3
  have hn' := h2
  unfold I32 at hw' hn'
  have no : ¬ ovC T kind n w → Ok (some (-1, d)) (fun v s => (ovC T kind n w → ovR F B kind n w v ∧ ovN d s) ∧ (¬ ovC T kind n w → v = -1 ∧ s = d)) := fun hn => Ok_ret ⟨fun hh => absurd hh hn, fun _ => ⟨rfl, rfl⟩⟩
  have key : ∀ b : Int, (b = 0 ∨ b = 1) → (b = 1 ↔ (w = 0 ∨ w = 1 ∨ w = 2 ∨ (10 ≤ w ∧ w ≤ 17) ∨ (100 ≤ w ∧ w ≤ 123))) → Ok ((m_isKind d kind).bind fun q2 => if wr q2.1 = 0 then some (-1, q2.2) else (m_in q2.2 n 1 80).bind fun q3 => if wr q3.1 = 0 then some (-1, q3.2) else if wr b = 0 then some (-1, q3.2) else if wr n ≤ wr (q3.2.m 132 3) then ovG q3.2 kind n w else some (-1, q3.2)) (fun v s => (ovC T kind n w → ovR F B kind n w v ∧ ovN d s) ∧ (¬ ovC T kind n w → v = -1 ∧ s = d)) := fun b hb hbw => by
    rw [n_isKind h1, Option.bind_some]
    (try dsimp only)
    by_cases c1 : 0 ≤ kind ∧ kind ≤ 5
    · rw [bi_t c1, if_neg oz, n_in (by unfold I32; omega), Option.bind_some]
      (try dsimp only)
      by_cases c2 : 1 ≤ n ∧ n ≤ 80
      · rw [bi_t c2, if_neg oz]
        rcases hb with rfl | rfl
        · rw [if_pos zz]
          exact no (fun hh => absurd (hbw.mpr hh.1) (by decide))
        · rw [if_neg oz, h.1, wr_id (by omega), wr_id (by omega)]
          by_cases c3 : n ≤ T
          · rw [if_pos c3]
            have hC : ovC T kind n w := ⟨hbw.mp rfl, c1, c2, c3⟩
            exact Ok_mono (n_overG hF hw h h8 hC) (fun v s f => ⟨fun _ => f, fun hh => absurd hC hh⟩)
          · rw [if_neg c3]
            exact no (fun hh => c3 hh.2.2.2)
      · rw [bi_f c2, if_pos zz]
        exact no (fun hh => c2 hh.2.2.1)
    · rw [bi_f c1, if_pos zz]
      exact no (fun hh => c1 hh.2.1)
  rw [m_over_e, n_in (by unfold I32; omega), Option.bind_some]
  (try dsimp only)
  by_cases b1 : 0 ≤ w ∧ w ≤ 2
  · rw [bi_t b1, if_pos oz]
    exact key 1 (Or.inr rfl) ⟨fun _ => by omega, fun _ => rfl⟩
  · rw [bi_f b1, if_neg (fun hh => hh zz), n_in (by unfold I32; omega), Option.bind_some]
    (try dsimp only)
    by_cases b2 : 10 ≤ w ∧ w ≤ 17
    · rw [bi_t b2, if_pos oz]
      exact key 1 (Or.inr rfl) ⟨fun _ => by omega, fun _ => rfl⟩
    · rw [bi_f b2, if_neg (fun hh => hh zz), n_in (by unfold I32; omega), Option.bind_some]
      (try dsimp only)
      by_cases b3 : 100 ≤ w ∧ w ≤ 123
      · rw [bi_t b3, if_neg oz]
        exact key 1 (Or.inr rfl) ⟨fun _ => by omega, fun _ => rfl⟩
      · rw [bi_f b3, if_pos zz]
        exact key 0 (Or.inl rfl) ⟨fun hh => absurd hh (by decide), fun hh => by omega⟩
end
