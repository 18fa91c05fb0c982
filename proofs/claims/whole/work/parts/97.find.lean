/-! FIND, both sides. -/
def fnC (T side n : Int) : Prop := (0 ≤ side ∧ side ≤ 1) ∧ (1 ≤ n ∧ n ≤ 7) ∧ n ≤ T
def fnA (F : Nat → Int) (H : Int → Int) (side n : Int) : Int := if wln H 0 = n ∧ nuW F side (kyW H 0) ≠ -1 then nuW F side (kyW H 0) else -2
theorem nuW_neg {F : Nat → Int} {s : Int} (hv : VW F s) : nuW F s (-1) = -1 := by
  rcases nuW_le (F := F) (s := s) (K := -1) hv.1.1 with e | e
  · exact e
  · have := key_b hv e.1 e.2.1
    omega
section
variable {P : zP} {d t : zD P} {F : Nat → Int}
theorem kw_isSide {a : Int} (h : I32 a) : wl_isSide d a = some (bi (decide (0 ≤ a ∧ a ≤ 1)), d) := by
  unfold I32 at h
  rw [wl_isSide_e, wr_id (by omega), wr_id (by omega)]
  by_cases c : a = 0
  · rw [if_pos c, bi_t (by omega)]
  · rw [if_neg c]
    by_cases c1 : a = 1
    · rw [if_neg (fun hh => hh c1), bi_t (by omega)]
    · rw [if_pos c1, bi_f (by omega)]
theorem k_find (hc : CA d F) {B : Int → Int} {T side n : Int} (h : TQ d B T) (h1 : I32 side) (h2 : I32 n) : Ok (wl_find d side n) (fun v s => (fnC T side n → v = fnA F (cutB B n) side n ∧ Fx (fun r => r = 11) d s ∧ s.m 11 1 = 0) ∧ (¬ fnC T side n → v = -1 ∧ s = d)) := by
  have zz : wr 0 = 0 := rfl
  have oz : ¬ wr 1 = 0 := by rw [wr_id (by omega)]; omega
  have hT := h.2.2.1
  have hn := h2
  unfold I32 at hn
  have no : ¬ fnC T side n → Ok (some (-1, d)) (fun v s => (fnC T side n → v = fnA F (cutB B n) side n ∧ Fx (fun r => r = 11) d s ∧ s.m 11 1 = 0) ∧ (¬ fnC T side n → v = -1 ∧ s = d)) := fun hn => Ok_ret ⟨fun hh => absurd hh hn, fun _ => ⟨rfl, rfl⟩⟩
  rw [wl_find_e, kw_isSide h1, Option.bind_some]
  (try dsimp only)
  by_cases c1 : 0 ≤ side ∧ side ≤ 1
  · have hv := hc.wf.vw (s := side) c1.1 (by omega)
    rw [bi_t c1, if_neg oz, wr_id (x := n) (by omega), wr_id (x := 7) (by omega), wr_id (x := 1) (by omega)]
    by_cases a1 : n < 1
    · rw [if_pos a1]
      exact no (fun hh => by have := hh.2.1; omega)
    rw [if_neg a1]
    by_cases a2 : 7 < n
    · rw [if_pos a2]
      exact no (fun hh => by have := hh.2.1; omega)
    rw [if_neg a2, k_holds h.1 hT h2, Option.bind_some]
    (try dsimp only)
    by_cases a3 : n ≤ T
    · have hC : fnC T side n := ⟨c1, by omega, a3⟩
      have sg := cutB_s h.n (n := n) (by omega) a3
      have z2 : zin side 2 := of_eq_true (zinT (by omega))
      rw [bi_t a3, if_pos oz]
      refine Ok_bind (k_readLone h.1 (cutB_k h a3) sg a3 hT.2) (fun v s f => ?_)
      obtain ⟨u, e, fu, hu1, hu3, hu4⟩ := k_clear (t := s)
      have fx : Fx (fun r => r = 11) d u := f.1.tr fu
      have ca : CA u F := hc.fr (fun r r0 r1 => fx r (by omega))
      have kb : -1 ≤ v ∧ v < 34359738368 := by
        rw [f.2.2]
        split
        · rename_i q
          have := kyW_b (H := cutB B n) (q := 0) (by omega)
          omega
        · omega
      have w40 := hv.1
      have nl := nuW_le (F := F) (s := side) (K := v) hv.1.1
      (try dsimp only)
      rw [e, Option.bind_some]
      (try dsimp only)
      rw [if_pos z2, ca.wds_ c1.1 (by omega), k_number ca c1.1 (by omega) kb, Option.bind_some]
      (try dsimp only)
      rw [wr_id (by omega)]
      have ans : (if 0 ≤ nuW F side v then nuW F side v else -2) = fnA F (cutB B n) side n := by
        unfold fnA
        by_cases q : wln (cutB B n) 0 = n
        · have ev : v = kyW (cutB B n) 0 := by rw [f.2.2, if_pos q]
          rw [← ev]
          by_cases q2 : nuW F side v = -1
          · rw [if_neg (by omega), if_neg (fun hh => hh.2 q2)]
          · rw [if_pos (by omega), if_pos ⟨q, q2⟩]
        · have ev : v = -1 := by rw [f.2.2, if_neg q]
          rw [ev, nuW_neg hv, if_neg (by omega), if_neg (fun hh => q hh.1)]
      by_cases q : 0 ≤ nuW F side v
      · rw [if_pos q] at ans ⊢
        exact Ok_ret ⟨fun _ => ⟨ans, fx, hu1⟩, fun hh => absurd hC hh⟩
      · rw [if_neg q] at ans ⊢
        exact Ok_ret ⟨fun _ => ⟨ans, fx, hu1⟩, fun hh => absurd hC hh⟩
    · rw [bi_f a3, if_neg (fun hh => hh zz)]
      exact no (fun hh => a3 hh.2.2)
  · rw [bi_f c1, if_pos zz]
    exact no (fun hh => c1 hh.1)
theorem n_numNone (hF : t.m 133 = F) {s hn : Int} {hl : Int → Int} (s0 : 0 ≤ s) (s1 : s < 2) (hv : VW F s) (hh : hnd t hn hl) (n1 : 1 ≤ hn ∧ hn ≤ 7) (hb : ∀ k, 0 ≤ k → k < hn → 0 ≤ hl k ∧ hl k ≤ 255) {j : Int} (j0 : 0 ≤ j) (j1 : j < hn) (hj : ¬ (97 ≤ hl j ∧ hl j ≤ 122)) : m_numberOfHand t s = some (-1, t) := by
  have zz : wr 0 = 0 := rfl
  have v40 := hv.1
  have e : first (wds F s) (fun _ => false) = -1 := by
    rcases first_range (p := fun _ => false) (n := wds F s) v40.1 with q | q
    · exact q
    · exact absurd q.2.2 (by decide)
  rw [m_numberOfHand_e]
  have main : m_numberOfHand_2 t s 0 = some (first (wds F s) (fun _ => false), t) := by
    refine lpF (fun k => m_numberOfHand_2 t s k) (fun v => some (v, t)) (fun _ => false) (wds F s) ?_ (fun k k0 k1 => ?_) v40.1
    · (try dsimp only)
      rw [m_numberOfHand_2_e, n_words hF s0 s1, Option.bind_some]
      (try dsimp only)
      rw [if_pos (by omega)]
    · obtain ⟨b, eb, hbt⟩ := n_isHand hF s0 s1 hv k0 k1 hh n1 hb
      have bf : b = false := by
        cases b
        · rfl
        · have x := hbt.mp rfl
          have y := (hv.2 k k0 k1).2.2 j j0 (by omega)
          (try dsimp only at y)
          rw [x.2 j j0 j1] at y
          exact absurd y hj
      (try dsimp only)
      rw [m_numberOfHand_2_e, n_words hF s0 s1, Option.bind_some]
      (try dsimp only)
      rw [if_neg (by rw [wr_id (by omega), wr_id (by omega)]; omega), eb, bf, Option.bind_some]
      (try dsimp only)
      rw [if_pos (show wr (bi false) = 0 from zz), if_neg (by decide)]
  rw [main, e]
theorem n_find (hF : d.m 133 = F) (hw : WF F) {B : Int → Int} {T side n : Int} (h : TN d B T) (h8 : d.m 132 8 = 0) (h1 : I32 side) (h2 : I32 n) : Ok (m_find d side n) (fun v s => (fnC T side n → v = fnA F (cutB B n) side n ∧ nF d s ∧ s.m 133 = d.m 133 ∧ s.m 132 3 = 0) ∧ (¬ fnC T side n → v = -1 ∧ s = d)) := by
  have zz : wr 0 = 0 := rfl
  have oz : ¬ wr 1 = 0 := by rw [wr_id (by omega)]; omega
  have hT := h.2.1
  have hn := h2
  unfold I32 at hn
  have no : ¬ fnC T side n → Ok (some (-1, d)) (fun v s => (fnC T side n → v = fnA F (cutB B n) side n ∧ nF d s ∧ s.m 133 = d.m 133 ∧ s.m 132 3 = 0) ∧ (¬ fnC T side n → v = -1 ∧ s = d)) := fun hn => Ok_ret ⟨fun hh => absurd hh hn, fun _ => ⟨rfl, rfl⟩⟩
  rw [m_find_e, n_isSide h1, Option.bind_some]
  (try dsimp only)
  by_cases c1 : 0 ≤ side ∧ side ≤ 1
  · have hv := hw.vw (s := side) c1.1 (by omega)
    rw [bi_t c1, if_neg oz, n_in (by unfold I32; omega), Option.bind_some]
    (try dsimp only)
    by_cases c2 : 1 ≤ n ∧ n ≤ 7
    · rw [bi_t c2, if_neg oz, h.1, wr_id (by omega), wr_id (by omega)]
      by_cases a3 : n ≤ T
      · have hC : fnC T side n := ⟨c1, c2, a3⟩
        have sg := cutB_s h (n := n) (by omega) a3
        have z08 : zin 0 8 := of_eq_true (zinT (by omega))
        rw [if_pos a3, if_pos z08]
        refine lpD (fun k s => m_find_21 s side n k) (fun k s => nF d s ∧ s.m 133 = d.m 133 ∧ s.m 134 = d.m 134 ∧ s.m 135 (zix 0) = n ∧ ∀ j, 0 ≤ j → j < k → s.m 135 (zix (1 + j)) = cutB B n j) 0 n (by omega) _ ⟨nF.rf.up (by decide), up_ne (by decide), up_ne (by decide), by rw [u_135, zfu_z (by omega), if_pos rfl], fun j j0 j1 => by omega⟩ (fun s hi => ?_) (fun k s k0 k1 hi hnext => ?_)
        · obtain ⟨i1, i2, i3, i4, i5⟩ := hi
          (try dsimp only)
          rw [m_find_21_e, if_pos (by omega)]
          have hh : hnd (s.up 132 3 0) n (cutB B n) := ⟨by rw [up_ne (by decide)]; exact i4, fun k k0 k1 => by rw [up_ne (by decide)]; exact i5 k k0 k1⟩
          have eF : (s.up 132 3 0).m 133 = F := by rw [up_ne (by decide), i2, hF]
          have e3 : (s.up 132 3 0).m 132 3 = 0 := by rw [u_132_3, zfu_n, if_pos rfl]
          have f3 : nF d (s.up 132 3 0) := i1.up3
          generalize s.up 132 3 0 = u at hh eF e3 f3 ⊢
          have wl := wln_le (H := cutB B n) (q := 0)
          have bb : ∀ k, 0 ≤ k → k < n → 0 ≤ cutB B n k ∧ cutB B n k ≤ 255 := sg.1
          have ww := sg.wl (q := 0) (by omega) sg.2.2.1
          by_cases q : wln (cutB B n) 0 = n
          · have ok := kyW_ok (H := cutB B n) (q := 0) (by omega)
            rw [q] at ok
            have ke : kyW (cutB B n) 0 = kof n (fun k => cutB B n (0 + k)) := by unfold kyW; rw [q]
            have ok' : gOK n (cutB B n) := ⟨ok.1, fun k k0 k1 => by have := ok.2 k k0 k1; (try dsimp only at this); rw [Int.zero_add] at this; exact this⟩
            have ke' : kyW (cutB B n) 0 = kof n (cutB B n) := by rw [ke]; exact kof_co (by omega) (fun k _ _ => by (try dsimp only); rw [Int.zero_add])
            have nm := n_numHand eF c1.1 (by omega) hv hh (by omega) ok'
            rw [← ke'] at nm
            have nl := nuW_le (F := F) (s := side) (K := kyW (cutB B n) 0) hv.1.1
            have w40 := hv.1
            rw [nm, Option.bind_some]
            show Ok (if wr (nuW F side (kyW (cutB B n) 0)) ≠ wr (-1) then some (nuW F side (kyW (cutB B n) 0), u) else some (-2, u)) _
            rw [wr_id (by omega), wr_id (by omega)]
            by_cases q2 : nuW F side (kyW (cutB B n) 0) = -1
            · rw [if_neg (fun hh => hh q2)]
              refine Ok_ret ⟨fun _ => ⟨?_, f3, eF.trans hF.symm, e3⟩, fun hh => absurd hC hh⟩
              unfold fnA
              rw [if_neg (fun hh => hh.2 q2)]
            · rw [if_pos q2]
              refine Ok_ret ⟨fun _ => ⟨?_, f3, eF.trans hF.symm, e3⟩, fun hh => absurd hC hh⟩
              unfold fnA
              rw [if_pos ⟨q, q2⟩]
          · have ne1 : wln (cutB B n) 0 ≠ -1 := fun hh => by have := ww.2 hh; omega
            have lt : wln (cutB B n) 0 < n := by have := ww.1 ne1; omega
            have E := wln_E (H := cutB B n) (q := 0) ne1
            rw [Int.zero_add] at E
            rw [n_numNone eF c1.1 (by omega) hv hh (by omega) bb (j := wln (cutB B n) 0) (by omega) lt E, Option.bind_some]
            (try dsimp only)
            rw [if_neg (fun hh => hh rfl)]
            refine Ok_ret ⟨fun _ => ⟨?_, f3, eF.trans hF.symm, e3⟩, fun hh => absurd hC hh⟩
            unfold fnA
            rw [if_neg (fun hh => q hh.1)]
        · obtain ⟨i1, i2, i3, i4, i5⟩ := hi
          have z240 : zin k 240 := of_eq_true (zinT (by omega))
          have z8 : zin (1 + k) 8 := of_eq_true (zinT (by omega))
          (try dsimp only)
          rw [m_find_21_e, if_neg (by rw [wr_id (by omega), wr_id (by omega)]; omega), if_pos z240, if_pos z8, i3, cutB_n h a3 k k0 k1]
          refine hnext _ ?_
          refine ⟨i1.up (by decide), by rw [up_ne (by decide)]; exact i2, by rw [up_ne (by decide)]; exact i3, ?_, fun j j0 j1 => ?_⟩
          · rw [u_135, zfu_z (by omega), if_neg (by omega)]; exact i4
          · rw [u_135, zfu_z (by omega)]
            by_cases e : j = k
            · rw [if_pos (by omega), e]
            · rw [if_neg (by omega)]; exact i5 j j0 (by omega)
      · rw [if_neg a3]
        exact no (fun hh => a3 hh.2.2)
    · rw [bi_f c2, if_pos zz]
      exact no (fun hh => c2 hh.2.1)
  · rw [bi_f c1, if_pos zz]
    exact no (fun hh => c1 hh.1)
end
