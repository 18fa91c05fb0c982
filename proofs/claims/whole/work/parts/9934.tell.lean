/-! LINKS TOLD, both sides. -/
theorem z_xor : ∀ x : Nat, x < 64 → ∀ j : Nat, j < 6 → 0 ≤ zbin 5 x (zbin 6 1 j) ∧ zbin 5 x (zbin 6 1 j) < 64 := by decide +kernel
theorem xor6 {x j : Int} (hx : 0 ≤ x ∧ x < 64) (j0 : 0 ≤ j) (j1 : j < 6) : 0 ≤ zbin 5 x (zbin 6 1 j) ∧ zbin 5 x (zbin 6 1 j) < 64 := by
  obtain ⟨n, rfl⟩ := Int.eq_ofNat_of_zero_le hx.1
  obtain ⟨m, rfl⟩ := Int.eq_ofNat_of_zero_le j0
  exact z_xor n (by omega) m (by omega)
section
variable {P : zP} {d t : zD P} {F G : Nat → Int} {B : Int → Int} {T : Int}
theorem k_setTold (h : CA d F) {p i j b : Int} (p0 : 0 ≤ p) (p1 : p < prs F) (i0 : 0 ≤ i) (i1 : i < 6) (j0 : 0 ≤ j) (j1 : j < 6) (hb : b = 0 ∨ b = 1) : co_setTold d p i j b = if bi (tb (tld F p i) j) = b then some (0, d) else some (1, d.up 28 (zix ((p * 6) + i)) (zbin 5 (tld F p i) (zbin 6 1 j))) := by
  have p24 := h.wf.prs_
  have y : zin ((p * 6) + i) 144 := of_eq_true (zinT (by omega))
  have tl := h.wf.tld_ p0 p1 i0 i1
  have e8 : zbin 3 (zbin 8 (tld F p i) j) 1 = bi (tb (tld F p i) j) := ibit8 (by omega)
  rw [co_setTold_e, if_pos y, h.tld_ p0 p1 i0 i1, e8, if_pos y, if_pos y]
  rcases hb with rfl | rfl
  · rw [if_pos zz0]
    cases tb (tld F p i) j
    · rw [if_neg (fun x => x rfl), if_pos (show bi false = 0 from rfl)]
    · rw [if_pos (by rw [show bi true = 1 from rfl, wr_id (by omega), wr_id (by omega)]; omega), if_neg (by decide)]
  · rw [if_neg oz1]
    cases tb (tld F p i) j
    · rw [if_pos (by rw [show bi false = 0 from rfl, wr_id (by omega), wr_id (by omega)]; omega), if_neg (by decide)]
    · rw [if_neg (fun x => x rfl), if_pos (show bi true = 1 from rfl)]
theorem b_tell (h : INV d F B T) {p i j b : Int} (hp : I32 p) (hi : I32 i) (hj : I32 j) (hb : b = 0 ∨ b = 1) : BO d (fun d => wl_tell d p i j b) (fun d => m_tell d p i j b) := by
  have hw := h.wf
  have p24 := hw.prs_
  have hi' := hi
  have hj' := hj
  unfold I32 at hi' hj'
  by_cases c1 : 0 ≤ p ∧ p < prs F
  · have l0 := hw.lng_ c1.1 c1.2 (s := 0) (by omega) (by omega)
    have l1 := hw.lng_ c1.1 c1.2 (s := 1) (by omega) (by omega)
    by_cases c2 : 0 ≤ i ∧ i < lng F p 0
    · by_cases c3 : 0 ≤ j ∧ j < lng F p 1
      · have tl := hw.tld_ c1.1 c1.2 c2.1 (show i < 6 by omega)
        have x6 := xor6 (x := tld F p i) (j := j) tl c3.1 (by omega)
        by_cases c4 : bi (tb (tld F p i) j) = b
        · refine BO_a (-2) h ?_ (fun s hs => ?_)
          · (try dsimp only)
            rw [wl_tell_e, kc_place h.ci.ca (by omega) (by omega) hp hi, bi_t (by omega), Option.bind_some]
            (try dsimp only)
            rw [if_neg oz1, kc_place h.ci.ca (by omega) (by omega) hp hj, bi_t (by omega), Option.bind_some]
            (try dsimp only)
            rw [if_pos oz1, k_setTold h.ci.ca c1.1 c1.2 c2.1 (by omega) c3.1 (by omega) hb, if_pos c4, Option.bind_some]
            (try dsimp only)
            rw [if_pos zz0]
            exact Ok_ret ⟨rfl, qF.rf⟩
          · (try dsimp only)
            rw [m_tell_e, n_isPair hs.f hw hp, bi_t c1, Option.bind_some]
            (try dsimp only)
            rw [if_neg oz1, n_longOf hs.f c1.1 (by omega) (by omega) (by omega), Option.bind_some]
            (try dsimp only)
            rw [n_in (by unfold I32; omega), bi_t (by omega), Option.bind_some]
            (try dsimp only)
            rw [if_neg oz1, n_longOf hs.f c1.1 (by omega) (by omega) (by omega), Option.bind_some]
            (try dsimp only)
            rw [n_in (by unfold I32; omega), bi_t (by omega), Option.bind_some]
            (try dsimp only)
            rw [if_pos oz1, n_told hs.f c1.1 (by omega) c2.1 (by omega), Option.bind_some]
            (try dsimp only)
            rw [n_has (by omega) c3.1 (by omega), c4, Option.bind_some]
            (try dsimp only)
            rw [if_neg (fun x => x rfl)]
            exact Ok_ret ⟨rfl, rF.rf⟩
        · have z : ((((24 + (20 * p)) + 14) + i)) = ((zix (((24 + (20 * p)) + 14) + i) : Nat) : Int) := by rw [zix_id (by omega)]; omega
          obtain ⟨q, hq⟩ : ∃ q, q = zix (((24 + (20 * p)) + 14) + i) := ⟨_, rfl⟩
          obtain ⟨V, hV⟩ : ∃ V, V = zbin 5 (tld F p i) (zbin 6 1 j) := ⟨_, rfl⟩
          rw [← hq] at z
          rw [← hV] at x6
          have tq : tdC q := by unfold tdC; omega
          have e : sx F (stF F q V) := stF_sx (Or.inr (Or.inr (Or.inr tq)))
          have te : ∀ p' i', 0 ≤ p' → p' < 24 → 0 ≤ i' → i' < 6 → tld (stF F q V) p' i' = if p' = p ∧ i' = i then V else tld F p' i' := fun p' i' a0 a1 a2 a3 => by
            unfold tld stF
            rw [zix_id (by omega)]
            by_cases cc : p' = p ∧ i' = i
            · rw [if_pos cc, if_pos (by omega)]
            · rw [if_neg cc, if_neg (by omega)]
          have l1' : lst (stF F q V) = lst F := by
            unfold lst stF
            rw [zix_id (by omega), if_neg (by omega)]
          have l2' : plc (stF F q V) = plc F := by
            unfold plc stF
            rw [zix_id (by omega), if_neg (by omega)]
          have l3' : ltd (stF F q V) = ltd F := by
            unfold ltd stF
            rw [zix_id (by omega), if_neg (by omega)]
          have wG : WF (stF F q V) := hw.sx e (fun p' i' a0 a1 a2 a3 => by
            rw [te p' i' a0 (by omega) a2 a3]
            split
            · exact x6
            · exact hw.tld_ a0 a1 a2 a3) (by rw [l1']; exact hw.lst_) (by rw [l3']; exact hw.ltd_) (by rw [l2']; exact hw.plc_)
          obtain ⟨s, hs⟩ : ∃ s, s = d.up 28 (zix ((p * 6) + i)) V := ⟨_, rfl⟩
          obtain ⟨s', hs'⟩ : ∃ s', s' = s.up 133 q V := ⟨_, rfl⟩
          have e28 : s.m 28 = zfu (d.m 28) (zix ((p * 6) + i)) V := by rw [hs]; exact up_ar (by decide)
          have e133 : s'.m 133 = zfu (s.m 133) q V := by rw [hs']; exact u_133
          have er : ∀ r, r ≠ 28 → s.m r = d.m r := fun r r1 => by rw [hs]; exact up_ne r1
          have er' : ∀ r, r ≠ 133 → s'.m r = s.m r := fun r r1 => by rw [hs']; exact up_ne r1
          have ci : CI s (stF F q V) := by
            refine ⟨⟨wG, h.ci.1.2.sx hw e (fun r r0 r1 => er r (by omega)) (fun p' i' a0 a1 a2 a3 => ?_) ?_ ?_ ?_⟩, (h.ci.2.fr (fun r r0 r1 => er r (by omega))).sx e⟩
            · have q' := h.ci.1.2.2.2.2.2.2.2.1 p' i' a0 a1 a2 a3
              show s.m 28 _ = _
              rw [e28, zfu_z (by omega), te p' i' a0 a1 a2 a3]
              by_cases cc : p' = p ∧ i' = i
              · rw [if_pos (by omega), if_pos (by omega), if_pos cc]
              · rw [if_neg (by omega), if_neg cc]
                exact q'
            · rw [er 13 (by decide), l3']; exact h.ci.ca.ltd_
            · rw [er 13 (by decide), l2']; exact h.ci.ca.plc_
            · rw [er 13 (by decide), l1']; exact h.ci.ca.lst_
          have F' : s'.m 133 = stF F q V := by
            rw [e133, er 133 (by decide), h.f]
            rfl
          have pG : prs (stF F q V) = prs F := e.prs_
          refine ⟨toF (stF F q V) p, s, s', stF F q V, B, T, ?_, ?_, ?_⟩
          · (try dsimp only)
            rw [wl_tell_e, kc_place h.ci.ca (by omega) (by omega) hp hi, bi_t (by omega), Option.bind_some]
            (try dsimp only)
            rw [if_neg oz1, kc_place h.ci.ca (by omega) (by omega) hp hj, bi_t (by omega), Option.bind_some]
            (try dsimp only)
            rw [if_pos oz1, k_setTold h.ci.ca c1.1 c1.2 c2.1 (by omega) c3.1 (by omega) hb, if_neg c4, ← hV, ← hs, Option.bind_some]
            (try dsimp only)
            rw [if_neg oz1, k_toldLinks ci.ca c1.1 (by omega), Option.bind_some]
          · have sF : s.m 133 = F := (er 133 (by decide)).trans h.f
            have y : zin (((24 + (20 * p)) + 14) + i) 18180 := of_eq_true (zinT (by omega))
            have hb2 : bi (tb (tld F p i) j) ≠ b := c4
            have bb : 0 ≤ bi (tb (tld F p i) j) ∧ bi (tb (tld F p i) j) ≤ 1 := by cases tb (tld F p i) j <;> decide
            (try dsimp only)
            rw [m_tell_e, n_isPair sF hw hp, bi_t c1, Option.bind_some]
            (try dsimp only)
            rw [if_neg oz1, n_longOf sF c1.1 (by omega) (by omega) (by omega), Option.bind_some]
            (try dsimp only)
            rw [n_in (by unfold I32; omega), bi_t (by omega), Option.bind_some]
            (try dsimp only)
            rw [if_neg oz1, n_longOf sF c1.1 (by omega) (by omega) (by omega), Option.bind_some]
            (try dsimp only)
            rw [n_in (by unfold I32; omega), bi_t (by omega), Option.bind_some]
            (try dsimp only)
            rw [if_pos oz1, n_told sF c1.1 (by omega) c2.1 (by omega), Option.bind_some]
            (try dsimp only)
            rw [n_has (by omega) c3.1 (by omega), Option.bind_some]
            (try dsimp only)
            rw [if_pos (by rw [wr_id (by omega), wr_id (by omega)]; exact hb2), n_told sF c1.1 (by omega) c2.1 (by omega), Option.bind_some]
            (try dsimp only)
            rw [if_pos y, ← hV, ← hq, ← hs', n_toldMany F' wG c1.1 (by omega), Option.bind_some]
          · exact INV.mk2 h (ci.fr (fun r r0 r1 => er' r (by omega))) F' (h.tq.fr (by rw [er' 11 (by decide), er 11 (by decide)]) ((er' 12 (by decide)).trans (er 12 (by decide))) (by rw [er' 132 (by decide), er 132 (by decide)]) ((er' 134 (by decide)).trans (er 134 (by decide)))) (stF_hi (by unfold tdC at tq; omega)) (e.ORX hw h.2.2.2.2.2.1) (by rw [er' 132 (by decide), er 132 (by decide)]) (fun r hr => (er' r (by omega)).trans (er r (by omega))) (by rw [er' 132 (by decide), er 132 (by decide)])
      · refine BO_a (-1) h ?_ (fun s hs => ?_)
        · (try dsimp only)
          rw [wl_tell_e, kc_place h.ci.ca (by omega) (by omega) hp hi, bi_t (by omega), Option.bind_some]
          (try dsimp only)
          rw [if_neg oz1, kc_place h.ci.ca (by omega) (by omega) hp hj, bi_f (by omega), Option.bind_some]
          (try dsimp only)
          rw [if_neg (fun x => x zz0)]
          exact Ok_ret ⟨rfl, qF.rf⟩
        · (try dsimp only)
          rw [m_tell_e, n_isPair hs.f hw hp, bi_t c1, Option.bind_some]
          (try dsimp only)
          rw [if_neg oz1, n_longOf hs.f c1.1 (by omega) (by omega) (by omega), Option.bind_some]
          (try dsimp only)
          rw [n_in (by unfold I32; omega), bi_t (by omega), Option.bind_some]
          (try dsimp only)
          rw [if_neg oz1, n_longOf hs.f c1.1 (by omega) (by omega) (by omega), Option.bind_some]
          (try dsimp only)
          rw [n_in (by unfold I32; omega), bi_f (by omega), Option.bind_some]
          (try dsimp only)
          rw [if_neg (fun x => x zz0)]
          exact Ok_ret ⟨rfl, rF.rf⟩
    · refine BO_a (-1) h ?_ (fun s hs => ?_)
      · (try dsimp only)
        rw [wl_tell_e, kc_place h.ci.ca (by omega) (by omega) hp hi, bi_f (by omega), Option.bind_some]
        (try dsimp only)
        rw [if_pos zz0]
        exact Ok_ret ⟨rfl, qF.rf⟩
      · (try dsimp only)
        rw [m_tell_e, n_isPair hs.f hw hp, bi_t c1, Option.bind_some]
        (try dsimp only)
        rw [if_neg oz1, n_longOf hs.f c1.1 (by omega) (by omega) (by omega), Option.bind_some]
        (try dsimp only)
        rw [n_in (by unfold I32; omega), bi_f (by omega), Option.bind_some]
        (try dsimp only)
        rw [if_pos zz0]
        exact Ok_ret ⟨rfl, rF.rf⟩
  · refine BO_a (-1) h ?_ (fun s hs => ?_)
    · (try dsimp only)
      rw [wl_tell_e, kc_place h.ci.ca (by omega) (by omega) hp hi, bi_f (by omega), Option.bind_some]
      (try dsimp only)
      rw [if_pos zz0]
      exact Ok_ret ⟨rfl, qF.rf⟩
    · (try dsimp only)
      rw [m_tell_e, n_isPair hs.f hw hp, bi_f c1, Option.bind_some]
      (try dsimp only)
      rw [if_pos zz0]
      exact Ok_ret ⟨rfl, rF.rf⟩
end
