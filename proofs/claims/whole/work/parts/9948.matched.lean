/-! MATCHED, both sides. -/
section
variable {P : zP} {d t : zD P} {F : Nat → Int} {B : Int → Int} {T : Int}
theorem mmX.r {s : zD P} (h : mmX t s) : rF t s := ⟨fun r hr => h.1 r (by omega) (by omega), h.1 133 (by decide) (by omega), h.1 134 (by decide) (by omega), h.2 1 (by decide) (by decide) (by decide), h.2 3 (by decide) (by decide) (by decide), h.2 8 (by decide) (by decide) (by decide)⟩
theorem maS.q {s : zD P} (h : Fx maS d s) : qF d s := fun r hr => h r (by unfold maS; omega)
/-- the answer of matched, with W parts -/
def maA (H : Int → Int) (W a : Int) : Int := if a = 0 then coS H 0 0 else if a = 1 then W else if a = 2 then shn H 0 else if a = 3 then shn H 1 else if W ≤ a - 10 then -4 else kiS H (wkS H (a - 10)).1 (wkS H (a - 10)).2
theorem b_matched (h : INV d F B T) {a : Int} (ha : I32 a) : BO d (fun d => wl_matched d a) (fun d => m_matched d a) := by
  have ha' := ha
  unfold I32 at ha'
  have yS : zin 4344 18180 := of_eq_true (zinT (by omega))
  have eS : F (zix 4344) = shl F := rfl
  have lb := h.2.2.2.2.1.1
  by_cases c1 : (0 ≤ a ∧ a ≤ 3) ∨ (10 ≤ a ∧ a ≤ 25)
  · by_cases c2 : shl F = 0
    · have m29 : d.m 29 2 = 0 := h.2.2.2.1.1 c2
      have hz : st_hasSheets d = some (0, d) := by rw [st_hasSheets_e, m29, if_pos (by rw [wr_id (by omega)]; omega)]
      refine BO_a (-2) h ?_ (fun s hs => ?_)
      · (try dsimp only)
        rw [wl_matched_e]
        by_cases e1 : a < 10
        · rw [if_pos (by rw [wr_id (by omega), wr_id (by omega)]; exact e1), if_neg (fun x => x zz0), if_neg (by rw [wr_id (by omega)]; omega), if_pos (by rw [wr_id (by omega), wr_id (by omega)]; omega), hz, Option.bind_some]
          (try dsimp only)
          rw [if_neg (fun x => x zz0)]
          exact Ok_ret ⟨rfl, qF.rf⟩
        · rw [if_neg (by rw [wr_id (by omega), wr_id (by omega)]; exact e1), if_neg (by rw [wr_id (by omega), wr_id (by omega)]; omega), if_pos oz1, hz, Option.bind_some]
          (try dsimp only)
          rw [if_neg (fun x => x zz0)]
          exact Ok_ret ⟨rfl, qF.rf⟩
      · (try dsimp only)
        rw [m_matched_e, n_in (by unfold I32; omega), Option.bind_some]
        (try dsimp only)
        by_cases e1 : 0 ≤ a ∧ a ≤ 3
        · rw [bi_t e1, if_pos oz1, if_pos yS, hs.f, eS, c2, if_neg (fun x => x zz0)]
          exact Ok_ret ⟨rfl, rF.rf⟩
        · rw [bi_f e1, if_neg (fun x => x zz0), n_in (by unfold I32; omega), bi_t (show 10 ≤ a ∧ a ≤ 25 by omega), Option.bind_some]
          (try dsimp only)
          rw [if_pos oz1, if_pos yS, hs.f, eS, c2, if_neg (fun x => x zz0)]
          exact Ok_ret ⟨rfl, rF.rf⟩
    · obtain ⟨sg, sh0⟩ := h.2.2.2.2.1.2 c2
      have hM := (sh_ok sg sh0 (s := 0) (by omega) (by omega)).1
      have hN := (sh_ok sg sh0 (s := 1) (by omega) (by omega)).1
      have rr := h.2.2.2.1.2 c2
      have m29 : d.m 29 2 = shn (sgF F) 0 := rr.1.1
      have m32 : d.m 32 2 = shn (sgF F) 1 := rr.2.1
      have hz : st_hasSheets d = some (1, d) := by rw [st_hasSheets_e, m29, if_neg (by rw [wr_id (by omega)]; omega)]
      obtain ⟨v0, s0, e0, x0, c00, nk, l5⟩ := k_match sg sh0 h.sta rr.1 rr.2
      obtain ⟨W, hW⟩ : ∃ W, W = s0.m 103 6 := ⟨_, rfl⟩
      rw [← hW] at nk l5
      have W16 := nk.1
      have n29 : s0.m 29 2 = shn (sgF F) 0 := by rw [x0 29 (by unfold maS; omega)]; exact m29
      have n32 : s0.m 32 2 = shn (sgF F) 1 := by rw [x0 32 (by unfold maS; omega)]; exact m32
      have y81 : zin 0 81 := of_eq_true (zinT (by omega))
      refine BO_a (maA (sgF F) W a) h ?_ (fun s hs => ?_)
      · (try dsimp only)
        rw [wl_matched_e]
        unfold maA
        by_cases e1 : a < 10
        · rw [if_pos (by rw [wr_id (by omega), wr_id (by omega)]; exact e1), if_neg (fun x => x zz0), if_neg (by rw [wr_id (by omega)]; omega), if_pos (by rw [wr_id (by omega), wr_id (by omega)]; omega), hz, Option.bind_some]
          (try dsimp only)
          rw [if_pos oz1, e0, Option.bind_some]
          (try dsimp only)
          rw [if_pos zz0]
          by_cases q0 : a = 0
          · rw [if_pos (by rw [q0]; exact zz0), ma_wholeCost_e, if_pos y81, Option.bind_some, if_pos q0]
            exact Ok_ret ⟨c00, maS.q x0⟩
          rw [if_neg (by rw [wr_id (by omega)]; exact q0), if_neg q0]
          by_cases q1 : a = 1
          · rw [if_pos (by rw [wr_id (by omega)]; exact q1), if_pos q1]
            exact Ok_ret ⟨hW.symm, maS.q x0⟩
          rw [if_neg (by rw [wr_id (by omega)]; exact q1), if_neg q1]
          by_cases q2 : a = 2
          · rw [if_pos (by rw [wr_id (by omega)]; exact q2), if_pos q2]
            exact Ok_ret ⟨n29, maS.q x0⟩
          rw [if_neg (by rw [wr_id (by omega)]; exact q2), if_neg q2, if_pos (show a = 3 by omega)]
          exact Ok_ret ⟨n32, maS.q x0⟩
        · rw [if_neg (by rw [wr_id (by omega), wr_id (by omega)]; exact e1), if_neg (by rw [wr_id (by omega), wr_id (by omega)]; omega), if_pos oz1, hz, Option.bind_some]
          (try dsimp only)
          rw [if_pos oz1, e0, Option.bind_some]
          (try dsimp only)
          rw [if_neg oz1, ← hW, if_neg (show ¬ a = 0 by omega), if_neg (show ¬ a = 1 by omega), if_neg (show ¬ a = 2 by omega), if_neg (show ¬ a = 3 by omega)]
          by_cases q : W ≤ a - 10
          · rw [if_pos (by rw [wr_id (by omega), wr_id (by omega)]; exact q), if_pos q]
            exact Ok_ret ⟨rfl, maS.q x0⟩
          · rw [if_neg (by rw [wr_id (by omega), wr_id (by omega)]; exact q), if_neg q, if_pos (of_eq_true (zinT (by omega)))]
            exact Ok_ret ⟨l5 (a - 10) (by omega) (by omega), maS.q x0⟩
      · have y2 : zin (a - 2) 2 ∨ True := Or.inr trivial
        have fin : Ok ((m_matches s).bind fun q2 => (if wr a ≠ 0 then (if wr a = wr 2 then (if zin (a - 2) 2 then some ((q2.2.m 140 (zix (a - 2))), q2.2) else none) else (if wr a ≠ wr 3 then m_matched_47 q2.2 a 0 0 0 (3, 0) else (if zin (a - 2) 2 then some ((q2.2.m 140 (zix (a - 2))), q2.2) else none))) else (if zin 0 81 then some ((q2.2.m 141 (zix 0)), q2.2) else none))) (fun v s' => v = maA (sgF F) W a ∧ rF s s') := by
          refine Ok_bind (n_matches hs.f hs.o h.2.2.2.2.1 c2) (fun v s1 f1 => ?_)
          obtain ⟨x1, fs, tn⟩ := f1
          (try dsimp only)
          unfold maA
          by_cases q0 : a = 0
          · rw [if_neg (by rw [q0]; exact fun x => x zz0), if_pos y81, if_pos q0]
            have := (tn 0 0 (by omega) (by omega) (by omega) (by omega) trivial).1
            rw [show (9 : Int) * 0 + 0 = 0 by omega] at this
            exact Ok_ret ⟨this, x1.r⟩
          rw [if_pos (by rw [wr_id (by omega)]; exact q0), if_neg q0]
          by_cases q2 : a = 2
          · rw [if_pos (by rw [q2]), if_neg (show ¬ a = 1 by omega), if_pos q2, if_pos (of_eq_true (zinT (by omega))), show a - 2 = 0 by omega]
            exact Ok_ret ⟨(fs 0 (by omega) (by omega)).1, x1.r⟩
          rw [if_neg (by rw [wr_id (by omega), wr_id (by omega)]; exact q2)]
          by_cases q3 : a = 3
          · rw [if_neg (by rw [q3]; exact fun x => x rfl), if_neg (show ¬ a = 1 by omega), if_neg q2, if_pos q3, if_pos (of_eq_true (zinT (by omega))), show a - 2 = 1 by omega]
            exact Ok_ret ⟨(fs 1 (by omega) (by omega)).1, x1.r⟩
          rw [if_pos (by rw [wr_id (by omega), wr_id (by omega)]; exact q3)]
          refine Ok_mono (n_walk47 sg sh0 fs tn nk (by omega) (3, 0)) (fun v s' f => ?_)
          obtain ⟨fv, rfl⟩ := f
          refine ⟨?_, x1.r⟩
          rw [fv, if_neg q2, if_neg q3]
        (try dsimp only)
        rw [m_matched_e, n_in (by unfold I32; omega), Option.bind_some]
        (try dsimp only)
        by_cases e1 : 0 ≤ a ∧ a ≤ 3
        · rw [bi_t e1, if_pos oz1, if_pos yS, hs.f, eS, if_pos (by rw [wr_id (by omega)]; exact c2)]
          exact fin
        · rw [bi_f e1, if_neg (fun x => x zz0), n_in (by unfold I32; omega), bi_t (show 10 ≤ a ∧ a ≤ 25 by omega), Option.bind_some]
          (try dsimp only)
          rw [if_pos oz1, if_pos yS, hs.f, eS, if_pos (by rw [wr_id (by omega)]; exact c2)]
          exact fin
  · refine BO_a (-1) h ?_ (fun s hs => ?_)
    · (try dsimp only)
      rw [wl_matched_e]
      have all : Ok (if wr a < 0 then some (-1, d) else some (-1, d)) (fun v s => v = -1 ∧ qF d s) := by
        split
        · exact Ok_ret ⟨rfl, qF.rf⟩
        · exact Ok_ret ⟨rfl, qF.rf⟩
      by_cases e1 : a < 10
      · rw [if_pos (by rw [wr_id (by omega), wr_id (by omega)]; exact e1), if_neg (fun x => x zz0)]
        by_cases e2 : a < 0
        · rw [if_pos (by rw [wr_id (by omega)]; exact e2)]
          exact Ok_ret ⟨rfl, qF.rf⟩
        · rw [if_neg (by rw [wr_id (by omega)]; exact e2), if_neg (by rw [wr_id (by omega), wr_id (by omega)]; omega)]
          exact Ok_ret ⟨rfl, qF.rf⟩
      · rw [if_neg (by rw [wr_id (by omega), wr_id (by omega)]; exact e1), if_pos (by rw [wr_id (by omega), wr_id (by omega)]; omega), if_neg (fun x => x zz0), if_neg (by rw [wr_id (by omega)]; omega), if_neg (by rw [wr_id (by omega), wr_id (by omega)]; omega)]
        exact Ok_ret ⟨rfl, qF.rf⟩
    · (try dsimp only)
      rw [m_matched_e, n_in (by unfold I32; omega), bi_f (fun x => c1 (Or.inl x)), Option.bind_some]
      (try dsimp only)
      rw [if_neg (fun x => x zz0), n_in (by unfold I32; omega), bi_f (fun x => c1 (Or.inr x)), Option.bind_some]
      (try dsimp only)
      rw [if_neg (fun x => x zz0)]
      exact Ok_ret ⟨rfl, rF.rf⟩
end
