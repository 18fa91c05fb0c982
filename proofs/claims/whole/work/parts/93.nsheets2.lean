/-! SHEETS, the model. -/
section
variable {P : zP} {d t : zD P}
/-- of the class all stays, of the model what stands between calls -/
def nF (t s : zD P) : Prop := (∀ r, r < 132 → s.m r = t.m r) ∧ s.m 132 1 = t.m 132 1 ∧ s.m 132 8 = t.m 132 8
theorem nF.tr {a b c : zD P} (h : nF a b) (h2 : nF b c) : nF a c := ⟨fun r hr => (h2.1 r hr).trans (h.1 r hr), h2.2.1.trans h.2.1, h2.2.2.trans h.2.2⟩
theorem nF.rf : nF t t := ⟨fun _ _ => rfl, rfl, rfl⟩
theorem mW.nf {s : zD P} (h : mW t s) : nF t s := ⟨fun r hr => h.1 r (by omega) (by omega) (by omega) (by omega) (by omega), h.2 1 (by decide) (by decide) (by decide), h.2 8 (by decide) (by decide) (by decide)⟩
theorem mY.nf {s : zD P} (h : mY t s) : nF t s := ⟨fun r hr => h.1 r (by omega) (by omega), h.2 1 (by decide) (by decide) (by decide) (by decide), h.2 8 (by decide) (by decide) (by decide) (by decide)⟩
theorem nF.up {s : zD P} {r k : Nat} {x : Int} (h : nF t s) (hr : 132 < r) : nF t (s.up r k x) := ⟨fun r' hr' => by rw [up_ne (by omega)]; exact h.1 r' hr', by rw [up_ne (by omega)]; exact h.2.1, by rw [up_ne (by omega)]; exact h.2.2⟩
theorem nF.up3 {s : zD P} {x : Int} (h : nF t s) : nF t (s.up 132 3 x) := ⟨fun r' hr' => by rw [up_ne (by omega)]; exact h.1 r' hr', by rw [u_132_3, zfu_n, if_neg (by decide)]; exact h.2.1, by rw [u_132_3, zfu_n, if_neg (by decide)]; exact h.2.2⟩
theorem src_up3 {H : Int → Int} {n x : Int} (h : src t H n) : src (t.up 132 3 x) H n := by
  unfold src at h ⊢
  rw [u_132_3, zfu_n, if_neg (by decide), up_ne (by decide), up_ne (by decide)]
  exact h
theorem n_sheets {F : Nat → Int} {B : Int → Int} {T n : Int} (hF : t.m 133 = F) (h : TN t B T) (h8 : t.m 132 8 = 0) (hn : I32 n) : Ok (m_sheets t n) (fun v s => if 1 ≤ n ∧ n ≤ 200 ∧ n ≤ T then (v = shA (cutB B n) n ∧ nF t s ∧ s.m 132 3 = 0 ∧ s.m 133 = (if (shs (cutB B n) n).1 = 0 then shF F (cutB B n) n else F)) else (v = -1 ∧ s = t)) := by
  have zz : wr 0 = 0 := rfl
  have oz : ¬ wr 1 = 0 := by rw [wr_id (by omega)]; omega
  have hT := h.2.1
  have hn' := hn
  unfold I32 at hn'
  rw [m_sheets_e, n_in (by unfold I32; omega), Option.bind_some]
  (try dsimp only)
  by_cases c1 : 1 ≤ n ∧ n ≤ 200 ∧ n ≤ T
  · have n1 := c1.1
    have n2 := c1.2.1
    have n3 := c1.2.2
    have sg := cutB_s h (n := n) (by omega) n3
    simp only [if_pos c1]
    rw [bi_t ⟨n1, n2⟩, if_neg oz, h.1, if_pos (by rw [wr_id (by omega), wr_id (by omega)]; omega)]
    have hs : src (t.up 132 3 0) (cutB B n) n := src_up3 (Or.inl ⟨h8, cutB_n h n3⟩)
    refine Ok_bind (n_readsSheets hs sg) (fun v s f => ?_)
    obtain ⟨fa, fb, fc⟩ := f
    have f3 : nF t s := nF.rf.up3.tr fa.nf
    have e3 : s.m 132 3 = 0 := by rw [fa.2 3 (by decide) (by decide) (by decide), u_132_3, zfu_n, if_pos rfl]
    have eF : s.m 133 = F := by rw [fa.1 133 (by decide) (by decide) (by decide) (by decide) (by decide), up_ne (by decide)]; exact hF
    have e134 : s.m 134 = t.m 134 := by rw [fa.1 134 (by decide) (by decide) (by decide) (by decide) (by decide), up_ne (by decide)]
    (try dsimp only)
    unfold shA
    by_cases c2 : (shs (cutB B n) n).1 = 0
    · have g := fc c2
      simp only [if_pos c2]
      have z4 : zin 4344 18180 := of_eq_true (zinT (by omega))
      rw [g.1, if_pos oz, if_pos z4]
      refine lpD (fun k w => m_sheets_28 w n k) (fun k w => nF t w ∧ w.m 132 3 = 0 ∧ w.m 134 = t.m 134 ∧ w.m 140 = s.m 140 ∧ ∀ q : Nat, w.m 133 q = if q = 4344 then n else if 4345 ≤ q ∧ (q : Int) < 4345 + k then cutB B n ((q : Int) - 4345) else F q) 0 n (by omega) _ ⟨f3.up (by decide), by rw [up_ne (by decide)]; exact e3, by rw [up_ne (by decide)]; exact e134, by rw [up_ne (by decide)], fun q => ?_⟩ (fun w hi => ?_) (fun k w k0 k1 hi hnext => ?_)
      · rw [u_133, zfu_n, eF, zix_id (by omega)]
        by_cases e : q = 4344
        · rw [if_pos (by omega), if_pos e]
        · rw [if_neg (by omega), if_neg e, if_neg (by omega)]
      · obtain ⟨a, b, c, e, f⟩ := hi
        have y0 : zin 0 2 := of_eq_true (zinT (by omega))
        have y1 : zin 1 2 := of_eq_true (zinT (by omega))
        have s0 := g.2.1.1
        have s1 := g.2.2.1
        (try dsimp only)
        rw [m_sheets_28_e, if_pos (by omega), if_pos y0, if_pos y1, e, s0, s1]
        refine Ok_ret ⟨rfl, a, b, ?_⟩
        funext q
        rw [f q]
        rfl
      · obtain ⟨a, b, c, e, f⟩ := hi
        have y0 : zin k 240 := of_eq_true (zinT (by omega))
        have y1 : zin (4345 + k) 18180 := of_eq_true (zinT (by omega))
        (try dsimp only)
        rw [m_sheets_28_e, if_neg (by rw [wr_id (by omega), wr_id (by omega)]; omega), if_pos y0, if_pos y1, c, cutB_n h n3 k k0 k1]
        refine hnext _ ?_
        refine ⟨a.up (by decide), by rw [up_ne (by decide)]; exact b, by rw [up_ne (by decide)]; exact c, by rw [up_ne (by decide)]; exact e, fun q => ?_⟩
        rw [u_133, zfu_n, f q, zix_id (by omega)]
        by_cases e1 : q = (4345 + k).toNat
        · rw [if_pos e1, if_neg (by omega), if_pos (by omega)]
          congr 1
          omega
        · rw [if_neg e1]
          by_cases e2 : q = 4344
          · rw [if_pos e2, if_pos e2]
          · rw [if_neg e2, if_neg e2]
            by_cases e3 : 4345 ≤ q ∧ (q : Int) < 4345 + k
            · rw [if_pos e3, if_pos (by omega)]
            · rw [if_neg e3, if_neg (by omega)]
    · have g := fb c2
      simp only [if_neg c2]
      rw [g.1, if_neg (fun hh => hh zz), g.2]
      exact Ok_ret ⟨rfl, f3, e3, eF⟩
  · simp only [if_neg c1]
    by_cases c3 : 1 ≤ n ∧ n ≤ 200
    · rw [bi_t c3, if_neg oz, h.1, if_neg (by rw [wr_id (by omega), wr_id (by omega)]; omega)]
      exact Ok_ret ⟨rfl, rfl⟩
    · rw [bi_f c3, if_pos zz]
      exact Ok_ret ⟨rfl, rfl⟩
end
