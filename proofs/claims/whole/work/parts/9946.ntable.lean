/-! THE MODEL'S TABLE OF COSTS. -/
section
variable {P : zP} {d t : zD P}
def mtS : Nat → Prop := fun r => r = 141 ∨ r = 142
theorem fsR.fx {H : Int → Int} {s : zD P} (h : fsR d H) (f : Fx mtS d s) : fsR s H := by
  unfold fsR
  rw [f 136 (by unfold mtS; omega), f 137 (by unfold mtS; omega), f 138 (by unfold mtS; omega), f 139 (by unfold mtS; omega), f 140 (by unfold mtS; omega)]
  exact h
/-- the row under work holds the best of the first kinds -/
def roQ (s : zD P) (H : Int → Int) (i j k : Int) : Prop := ((bkS H (coS H) i j k).1 = -1 → s.m 141 (zix (9 * i + j)) = 1000000000) ∧ ((bkS H (coS H) i j k).1 ≠ -1 → s.m 141 (zix (9 * i + j)) = (bkS H (coS H) i j k).2 ∧ s.m 142 (zix (9 * i + j)) = (bkS H (coS H) i j k).1)
/-- the table is done from a place on -/
def tnQ (s : zD P) (H : Int → Int) (D : Int → Int → Prop) : Prop := ∀ i j, 0 ≤ i → i ≤ shn H 0 → 0 ≤ j → j ≤ shn H 1 → D i j → s.m 141 (zix (9 * i + j)) = coS H i j ∧ (kiS H i j ≠ -1 → s.m 142 (zix (9 * i + j)) = kiS H i j)
theorem n_cell {H : Int → Int} {n i j : Int} (sg : sgn H n) (h : (shs H n).1 = 0) (i0 : 0 ≤ i) (j0 : 0 ≤ j) (i1 : i ≤ shn H 0) (j1 : j ≤ shn H 1) (fs : fsR d H) (tn : tnQ d H (fun i' j' => i < i' ∨ (i' = i ∧ j < j'))) (hz : d.m 141 (zix (9 * i + j)) = 1000000000) (g6 g7 g8 : zV) {Q : Int → zD P → Prop} (hn : ∀ s g3 g4 g5 g6 g7 g8, Fx mtS d s → (∀ c, 0 ≤ c → c < 81 → c ≠ 9 * i + j → s.m 141 (zix c) = d.m 141 (zix c) ∧ s.m 142 (zix c) = d.m 142 (zix c)) → roQ s H i j 5 → Ok (m_matches_14 s i (j + (-1)) g3 g4 g5 g6 g7 g8) Q) : Ok (m_matches_49 d i j (9 * i + j) 0 0 g6 g7 g8) Q := by
  have hM := (sh_ok sg h (s := 0) (by omega) (by omega)).1
  have hN := (sh_ok sg h (s := 1) (by omega) (by omega)).1
  have y0 : zin 0 2 := of_eq_true (zinT (by omega))
  have y1 : zin 1 2 := of_eq_true (zinT (by omega))
  have yc : zin (9 * i + j) 81 := of_eq_true (zinT (by omega))
  refine lpM (fun k s (y : zV × zV × zV) => m_matches_49 s i j (9 * i + j) 0 k y.1 y.2.1 y.2.2) (fun k s _ => Fx mtS d s ∧ (∀ c, 0 ≤ c → c < 81 → c ≠ 9 * i + j → s.m 141 (zix c) = d.m 141 (zix c) ∧ s.m 142 (zix c) = d.m 142 (zix c)) ∧ roQ s H i j k) 0 5 (by omega) d (g6, g7, g8) ⟨Fx.rf, fun c _ _ _ => ⟨rfl, rfl⟩, ⟨fun _ => hz, fun e => absurd rfl e⟩⟩ (fun s y hi => ?_) (fun k s y k0 k1 hi hnext => ?_)
  · obtain ⟨a1, a2, a3⟩ := hi
    (try dsimp only)
    rw [m_matches_49_e, if_pos (by omega)]
    exact hn _ _ _ _ _ _ _ a1 a2 a3
  · obtain ⟨a1, a2, a3⟩ := hi
    have tk := tkF_r k0 k1
    have f := fs.fx a1
    have st := bkS_s (H := H) (C := coS H) (i := i) (j := j) k0
    have b := bkS_r sg h (C := coS H) (B := 15300) i0 j0 (by omega) (fun x y x0 y0 _ _ => coS_r sg h x0 y0) (m := k) k0 (by omega)
    have skip : ¬ canS H k i j → roQ s H i j (k + 1) := fun c => by
      rw [if_neg c] at st
      unfold roQ
      rw [st]
      exact a3
    have e0 := (f 0 (by omega) (by omega)).1
    have e1 := (f 1 (by omega) (by omega)).1
    (try dsimp only)
    rw [m_matches_49_e, if_neg (by rw [wr_id (by omega), wr_id (by omega)]; omega), if_neg (fun x => x zz0), n_takes k0 k1 (by omega) (by omega), Option.bind_some]
    (try dsimp only)
    rw [n_takes k0 k1 (by omega) (by omega), Option.bind_some]
    (try dsimp only)
    rw [if_pos y0, e0]
    by_cases ca : i + tkF k 0 ≤ shn H 0
    · rw [if_neg (by rw [wr_id (by omega), wr_id (by omega)]; omega), if_pos y1, e1]
      by_cases cb : j + tkF k 1 ≤ shn H 1
      · have c : canS H k i j := ⟨ca, cb⟩
        have p := pcS_r sg h k0 k1 i0 j0 c
        have co := coS_r sg h (i := i + tkF k 0) (j := j + tkF k 1) (by omega) (by omega)
        have yn : zin ((9 * (i + tkF k 0)) + (j + tkF k 1)) 81 := of_eq_true (zinT (by omega))
        have cn : s.m 141 (zix ((9 * (i + tkF k 0)) + (j + tkF k 1))) = coS H (i + tkF k 0) (j + tkF k 1) := by
          rw [(a2 _ (by omega) (by omega) (by omega)).1]
          exact (tn _ _ (by omega) ca (by omega) cb (by omega)).1
        rw [if_pos c] at st
        rw [if_pos (by rw [wr_id (by omega), wr_id (by omega)]; exact cb), n_partCost sg h f k0 k1 i0 j0 c, Option.bind_some]
        (try dsimp only)
        rw [if_pos yn, if_pos yc, cn]
        obtain ⟨V, hV⟩ : ∃ V, V = pcS H k i j + coS H (i + tkF k 0) (j + tkF k 1) := ⟨_, rfl⟩
        rw [← hV] at st ⊢
        obtain ⟨X, hX⟩ : ∃ X, X = s.m 141 (zix (9 * i + j)) := ⟨_, rfl⟩
        rw [← hX]
        have xr : 0 ≤ X ∧ X ≤ 1000000000 := by
          rcases b with b | b
          · have := a3.1 b.1
            omega
          · have := (a3.2 (by omega)).1
            omega
        by_cases e2 : X ≤ V
        · have keep : ¬ ((bkS H (coS H) i j k).1 = -1 ∨ V < (bkS H (coS H) i j k).2) := fun x => by
            rcases b with b | b
            · have := a3.1 b.1
              omega
            · have := (a3.2 (by omega)).1
              omega
          rw [if_neg keep] at st
          rw [if_pos (by rw [wr_id (by omega), wr_id (by omega)]; exact e2), if_pos yc, n_min (by unfold I32; omega), Option.bind_some]
          (try dsimp only)
          rw [if_pos yc]
          have em : (if X < V then X else V) = X := by split <;> omega
          rw [em]
          have u1 : (s.up 141 (zix (9 * i + j)) X).m 141 = zfu (s.m 141) (zix (9 * i + j)) X := u_141
          have n1 : ∀ r, r ≠ 141 → (s.up 141 (zix (9 * i + j)) X).m r = s.m r := fun r hr => up_ne hr
          refine hnext _ (_, _, _) ⟨a1.up (Or.inl rfl), fun c c0 c1 c2 => ?_, ?_⟩
          · rw [u1, n1 142 (by decide), zfu_z (by omega), if_neg c2]
            exact a2 c c0 c1 c2
          · unfold roQ
            rw [st, u1, n1 142 (by decide), zfu_n, if_pos rfl, hX]
            exact a3
        · have repl : (bkS H (coS H) i j k).1 = -1 ∨ V < (bkS H (coS H) i j k).2 := by
            rcases b with b | b
            · exact Or.inl b.1
            · have := (a3.2 (by omega)).1
              exact Or.inr (by omega)
          rw [if_pos repl] at st
          rw [if_neg (by rw [wr_id (by omega), wr_id (by omega)]; exact e2), if_pos yc, if_pos yc]
          have u2 : (s.up 142 (zix (9 * i + j)) k).m 142 = zfu (s.m 142) (zix (9 * i + j)) k := u_142
          have n2 : ∀ r, r ≠ 142 → (s.up 142 (zix (9 * i + j)) k).m r = s.m r := fun r hr => up_ne hr
          have x2 : Fx mtS d (s.up 142 (zix (9 * i + j)) k) := a1.up (Or.inr rfl)
          generalize s.up 142 (zix (9 * i + j)) k = s2 at *
          rw [n2 141 (by decide), ← hX, n_min (by unfold I32; omega), Option.bind_some]
          (try dsimp only)
          rw [if_pos yc]
          have em : (if X < V then X else V) = V := if_neg (by omega)
          rw [em]
          have u1 : (s2.up 141 (zix (9 * i + j)) V).m 141 = zfu (s2.m 141) (zix (9 * i + j)) V := u_141
          have n1 : ∀ r, r ≠ 141 → (s2.up 141 (zix (9 * i + j)) V).m r = s2.m r := fun r hr => up_ne hr
          refine hnext _ (_, _, _) ⟨x2.up (Or.inl rfl), fun c c0 c1 c2 => ?_, ?_⟩
          · rw [u1, n1 142 (by decide), u2, n2 141 (by decide), zfu_z (by omega), zfu_z (by omega), if_neg c2, if_neg c2]
            exact a2 c c0 c1 c2
          · unfold roQ
            rw [st, u1, n1 142 (by decide), u2, zfu_n, zfu_n, if_pos rfl, if_pos rfl]
            exact ⟨fun x => absurd x (show ¬ k = -1 by omega), fun _ => ⟨rfl, rfl⟩⟩
      · rw [if_neg (by rw [wr_id (by omega), wr_id (by omega)]; exact cb)]
        exact hnext _ (_, _, _) ⟨a1, a2, skip (fun c => cb c.2)⟩
    · rw [if_pos (by rw [wr_id (by omega), wr_id (by omega)]; omega)]
      exact hnext _ (_, _, _) ⟨a1, a2, skip (fun c => ca c.1)⟩
end
