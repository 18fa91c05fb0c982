/-! THE MODEL FINDS ITS SHEETS AGAIN. -/
section
variable {P : zP} {d t : zD P} {F : Nat → Int}
/-- what is found: sentences, their letters and lengths -/
def fsR (s : zD P) (H : Int → Int) : Prop := ∀ w, 0 ≤ w → w < 2 → s.m 140 (zix w) = shn H w ∧ ∀ r, 0 ≤ r → r < shn H w → s.m 136 (zix (8 * w + r)) = shst H (shq H w) r ∧ s.m 137 (zix (8 * w + r)) = (sen H 6 0 (shst H (shq H w) r)).2.1 ∧ s.m 138 (zix (8 * w + r)) = shLe H w r ∧ s.m 139 (zix (8 * w + r)) = hln H (shq H w) r
def fsX (t s : zD P) : Prop := (∀ r, r ≠ 132 → (r < 135 ∨ 141 ≤ r) → s.m r = t.m r) ∧ ∀ k, k ≠ 4 → k ≠ 5 → k ≠ 6 → s.m 132 k = t.m 132 k
theorem n_findsSheets (hF : t.m 133 = F) (h8 : t.m 132 8 = 0) (hs : WFs F) (hn0 : shl F ≠ 0) : Ok (m_findsSheets t) (fun _ s => fsX t s ∧ fsR s (sgF F)) := by
  have y0 : zin 4344 18180 := of_eq_true (zinT (by omega))
  obtain ⟨b1, b2⟩ := hs
  obtain ⟨sg, sh0⟩ := b2 hn0
  obtain ⟨H, hH⟩ : ∃ H, H = sgF F := ⟨_, rfl⟩
  obtain ⟨n, hn⟩ : ∃ n, n = shl F := ⟨_, rfl⟩
  have cell : ∀ k, 0 ≤ k → k < n → F (zix (4345 + k)) = H k := fun k k0 k1 => by
    rw [hH]
    unfold sgF
    rw [if_pos (by omega)]
  rw [← hH, ← hn] at sg sh0
  rw [← hH]
  have e132 : (t.up 132 8 1).m 132 = zfu (t.m 132) 8 1 := u_132_8
  have e133 : (t.up 132 8 1).m 133 = F := (up_ne (by decide)).trans hF
  have eN : F (zix 4344) = n := hn.symm
  rw [m_findsSheets_e, if_pos y0, e133, eN]
  have sr : src (t.up 132 8 1) H n := Or.inr ⟨by rw [e132]; rfl, by omega, fun k k0 k1 => by rw [e133]; exact cell k k0 k1⟩
  refine Ok_bind (n_readsSheets sr sg) (fun v s1 f1 => ?_)
  obtain ⟨w1, -, f1⟩ := f1
  obtain ⟨rfl, i0, i1⟩ := f1 sh0
  have x1 : (∀ r, r ≠ 132 → (r < 135 ∨ 141 ≤ r) → s1.m r = t.m r) ∧ ∀ k, k ≠ 4 → k ≠ 5 → k ≠ 6 → k ≠ 8 → s1.m 132 k = t.m 132 k := ⟨fun r r1 r2 => (w1.1 r r1 (by omega) (by omega) (by omega) (by omega)).trans (up_ne r1), fun k k1 k2 k3 k4 => (w1.2 k k1 k2 k3).trans (by rw [e132, zfu_n, if_neg k4])⟩
  have rows : ∀ w, 0 ≤ w → w < 2 → s1.m 140 (zix w) = shn H w ∧ ∀ r, 0 ≤ r → r < shn H w → s1.m 136 (zix (8 * w + r)) = shst H (shq H w) r ∧ s1.m 137 (zix (8 * w + r)) = (sen H 6 0 (shst H (shq H w) r)).2.1 := fun w w0 w1' => by
    rcases (by omega : w = 0 ∨ w = 1) with rfl | rfl
    · exact i0
    · exact i1
  have F1 : s1.m 133 = F := (x1.1 133 (by decide) (by omega)).trans hF
  clear i0 i1 w1 f1 sr
  (try dsimp only)
  refine lpM (fun a s (y : zV) => m_findsSheets_12 s 1 a y) (fun a s _ => Fx (fun r => r = 138 ∨ r = 139) s1 s ∧ ∀ w r, 0 ≤ w → w < 2 → 0 ≤ r → r < shn H w → 8 * w + r < a → s.m 138 (zix (8 * w + r)) = shLe H w r ∧ s.m 139 (zix (8 * w + r)) = hln H (shq H w) r) 0 16 (by omega) s1 (3, 0) ⟨Fx.rf, fun w r a b c e f => by omega⟩ (fun s y hi => ?_) (fun a s y a0 a1 hi hnext => ?_)
  · obtain ⟨i1, i2⟩ := hi
    have u8 : (s.up 132 8 0).m 132 = zfu (s.m 132) 8 0 := u_132_8
    have ne : ∀ r, r ≠ 132 → (s.up 132 8 0).m r = s.m r := fun r hr => up_ne hr
    (try dsimp only)
    rw [m_findsSheets_12_e, if_pos (by omega)]
    refine Ok_ret ⟨⟨fun r r1 r2 => (ne r r1).trans ((i1 r (by omega)).trans (x1.1 r r1 r2)), fun k k1 k2 k3 => ?_⟩, fun w w0 w1 => ?_⟩
    · rw [u8, zfu_n]
      by_cases e : k = 8
      · rw [if_pos e, e, h8]
      · rw [if_neg e, i1 132 (by omega)]
        exact x1.2 k k1 k2 k3 e
    · have rw0 := rows w w0 w1
      have s8 := sh_ok sg sh0 w0 w1
      rw [ne 140 (by decide), ne 136 (by decide), ne 137 (by decide), ne 138 (by decide), ne 139 (by decide), i1 140 (by omega), i1 136 (by omega), i1 137 (by omega)]
      exact ⟨rw0.1, fun r r0 r1 => ⟨(rw0.2 r r0 r1).1, (rw0.2 r r0 r1).2, i2 w r w0 w1 r0 r1 (by omega)⟩⟩
  · obtain ⟨i1, i2⟩ := hi
    have d0 : zdiv 0 a 8 = a / 8 := zdiv0 (by omega)
    have d1 : zdiv 1 a 8 = a % 8 := zdiv1 (by omega)
    have y2 : zin (a / 8) 2 := of_eq_true (zinT (by omega))
    have y16 : zin a 16 := of_eq_true (zinT (by omega))
    have rw0 := rows (a / 8) (by omega) (by omega)
    have s8 := sh_ok sg sh0 (s := a / 8) (by omega) (by omega)
    have e140 : s.m 140 (zix (a / 8)) = shn H (a / 8) := by rw [i1 140 (by omega)]; exact rw0.1
    (try dsimp only)
    rw [m_findsSheets_12_e, if_neg (by rw [wr_id (by omega), wr_id (by omega)]; omega), if_neg oz1, d0, d1, if_pos y2, e140]
    by_cases c : a % 8 < shn H (a / 8)
    · rw [if_pos (by rw [wr_id (by omega), wr_id (by omega)]; exact c), if_pos y16, if_pos y16, if_pos y16]
      have ea : a = 8 * (a / 8) + a % 8 := by omega
      obtain ⟨w, hw⟩ : ∃ w, w = a / 8 := ⟨_, rfl⟩
      obtain ⟨r, hr⟩ : ∃ r, r = a % 8 := ⟨_, rfl⟩
      rw [← hw, ← hr] at ea
      rw [← hw] at rw0 s8
      rw [← hw, ← hr] at c
      obtain ⟨q1, q2⟩ := rw0.2 r (by omega) c
      obtain ⟨c1, c2⟩ := s8.2 r (by omega) c
      rw [← ea] at q1 q2
      obtain ⟨q, hq⟩ : ∃ q, q = shst H (shq H w) r := ⟨_, rfl⟩
      have eL : hln H (shq H w) r = (sen H 6 0 (shst H (shq H w) r)).2.2 := rfl
      have eLe : shLe H w r = lqF H (shst H (shq H w) r) (sen H 6 0 (shst H (shq H w) r)).2.2 := rfl
      rw [← hq] at q1 q2 c1 c2 eL eLe
      have ns := nsF_sen sg c1.1 c1.2 c2 rfl
      have se := (sen_0 sg 6 c1.1 c1.2).1
      obtain ⟨e, he⟩ : ∃ e, e = (sen H 6 0 q).2.1 := ⟨_, rfl⟩
      rw [← he] at q2 ns se
      obtain ⟨n1, n2, n3, n4, -⟩ := ns
      have lq0 : 0 ≤ e - q := by
        have := lqF_le (H := H) (q := q) (L := (sen H 6 0 q).2.2) (by omega) (nsF_sen sg c1.1 c1.2 c2 rfl).2.2.2.2
        omega
      obtain ⟨s2, hs2⟩ : ∃ s2, s2 = (s.up 139 (zix a) 1).up 138 (zix a) 0 := ⟨_, rfl⟩
      rw [← hs2]
      have u138 : s2.m 138 = zfu (s.m 138) (zix a) 0 := by rw [hs2, u_138, up_ne (by decide)]
      have u139 : s2.m 139 = zfu (s.m 139) (zix a) 1 := by rw [hs2, up_ne (by decide), u_139]
      have fx2 : Fx (fun r => r = 138 ∨ r = 139) s1 s2 := by rw [hs2]; exact (i1.up (Or.inr rfl)).up (Or.inl rfl)
      clear hs2
      have e136 : s2.m 136 (zix a) = q := by rw [fx2 136 (by omega)]; exact q1
      rw [e136]
      refine lpD (fun k s' => m_findsSheets_43 s' 1 a (q + k)) (fun k s' => Fx (fun r => r = 138 ∨ r = 139) s1 s' ∧ (∀ j, 0 ≤ j → j < 16 → j ≠ a → s'.m 138 (zix j) = s.m 138 (zix j) ∧ s'.m 139 (zix j) = s.m 139 (zix j)) ∧ s'.m 138 (zix a) = nsF H q k ∧ s'.m 139 (zix a) = 1 + k - nsF H q k) 0 (e - q) lq0 s2 ⟨fx2, fun j j0 j1 j2 => ⟨by rw [u138, zfu_z (by omega), if_neg j2], by rw [u139, zfu_z (by omega), if_neg j2]⟩, by rw [u138, zfu_n, if_pos rfl]; rfl, by rw [u139, zfu_n, if_pos rfl]; rfl⟩ (fun s' hj => ?_) (fun k s' k0 k1 hj hn' => ?_) |> fun h => by
        (try dsimp only at h)
        rw [Int.add_zero] at h
        exact h
      · obtain ⟨j1, j2, j3, j4⟩ := hj
        have e137 : s'.m 137 (zix a) = e := by rw [j1 137 (by omega)]; exact q2
        (try dsimp only)
        rw [m_findsSheets_43_e, if_pos y16, e137, if_pos (by rw [wr_id (by omega), wr_id (by omega)]; omega)]
        refine hnext _ _ ⟨j1, fun w' r' a0' a1' b0 b1 b2 => ?_⟩
        by_cases ee : 8 * w' + r' = a
        · have s8' := sh_ok sg sh0 (s := w') a0' a1'
          have : w' = w ∧ r' = r := by omega
          obtain ⟨rfl, rfl⟩ := this
          rw [ee, eL, eLe, j3, j4]
          omega
        · have s8' := sh_ok sg sh0 (s := w') a0' a1'
          have o := j2 (8 * w' + r') (by omega) (by omega) ee
          rw [o.1, o.2]
          exact i2 w' r' a0' a1' b0 b1 (by omega)
      · obtain ⟨j1, j2, j3, j4⟩ := hj
        have e137 : s'.m 137 (zix a) = e := by rw [j1 137 (by omega)]; exact q2
        have yk : zin (4345 + (q + k)) 18180 := of_eq_true (zinT (by omega))
        have F' : s'.m 133 = F := (j1 133 (by omega)).trans F1
        have hk := sg.1 (q + k) (by omega) (by omega)
        have nb : 0 ≤ nsF H q k ∧ nsF H q k ≤ k * 1 := sm_le k0 (fun j _ _ => by (try dsimp only); split <;> omega)
        have en := nsF_s (H := H) (q := q) k0
        (try dsimp only)
        rw [m_findsSheets_43_e, if_pos y16, e137, if_neg (by rw [wr_id (by omega), wr_id (by omega)]; omega), if_pos yk, F', cell (q + k) (by omega) (by omega), show q + k + 1 = q + (k + 1) by omega]
        by_cases c32 : H (q + k) = 32
        · rw [if_neg (by rw [c32]; exact fun x => x rfl), if_pos y16, if_pos y16, j4]
          rw [if_pos c32] at en
          have v139 : (s'.up 139 (zix a) (1 + k - nsF H q k + 1)).m 139 = zfu (s'.m 139) (zix a) (1 + k - nsF H q k + 1) := u_139
          have v138 : (s'.up 139 (zix a) (1 + k - nsF H q k + 1)).m 138 = s'.m 138 := up_ne (by decide)
          refine hn' _ ⟨j1.up (Or.inr rfl), fun j b0 b1 b2 => ?_, ?_, ?_⟩
          · rw [v138, v139, zfu_z (by omega), if_neg b2]
            exact j2 j b0 b1 b2
          · rw [v138, j3, en]; omega
          · rw [v139, zfu_n, if_pos rfl, en]; omega
        · rw [if_pos (by rw [wr_id (by omega), wr_id (by omega)]; exact c32), if_pos y16, if_pos y16, j3]
          rw [if_neg c32] at en
          have v138 : (s'.up 138 (zix a) (nsF H q k + 1)).m 138 = zfu (s'.m 138) (zix a) (nsF H q k + 1) := u_138
          have v139 : (s'.up 138 (zix a) (nsF H q k + 1)).m 139 = s'.m 139 := up_ne (by decide)
          refine hn' _ ⟨j1.up (Or.inl rfl), fun j b0 b1 b2 => ?_, ?_, ?_⟩
          · rw [v138, v139, zfu_z (by omega), if_neg b2]
            exact j2 j b0 b1 b2
          · rw [v138, zfu_n, if_pos rfl, en]
          · rw [v139, j4, en]; omega
    · rw [if_neg (by rw [wr_id (by omega), wr_id (by omega)]; exact c)]
      refine hnext _ _ ⟨i1, fun w' r' a0' a1' b0 b1 b2 => i2 w' r' a0' a1' b0 b1 ?_⟩
      have s8' := sh_ok sg sh0 (s := w') a0' a1'
      refine Classical.byContradiction (fun x => c ?_)
      have e1 : a / 8 = w' := by omega
      have e2 : a % 8 = r' := by omega
      rw [e1, e2]
      exact b1
end
