/-! THE LAW'S LOOP; the law in the abstract machine. By program. -/
set_option maxRecDepth 100000 in
theorem ysg_10b : yseg 10 [(1, 3, 0, 0, []), (1, 0, 2, 0, []), (26, 0, 0, 0, []), (0, 0, 0, 6, []), (5, 1, 0, 0, []), (17, 4, 1063, 0, []), (1, 0, 2, 0, []), (1, 3, 0, 0, []), (24, 20, 0, 0, []), (0, 0, 0, 63, []), (5, 3, 0, 0, []), (19, 1061, 0, 0, [(0, 22), (1, 79), (2, 96), (3, 113), (4, 130), (5, 137), (6, 144), (7, 171), (8, 178), (9, 203), (10, 228), (11, 255), (12, 282), (13, 299), (14, 326), (15, 363), (16, 390), (17, 427), (18, 474), (19, 511), (20, 539), (21, 586), (22, 623), (23, 660), (24, 687), (25, 724), (26, 761), (27, 789), (28, 806), (29, 843), (30, 880), (31, 935), (32, 952), (33, 969), (34, 996), (35, 1013), (36, 1020), (37, 1027), (38, 1044)])] = true := by decide +kernel
set_option maxRecDepth 10000 in
theorem ysg_10 : zc_334.drop 10 = (1, 3, 0, 0, []) :: (1, 0, 2, 0, []) :: (26, 0, 0, 0, []) :: (0, 0, 0, 6, []) :: (5, 1, 0, 0, []) :: (17, 4, 1063, 0, []) :: (1, 0, 2, 0, []) :: (1, 3, 0, 0, []) :: (24, 20, 0, 0, []) :: (0, 0, 0, 63, []) :: (5, 3, 0, 0, []) :: (19, 1061, 0, 0, [(0, 22), (1, 79), (2, 96), (3, 113), (4, 130), (5, 137), (6, 144), (7, 171), (8, 178), (9, 203), (10, 228), (11, 255), (12, 282), (13, 299), (14, 326), (15, 363), (16, 390), (17, 427), (18, 474), (19, 511), (20, 539), (21, 586), (22, 623), (23, 660), (24, 687), (25, 724), (26, 761), (27, 789), (28, 806), (29, 843), (30, 880), (31, 935), (32, 952), (33, 969), (34, 996), (35, 1013), (36, 1020), (37, 1027), (38, 1044)]) :: zc_334.drop 22 := yseg_ok ysg_10b (by decide)
set_option maxRecDepth 100000 in
theorem ysg_1061b : yseg 1061 [(4, 3, 0, 6, []), (18, 10, 0, 0, []), (0, 0, 0, 1, []), (20, 3, 0, 0, [])] = true := by decide +kernel
set_option maxRecDepth 10000 in
theorem ysg_1061 : zc_334.drop 1061 = (4, 3, 0, 6, []) :: (18, 10, 0, 0, []) :: (0, 0, 0, 1, []) :: (20, 3, 0, 0, []) :: zc_334.drop 1065 := yseg_ok ysg_1061b (by decide)
set_option maxRecDepth 100000 in
theorem ysg_1063b : yseg 1063 [(0, 0, 0, 1, []), (20, 3, 0, 0, [])] = true := by decide +kernel
set_option maxRecDepth 10000 in
theorem ysg_1063 : zc_334.drop 1063 = (0, 0, 0, 1, []) :: (20, 3, 0, 0, []) :: zc_334.drop 1065 := yseg_ok ysg_1063b (by decide)
def ytab : List (Int × Nat) := [(0, 22), (1, 79), (2, 96), (3, 113), (4, 130), (5, 137), (6, 144), (7, 171), (8, 178), (9, 203), (10, 228), (11, 255), (12, 282), (13, 299), (14, 326), (15, 363), (16, 390), (17, 427), (18, 474), (19, 511), (20, 539), (21, 586), (22, 623), (23, 660), (24, 687), (25, 724), (26, 761), (27, 789), (28, 806), (29, 843), (30, 880), (31, 935), (32, 952), (33, 969), (34, 996), (35, 1013), (36, 1020), (37, 1027), (38, 1044)]
section
variable {P : zP} {d : zD P} {F : Nat → Int} {B : Int → Int} {T : Int} {i : Int} {b : Nat × Nat}
theorem y_sw (x : Int) (h : INV d F B T) (hx : ∀ k, I32 (P.2 k)) (hz : ∀ k : Int, 0 ≤ k → k < 6 → zin (i + k) P.1) : yNX P i b d (zsw ytab 1061 x) := by
  have e : zsw ytab 1061 x = if x = 0 then 22 else if x = 1 then 79 else if x = 2 then 96 else if x = 3 then 113 else if x = 4 then 130 else if x = 5 then 137 else if x = 6 then 144 else if x = 7 then 171 else if x = 8 then 178 else if x = 9 then 203 else if x = 10 then 228 else if x = 11 then 255 else if x = 12 then 282 else if x = 13 then 299 else if x = 14 then 326 else if x = 15 then 363 else if x = 16 then 390 else if x = 17 then 427 else if x = 18 then 474 else if x = 19 then 511 else if x = 20 then 539 else if x = 21 then 586 else if x = 22 then 623 else if x = 23 then 660 else if x = 24 then 687 else if x = 25 then 724 else if x = 26 then 761 else if x = 27 then 789 else if x = 28 then 806 else if x = 29 then 843 else if x = 30 then 880 else if x = 31 then 935 else if x = 32 then 952 else if x = 33 then 969 else if x = 34 then 996 else if x = 35 then 1013 else if x = 36 then 1020 else if x = 37 then 1027 else if x = 38 then 1044 else 1061 := rfl
  rw [e]
  clear e
  by_cases c : x = 0
  · rw [if_pos c]
    exact yc_0 h hx hz
  rw [if_neg c]
  clear c
  by_cases c : x = 1
  · rw [if_pos c]
    exact yc_1 h hx hz
  rw [if_neg c]
  clear c
  by_cases c : x = 2
  · rw [if_pos c]
    exact yc_2 h hx hz
  rw [if_neg c]
  clear c
  by_cases c : x = 3
  · rw [if_pos c]
    exact yc_3 h hx hz
  rw [if_neg c]
  clear c
  by_cases c : x = 4
  · rw [if_pos c]
    exact yc_4 h hx hz
  rw [if_neg c]
  clear c
  by_cases c : x = 5
  · rw [if_pos c]
    exact yc_5 h hx hz
  rw [if_neg c]
  clear c
  by_cases c : x = 6
  · rw [if_pos c]
    exact yc_6 h hx hz
  rw [if_neg c]
  clear c
  by_cases c : x = 7
  · rw [if_pos c]
    exact yc_7 h hx hz
  rw [if_neg c]
  clear c
  by_cases c : x = 8
  · rw [if_pos c]
    exact yc_8 h hx hz
  rw [if_neg c]
  clear c
  by_cases c : x = 9
  · rw [if_pos c]
    exact yc_9 h hx hz
  rw [if_neg c]
  clear c
  by_cases c : x = 10
  · rw [if_pos c]
    exact yc_10 h hx hz
  rw [if_neg c]
  clear c
  by_cases c : x = 11
  · rw [if_pos c]
    exact yc_11 h hx hz
  rw [if_neg c]
  clear c
  by_cases c : x = 12
  · rw [if_pos c]
    exact yc_12 h hx hz
  rw [if_neg c]
  clear c
  by_cases c : x = 13
  · rw [if_pos c]
    exact yc_13 h hx hz
  rw [if_neg c]
  clear c
  by_cases c : x = 14
  · rw [if_pos c]
    exact yc_14 h hx hz
  rw [if_neg c]
  clear c
  by_cases c : x = 15
  · rw [if_pos c]
    exact yc_15 h hx hz
  rw [if_neg c]
  clear c
  by_cases c : x = 16
  · rw [if_pos c]
    exact yc_16 h hx hz
  rw [if_neg c]
  clear c
  by_cases c : x = 17
  · rw [if_pos c]
    exact yc_17 h hx hz
  rw [if_neg c]
  clear c
  by_cases c : x = 18
  · rw [if_pos c]
    exact yc_18 h hx hz
  rw [if_neg c]
  clear c
  by_cases c : x = 19
  · rw [if_pos c]
    exact yc_19 h hx hz
  rw [if_neg c]
  clear c
  by_cases c : x = 20
  · rw [if_pos c]
    exact yc_20 h hx hz
  rw [if_neg c]
  clear c
  by_cases c : x = 21
  · rw [if_pos c]
    exact yc_21 h hx hz
  rw [if_neg c]
  clear c
  by_cases c : x = 22
  · rw [if_pos c]
    exact yc_22 h hx hz
  rw [if_neg c]
  clear c
  by_cases c : x = 23
  · rw [if_pos c]
    exact yc_23 h hx hz
  rw [if_neg c]
  clear c
  by_cases c : x = 24
  · rw [if_pos c]
    exact yc_24 h hx hz
  rw [if_neg c]
  clear c
  by_cases c : x = 25
  · rw [if_pos c]
    exact yc_25 h hx hz
  rw [if_neg c]
  clear c
  by_cases c : x = 26
  · rw [if_pos c]
    exact yc_26 h hx hz
  rw [if_neg c]
  clear c
  by_cases c : x = 27
  · rw [if_pos c]
    exact yc_27 h hx hz
  rw [if_neg c]
  clear c
  by_cases c : x = 28
  · rw [if_pos c]
    exact yc_28 h hx hz
  rw [if_neg c]
  clear c
  by_cases c : x = 29
  · rw [if_pos c]
    exact yc_29 h hx hz
  rw [if_neg c]
  clear c
  by_cases c : x = 30
  · rw [if_pos c]
    exact yc_30 h hx hz
  rw [if_neg c]
  clear c
  by_cases c : x = 31
  · rw [if_pos c]
    exact yc_31 h hx hz
  rw [if_neg c]
  clear c
  by_cases c : x = 32
  · rw [if_pos c]
    exact yc_32 h hx hz
  rw [if_neg c]
  clear c
  by_cases c : x = 33
  · rw [if_pos c]
    exact yc_33 h hx hz
  rw [if_neg c]
  clear c
  by_cases c : x = 34
  · rw [if_pos c]
    exact yc_34 h hx hz
  rw [if_neg c]
  clear c
  by_cases c : x = 35
  · rw [if_pos c]
    exact yc_35 h hx hz
  rw [if_neg c]
  clear c
  by_cases c : x = 36
  · rw [if_pos c]
    exact yc_36 h hx hz
  rw [if_neg c]
  clear c
  by_cases c : x = 37
  · rw [if_pos c]
    exact yc_37 h hx hz
  rw [if_neg c]
  clear c
  by_cases c : x = 38
  · rw [if_pos c]
    exact yc_38 h hx hz
  rw [if_neg c]
  clear c
  exact ⟨d, F, B, T, h, rfl⟩
theorem y_len : zstp (26, 0, 0, 0, []) (yL i, [(2, 4), (0, i)], zmk P d, b) = .inl (yL i, [(0, (P.1 : Int)), (0, i)], zmk P d, b) := by
  show (if 0 ≤ (4 : Int) ∧ ((20 ≤ (zmk P d (4 : Int).toNat).1 ∧ (zmk P d (4 : Int).toNat).1 ≤ 24) ∨ (zmk P d (4 : Int).toNat).1 = 30) then (Sum.inl (yL i, (0, (((zmk P d (4 : Int).toNat).2.1 : Nat) : Int)) :: [(0, i)], zmk P d, b) : zO) else zbad) = _
  exact if_pos ⟨by decide, Or.inr rfl⟩
theorem y_head (i0 : 0 ≤ i ∧ i ≤ 10000) (hL : P.1 ≤ 3072) : yZ P (zc_334.drop 10) i [] d b = if (P.1 : Int) - 6 < i then yZ P (zc_334.drop 1063) i [] d b else yZ P (zc_334.drop (zsw ytab 1061 (wr (zbin 3 (P.2 (zix i)) 63)))) i [] d b := by
  rw [ysg_10]
  refine (zX_next zT (s' := (yL i, [(0, i)], zmk P d, b)) (y_s1 rfl (by decide))).trans ?_
  refine (zX_next zT (s' := (yL i, [(2, 4), (0, i)], zmk P d, b)) (y_s1 rfl (by decide))).trans ?_
  refine (zX_next zT (s' := (yL i, [(0, (P.1 : Int)), (0, i)], zmk P d, b)) y_len).trans ?_
  refine (zX_next zT (s' := (yL i, [(0, 6), (0, (P.1 : Int)), (0, i)], zmk P d, b)) rfl).trans ?_
  refine (zX_next zT (s' := (yL i, [(0, (P.1 : Int) - 6), (0, i)], zmk P d, b)) rfl).trans ?_
  have hs : zstp (17, 4, 1063, 0, []) (yL i, [(0, (P.1 : Int) - 6), (0, i)], zmk P d, b) = if zcond 4 i ((P.1 : Int) - 6) then .inr (.inl (1063, (yL i, [], zmk P d, b))) else .inl (yL i, [], zmk P d, b) := rfl
  have ec : zcond 4 i ((P.1 : Int) - 6) = decide ((P.1 : Int) - 6 < i) := by
    show decide (wr ((P.1 : Int) - 6) < wr i) = _
    rw [wr_id (by omega), wr_id (by omega)]
  by_cases c : (P.1 : Int) - 6 < i
  · rw [if_pos c]
    rw [ec, decide_eq_true c] at hs
    exact zX_jump zT hs
  · rw [if_neg c]
    rw [ec, decide_eq_false c] at hs
    refine (zX_next zT hs).trans ?_
    refine (zX_next zT (s' := (yL i, [(2, 4)], zmk P d, b)) (y_s1 rfl (by decide))).trans ?_
    refine (zX_next zT (s' := (yL i, [(0, i), (2, 4)], zmk P d, b)) (y_s1 rfl (by decide))).trans ?_
    refine (l_load (zin_id (by omega) |>.mpr (by omega))).trans ?_
    refine (zX_next zT (s' := (yL i, [(0, 63), (0, P.2 (zix i))], zmk P d, b)) rfl).trans ?_
    refine (zX_next zT (s' := (yL i, [(0, zbin 3 (P.2 (zix i)) 63)], zmk P d, b)) rfl).trans ?_
    exact zX_jump zT rfl
theorem y_tail : yZ P (zc_334.drop 1061) i [] d b = yZ P (zc_334.drop 10) (i + 6) [] d b := by
  rw [ysg_1061]
  exact (zX_next zT (s' := (yL (i + 6), [], zmk P d, b)) (y_s4 (v := i) rfl rfl)).trans (zX_jump zT rfl)
theorem y_loop (hx : ∀ k, I32 (P.2 k)) (hL : P.1 ≤ 3072) : ∀ (n : Nat) (i : Int) (d : zD P) (F : Nat → Int) (B : Int → Int) (T : Int), 0 ≤ i → (P.1 : Int) - i ≤ 6 * n → i ≤ 3072 + 6 → INV d F B T → ∃ w', yZ P (zc_334.drop 10) i [] d b = some ([(0, 1)], w')
  | 0, i, d, F, B, T, i0, i1, i2, h => by
    rw [y_head (by omega) hL, if_pos (by omega), ysg_1063]
    exact ⟨zmk P d, (zX_next zT (s' := (yL i, [(0, 1)], zmk P d, b)) rfl).trans (zX_ret zT rfl)⟩
  | n + 1, i, d, F, B, T, i0, i1, i2, h => by
    rw [y_head (by omega) hL]
    by_cases c : (P.1 : Int) - 6 < i
    · rw [if_pos c, ysg_1063]
      exact ⟨zmk P d, (zX_next zT (s' := (yL i, [(0, 1)], zmk P d, b)) rfl).trans (zX_ret zT rfl)⟩
    · rw [if_neg c]
      obtain ⟨d', F', B', T', inv, e⟩ := y_sw (i := i) (b := b) (wr (zbin 3 (P.2 (zix i)) 63)) h hx (fun k k0 k1 => zin_id (by omega) |>.mpr (by omega))
      rw [e, y_tail]
      exact y_loop hx hL n (i + 6) d' F' B' T' (by omega) (by omega) (by omega) inv
end
set_option maxRecDepth 100000 in
theorem ysg_2b : yseg 2 [(33, 229, 1, 0, [(0, 121), (0, 27958)])] = true := by decide +kernel
set_option maxRecDepth 10000 in
theorem ysg_2 : zc_334.drop 2 = (33, 229, 1, 0, [(0, 121), (0, 27958)]) :: zc_334.drop 3 := yseg_ok ysg_2b (by decide)
set_option maxRecDepth 100000 in
theorem ysg_6b : yseg 6 [(33, 286, 1, 0, [(0, 26), (0, 32597)]), (2, 2, 2, 0, []), (0, 0, 0, 0, []), (2, 3, 0, 0, [])] = true := by decide +kernel
set_option maxRecDepth 10000 in
theorem ysg_6 : zc_334.drop 6 = (33, 286, 1, 0, [(0, 26), (0, 32597)]) :: (2, 2, 2, 0, []) :: (0, 0, 0, 0, []) :: (2, 3, 0, 0, []) :: zc_334.drop 10 := yseg_ok ysg_6b (by decide)
set_option maxRecDepth 100000 in
theorem ykr_l1 : yeqP (ykpr 2 zc_334 ([(2, 4), (3, 0), (3, 0), (3, 0)], [], [], 600000, 7302250)) (zc_334.drop 2) [(2, 4), (3, 0), (3, 0), (3, 0)] [(2, 10), (2, 10)] [ykc0] 599999 7302237 = true := by decide +kernel
set_option maxRecDepth 100000 in
theorem ykr_l2 : yeqP (ykpr 3 (zc_334.drop 3) ([(2, 4), (3, 0), (3, 0), (3, 0)], [(2, 10)], ykcA, 599878, 7274279)) (zc_334.drop 6) [(2, 4), (2, 10), (3, 0), (3, 0)] [(2, 132), (2, 132)] (ykcA ++ [ykc4]) 599877 7274243 = true := by decide +kernel
theorem y_start {L : Nat} {xs : Nat → Int} {v : Int} {d2 : zD (L, xs)} (e : m_makesNew (ykD (L, xs)) = some (v, d2)) : zF zT 334 [(2, 4)] (wini L xs) = yZ (L, xs) (zc_334.drop 10) 0 [] d2 (599851, 7241646) := by
  have e0 : zF zT 334 [(2, 4)] (wini L xs) = zX zT zc_334 zc_334 (ykaS (L, xs) ([(2, 4), (3, 0), (3, 0), (3, 0)], [], [], 600000, 7302250)) := by
    unfold zF
    rw [zT_334, if_pos (by decide), ywini_kw]
    rfl
  have c1 : zstp (33, 229, 1, 0, [(0, 121), (0, 27958)]) ([(2, 4), (3, 0), (3, 0), (3, 0)], [(2, 10), (2, 10)], ykw (L, xs) [ykc0], 599999, 7302237) = .inr (.inr (.inr (.inl (229, [(2, 10)], ([(2, 4), (3, 0), (3, 0), (3, 0)], [(2, 10)], ykw (L, xs) [ykc0], 599878, 7274279))))) := by
    show (if 0 ≤ (10 : Int) ∧ 121 ≤ 599999 ∧ 27958 ≤ 7302237 then (Sum.inr (.inr (.inr (.inl (229, [(2, 10)], ([(2, 4), (3, 0), (3, 0), (3, 0)], [(2, 10)], ykw (L, xs) [ykc0], 599999 - 121, 7302237 - 27958))))) : zO) else zbad) = _
    exact if_pos ⟨by decide, by decide, by decide⟩
  have c2 : zstp (33, 286, 1, 0, [(0, 26), (0, 32597)]) ([(2, 4), (2, 10), (3, 0), (3, 0)], [(2, 132), (2, 132)], ykw (L, xs) (ykcA ++ [ykc4]), 599877, 7274243) = .inr (.inr (.inr (.inl (286, [(2, 132)], ([(2, 4), (2, 10), (3, 0), (3, 0)], [(2, 132)], ykw (L, xs) (ykcA ++ [ykc4]), 599851, 7241646))))) := by
    show (if 0 ≤ (132 : Int) ∧ 26 ≤ 599877 ∧ 32597 ≤ 7274243 then (Sum.inr (.inr (.inr (.inl (286, [(2, 132)], ([(2, 4), (2, 10), (3, 0), (3, 0)], [(2, 132)], ykw (L, xs) (ykcA ++ [ykc4]), 599877 - 26, 7274243 - 32597))))) : zO) else zbad) = _
    exact if_pos ⟨by decide, by decide, by decide⟩
  have eM : MM (L, xs) 265 [(2, 132)] (ykD (L, xs)) = some (v, d2) := e
  rw [e0, ykpr_ok _ _ _ _ _ (yeqP_ok ykr_l1), ysg_2]
  show zX zT zc_334 ((33, 229, 1, 0, [(0, 121), (0, 27958)]) :: zc_334.drop 3) ([(2, 4), (3, 0), (3, 0), (3, 0)], [(2, 10), (2, 10)], ykw (L, xs) [ykc0], 599999, 7302237) = _
  rw [zX_call zT c1, zF_229, Option.bind_some]
  show zX zT zc_334 (zc_334.drop 3) (ykaS (L, xs) ([(2, 4), (3, 0), (3, 0), (3, 0)], [(2, 10)], ykcA, 599878, 7274279)) = _
  rw [ykpr_ok _ _ _ _ _ (yeqP_ok ykr_l2), ysg_6]
  show zX zT zc_334 ((33, 286, 1, 0, [(0, 26), (0, 32597)]) :: (2, 2, 2, 0, []) :: (0, 0, 0, 0, []) :: (2, 3, 0, 0, []) :: zc_334.drop 10) ([(2, 4), (2, 10), (3, 0), (3, 0)], [(2, 132), (2, 132)], ykw (L, xs) (ykcA ++ [ykc4]), 599877, 7274243) = _
  rw [zX_call zT c2, zF_286, eM]
  refine (zX_next zT (s' := ([(2, 4), (2, 10), (2, 132), (3, 0)], [], zmk (L, xs) d2, 599851, 7241646)) (y_s2 (by decide) rfl)).trans ?_
  refine (zX_next zT (s' := ([(2, 4), (2, 10), (2, 132), (3, 0)], [(0, 0)], zmk (L, xs) d2, 599851, 7241646)) rfl).trans ?_
  exact zX_next zT (s' := (yL 0, [], zmk (L, xs) d2, 599851, 7241646)) (y_s2 (by decide) rfl)
/-- THE LAW, in the abstract machine -/
theorem zlaw : zLaw := fun L xs hL hx => by
  obtain ⟨v, d2, e, inv⟩ := y_made (P := (L, xs))
  rw [y_start e]
  exact y_loop (fun k => by have := hx k; unfold I32; exact this) hL 513 0 d2 _ _ _ (by omega) (by show (L : Int) - 0 ≤ _; omega) (by omega) inv
