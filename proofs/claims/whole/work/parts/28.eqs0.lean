/-! Their equations. -/
set_option maxRecDepth 100000 in
theorem co_allPlaces_e {P : zP} {d : zD P} {a1 : Int} : co_allPlaces d a1 = co_allPlaces_4 d a1 0 0 := e_0 (a0 := 14) rfl
set_option maxRecDepth 100000 in
theorem co_allPlaces_4_e {P : zP} {d : zD P} {a1 : Int} {a2 : Int} {a3 : Int} : co_allPlaces_4 d a1 a2 a3 = (if wr ((d.m 14 6)) ≤ wr a3 then some (a2, d) else (if zin a1 2 then (if zin a3 24 then co_allPlaces_4 d a1 ((a2 + (d.m ((22 + (1 + zix a1))) (zix a3)))) ((a3 + 1)) else none) else none)) := q_0_4 (a0 := 14) rfl
set_option maxRecDepth 100000 in
theorem co_arePartners_e {P : zP} {d : zD P} {a1 : Int} {a2 : Int} {a3 : Int} : co_arePartners d a1 a2 a3 = (if wr a2 < 0 then some (0, d) else (if wr 40 ≤ wr a2 then some (0, d) else (if zin a1 2 then (if zin a2 40 then (if wrl ((zlbin 3 ((zlsh 1 ((d.m ((19 + (1 + zix a1))) (zix a2))) a3)) 1)) = wrl 0 then some (0, d) else some (1, d)) else none) else none))) := e_1 (a0 := 14) rfl
set_option maxRecDepth 100000 in
theorem co_dictionaryPlace_e {P : zP} {d : zD P} {a1 : Int} {a2 : Int} : co_dictionaryPlace d a1 a2 = co_dictionaryPlace_4 d a1 a2 0 0 := e_2 (a0 := 14) rfl
set_option maxRecDepth 100000 in
theorem co_dictionaryPlace_4_e {P : zP} {d : zD P} {a1 : Int} {a2 : Int} {a3 : Int} {a4 : Int} : co_dictionaryPlace_4 d a1 a2 a3 a4 = (if zin a1 2 then (if wr ((d.m 15 (zix a1))) ≤ wr a4 then some (a3, d) else (if zin a1 2 then (if zin a4 40 then (if zin a1 2 then (if zin a2 40 then (if wrl ((d.m ((16 + (1 + zix a1))) (zix a2))) ≤ wrl ((d.m ((16 + (1 + zix a1))) (zix a4))) then co_dictionaryPlace_4 d a1 a2 a3 ((a4 + 1)) else co_dictionaryPlace_4 d a1 a2 ((a3 + 1)) ((a4 + 1))) else none) else none) else none) else none)) else none) := q_2_4 (a0 := 14) rfl
set_option maxRecDepth 100000 in
theorem co_numberOf_e {P : zP} {d : zD P} {a1 : Int} {a2 : Int} {a4 : Int} : co_numberOf d a1 a2 a4 = co_numberOf_2 d a1 a2 (3, 0) a4 0 := e_3 (a0 := 14) rfl
set_option maxRecDepth 100000 in
theorem co_numberOf_2_e {P : zP} {d : zD P} {a1 : Int} {a2 : Int} {g3 : zV} {a4 : Int} {a5 : Int} : co_numberOf_2 d a1 a2 g3 a4 a5 = (if wr a4 ≤ wr a5 then some ((-1), d) else (if wr 40 ≤ wr a5 then some ((-1), d) else (if zin a1 2 then (if zin a5 40 then (if wrl ((d.m ((16 + (1 + zix a1))) (zix a5))) ≠ wrl a2 then co_numberOf_2 d a1 a2 g3 a4 ((a5 + 1)) else some (a5, d)) else none) else none))) := q_3_2 (a0 := 14) rfl
set_option maxRecDepth 100000 in
theorem co_setTold_e {P : zP} {d : zD P} {a1 : Int} {a2 : Int} {a3 : Int} {a4 : Int} : co_setTold d a1 a2 a3 a4 = (if zin (((a1 * 6) + a2)) 144 then (if wr a4 = 0 then (if wr ((zbin 3 ((zbin 8 ((d.m 28 (zix (((a1 * 6) + a2))))) a3)) 1)) ≠ wr 0 then (if zin (((a1 * 6) + a2)) 144 then (if zin (((a1 * 6) + a2)) 144 then some (1, (d.up 28 (zix (((a1 * 6) + a2))) ((zbin 5 ((d.m 28 (zix (((a1 * 6) + a2))))) ((zbin 6 1 a3)))))) else none) else none) else some (0, d)) else (if wr ((zbin 3 ((zbin 8 ((d.m 28 (zix (((a1 * 6) + a2))))) a3)) 1)) ≠ wr 1 then (if zin (((a1 * 6) + a2)) 144 then (if zin (((a1 * 6) + a2)) 144 then some (1, (d.up 28 (zix (((a1 * 6) + a2))) ((zbin 5 ((d.m 28 (zix (((a1 * 6) + a2))))) ((zbin 6 1 a3)))))) else none) else none) else some (0, d))) else none) := e_4 (a0 := 14) rfl
set_option maxRecDepth 100000 in
theorem co_wordAt_e {P : zP} {d : zD P} {a1 : Int} {a2 : Int} {a3 : Int} : co_wordAt d a1 a2 a3 = (if wr (((a2 * 6) + a3)) < 0 then some (0, d) else (if wr 144 ≤ wr (((a2 * 6) + a3)) then some (0, d) else (if zin a1 2 then (if zin (((a2 * 6) + a3)) 144 then some ((d.m ((25 + (1 + zix a1))) (zix (((a2 * 6) + a3)))), d) else none) else none))) := e_5 (a0 := 14) rfl
set_option maxRecDepth 100000 in
theorem li_bareRows_e {P : zP} {d : zD P}  : li_bareRows d = li_bareRows_4 d 0 0 := e_6 (a0 := 115) rfl
set_option maxRecDepth 100000 in
theorem li_bareRows_4_e {P : zP} {d : zD P} {a1 : Int} {a2 : Int} : li_bareRows_4 d a1 a2 = (if wr ((d.m 115 4)) ≤ wr a2 then some (a1, d) else (if zin a2 6 then (if wr ((d.m 119 (zix a2))) ≠ 0 then li_bareRows_4 d a1 ((a2 + 1)) else li_bareRows_4 d ((zbin 4 a1 ((zbin 6 1 a2)))) ((a2 + 1))) else none)) := q_6_4 (a0 := 115) rfl
set_option maxRecDepth 100000 in
theorem li_columnsWithLinks_e {P : zP} {d : zD P}  : li_columnsWithLinks d = li_columnsWithLinks_4 d 0 0 := e_7 (a0 := 115) rfl
set_option maxRecDepth 100000 in
theorem li_columnsWithLinks_4_e {P : zP} {d : zD P} {a1 : Int} {a2 : Int} : li_columnsWithLinks_4 d a1 a2 = (if wr ((d.m 115 4)) ≤ wr a2 then some (a1, d) else (if zin a2 6 then li_columnsWithLinks_4 d ((zbin 4 a1 ((d.m 119 (zix a2))))) ((a2 + 1)) else none)) := q_7_4 (a0 := 115) rfl
set_option maxRecDepth 100000 in
theorem li_firstLinks_e {P : zP} {d : zD P} {a1 : Int} {a2 : Int} : li_firstLinks d a1 a2 = (if wr a1 = 0 then (if zin a2 6 then some ((d.m 116 (zix a2)), d) else none) else (if wr a1 = 1 then (if zin a2 6 then some ((d.m 117 (zix a2)), d) else none) else (if wr a1 = 2 then (if zin a2 6 then (if zin a2 6 then some ((zbin 3 ((d.m 116 (zix a2))) ((d.m 117 (zix a2)))), d) else none) else none) else (if wr a1 = 3 then (if zin a2 6 then some ((d.m 118 (zix a2)), d) else none) else (if zin a2 6 then (if zin a2 6 then some ((zbin 3 ((d.m 116 (zix a2))) ((d.m 117 (zix a2)))), d) else none) else none))))) := e_8 (a0 := 115) rfl
set_option maxRecDepth 100000 in
theorem li_mayCome_e {P : zP} {d : zD P} {a1 : Int} {a2 : Int} : li_mayCome d a1 a2 = (if zin a1 6 then (if zin a1 6 then (if wr ((zbin 3 ((zbin 3 ((d.m 118 (zix a1))) ((zbin 5 ((d.m 119 (zix a1))) ((-1)))))) ((zbin 6 1 a2)))) = 0 then some (0, d) else some (1, d)) else none) else none) := e_9 (a0 := 115) rfl
set_option maxRecDepth 100000 in
theorem li_spanEnd_e {P : zP} {d : zD P} {a0 : Int} : li_spanEnd d a0 = some ((((zdiv 0 a0 3) + (zdiv 1 a0 3)) + 1), d) := e_10 
set_option maxRecDepth 100000 in
theorem li_spanStart_e {P : zP} {d : zD P} {a0 : Int} : li_spanStart d a0 = some ((zdiv 0 a0 3), d) := e_11 
set_option maxRecDepth 100000 in
theorem ma_wholeCost_e {P : zP} {d : zD P}  : ma_wholeCost d = (if zin 0 81 then some ((d.m 104 (zix 0)), d) else none) := e_12 (a0 := 103) rfl
set_option maxRecDepth 100000 in
theorem pa_allWeights_e {P : zP} {d : zD P}  : pa_allWeights d = pa_allWeights_4 d 0 (3, 0) 0 := e_13 (a0 := 109) rfl
set_option maxRecDepth 100000 in
theorem pa_allWeights_4_e {P : zP} {d : zD P} {a1 : Int} {g2 : zV} {a3 : Int} : pa_allWeights_4 d a1 g2 a3 = (if wr ((d.m 109 3)) ≤ wr a3 then some (a1, d) else (if zin a3 40 then pa_allWeights_4 d ((a1 + (d.m 110 (zix a3)))) (3, 0) ((a3 + 1)) else none)) := q_13_4 (a0 := 109) rfl
set_option maxRecDepth 100000 in
theorem pa_clear_e {P : zP} {d : zD P}  : pa_clear d = some (0, (d.up 109 3 0)) := e_14 (a0 := 109) rfl
set_option maxRecDepth 100000 in
theorem pa_dealOneMore_e {P : zP} {d : zD P}  : pa_dealOneMore d = pa_dealOneMore_4 d 0 1 := e_15 (a0 := 109) rfl
set_option maxRecDepth 100000 in
theorem pa_dealOneMore_4_e {P : zP} {d : zD P} {a1 : Int} {a2 : Int} : pa_dealOneMore_4 d a1 a2 = (if wr ((d.m 109 3)) ≤ wr a2 then (if zin a1 40 then (if zin a1 40 then (if zin a1 40 then some (0, (((d.up 112 (zix a1) (((d.m 112 (zix a1)) + 1)))).up 111 (zix a1) ((-1)))) else none) else none) else none) else (if zin a2 40 then (if zin a1 40 then (if wrl ((d.m 111 (zix a2))) ≤ wrl ((d.m 111 (zix a1))) then pa_dealOneMore_4 d a1 ((a2 + 1)) else pa_dealOneMore_4 d a2 ((a2 + 1))) else none) else none)) := q_15_4 (a0 := 109) rfl
set_option maxRecDepth 100000 in
theorem pa_got_e {P : zP} {d : zD P} {a1 : Int} : pa_got d a1 = (if wr a1 < 0 then some (0, d) else (if wr ((d.m 109 3)) ≤ wr a1 then some (0, d) else (if zin a1 40 then some ((d.m 112 (zix a1)), d) else none))) := e_16 (a0 := 109) rfl
set_option maxRecDepth 100000 in
theorem pa_weigh_e {P : zP} {d : zD P} {a1 : Int} : pa_weigh d a1 = (if wr 40 ≤ wr ((d.m 109 3)) then some (0, d) else (if zin ((d.m 109 3)) 40 then some (0, (((d.up 110 (zix ((d.m 109 3))) a1)).up 109 3 (((((d.up 110 (zix ((d.m 109 3))) a1)).m 109 3) + 1)))) else none)) := e_17 (a0 := 109) rfl
set_option maxRecDepth 100000 in
theorem ph_placeFor_e {P : zP} {d : zD P} {a1 : Int} : ph_placeFor d a1 = ph_placeFor_7 d a1 (3, 0) 0 ((d.m 122 2)) 0 (3, 0) := e_18 (a0 := 122) rfl
set_option maxRecDepth 100000 in
theorem ph_placeFor_7_e {P : zP} {d : zD P} {a1 : Int} {g2 : zV} {a3 : Int} {a4 : Int} {a5 : Int} {g6 : zV} : ph_placeFor_7 d a1 g2 a3 a4 a5 g6 = (if wr a4 ≤ wr a3 then some (a3, d) else (if wr 32 ≤ wr a5 then some (a3, d) else (if zin ((zdiv 0 ((a3 + a4)) 2)) 5400 then (if wrl a1 ≤ wrl ((d.m 123 (zix ((zdiv 0 ((a3 + a4)) 2))))) then ph_placeFor_7 d a1 g2 a3 ((zdiv 0 ((a3 + a4)) 2)) ((a5 + 1)) (0, (zdiv 0 ((a3 + a4)) 2)) else ph_placeFor_7 d a1 (if (g2).1 = 1 then (3, 0) else g2) (((zdiv 0 ((a3 + a4)) 2) + 1)) a4 ((a5 + 1)) (0, (zdiv 0 ((a3 + a4)) 2))) else none))) := q_18_7 (a0 := 122) rfl
set_option maxRecDepth 100000 in
theorem ph_rowBoxes_e {P : zP} {d : zD P} {a1 : Int} : ph_rowBoxes d a1 = (if zin a1 5400 then ph_rowBoxes_11 d (0, a1) ((zlsh 1 ((d.m 123 (zix a1))) 18)) (3, 0) 0 0 else none) := e_19 (a0 := 122) rfl
set_option maxRecDepth 100000 in
theorem ph_rowBoxes_11_e {P : zP} {d : zD P} {g1 : zV} {a2 : Int} {g3 : zV} {a4 : Int} {a5 : Int} : ph_rowBoxes_11 d g1 a2 g3 a4 a5 = (if wr ((d.m 122 2)) ≤ wr a5 then some (a4, d) else (if zin a5 5400 then (if wrl ((zlsh 1 ((d.m 123 (zix a5))) 18)) ≠ wrl a2 then ph_rowBoxes_11 d g1 a2 g3 a4 ((a5 + 1)) else (if zin a5 5400 then ph_rowBoxes_11 d g1 a2 (if (g3).1 = 1 then (3, 0) else g3) ((a4 + (d.m 124 (zix a5)))) ((a5 + 1)) else none)) else none)) := q_19_11 (a0 := 122) rfl
set_option maxRecDepth 100000 in
theorem ph_wordOf_e {P : zP} {d : zD P} {a1 : Int} {a2 : Int} {a3 : Int} : ph_wordOf d a1 a2 a3 = (if wr a2 ≠ 0 then (if zin a1 5400 then some (((zbin 3 ((zlsh 1 ((d.m 123 (zix a1))) ((6 * (2 - a3))))) 63) - 1), d) else none) else (if zin a1 5400 then some (((zbin 3 ((zlsh 1 ((zlsh 1 ((d.m 123 (zix a1))) 18)) ((6 * (2 - a3))))) 63) - 1), d) else none)) := e_20 (a0 := 122) rfl
set_option maxRecDepth 100000 in
theorem pu_bring_e {P : zP} {d : zD P} {a1 : Int} : pu_bring d a1 = (if wr 24 ≤ wr ((d.m 125 8)) then some (0, d) else (if zin ((d.m 125 8)) 24 then some (0, (((d.up 131 (zix ((d.m 125 8))) a1)).up 125 8 (((((d.up 131 (zix ((d.m 125 8))) a1)).m 125 8) + 1)))) else none)) := e_21 (a0 := 125) rfl
set_option maxRecDepth 100000 in
theorem pu_offer_e {P : zP} {d : zD P} {a1 : Int} {a2 : Int} {a3 : Int} {a4 : Int} : pu_offer d a1 a2 a3 a4 = (if zin ((a1 + a4)) 9 then (if zin ((a1 + a4)) 9 then (if zin a1 8 then (if wr ((d.m 129 (zix a1))) = wr ((-1)) then (if zin a1 8 then (if zin a1 9 then (if zin a1 9 then some (0, (((((d.up 129 (zix a1) a2)).up 127 (zix a1) ((a3 + (d.m 127 (zix ((a1 + a4)))))))).up 128 (zix a1) ((1 + (d.m 128 (zix ((a1 + a4)))))))) else none) else none) else none) else (if zin a1 9 then (if wr ((a3 + (d.m 127 (zix ((a1 + a4)))))) < wr ((d.m 127 (zix a1))) then (if zin a1 8 then (if zin a1 9 then (if zin a1 9 then some (0, (((((d.up 129 (zix a1) a2)).up 127 (zix a1) ((a3 + (d.m 127 (zix ((a1 + a4)))))))).up 128 (zix a1) ((1 + (d.m 128 (zix ((a1 + a4)))))))) else none) else none) else none) else (if zin a1 9 then (if wr ((a3 + (d.m 127 (zix ((a1 + a4)))))) ≠ wr ((d.m 127 (zix a1))) then some (0, d) else (if zin a1 9 then (if wr ((d.m 128 (zix a1))) ≤ wr ((1 + (d.m 128 (zix ((a1 + a4)))))) then some (0, d) else (if zin a1 8 then (if zin a1 9 then (if zin a1 9 then some (0, (((((d.up 129 (zix a1) a2)).up 127 (zix a1) ((a3 + (d.m 127 (zix ((a1 + a4)))))))).up 128 (zix a1) ((1 + (d.m 128 (zix ((a1 + a4)))))))) else none) else none) else none)) else none)) else none)) else none)) else none) else none) else none) := e_22 (a0 := 125) rfl
set_option maxRecDepth 100000 in
theorem pu_wholeCost_e {P : zP} {d : zD P}  : pu_wholeCost d = (if zin 0 9 then some ((d.m 127 (zix 0)), d) else none) := e_23 (a0 := 125) rfl
set_option maxRecDepth 100000 in
theorem rw_clear_e {P : zP} {d : zD P} {a0 : Nat} (ha0 : zkd a0 = 7) : rw_clear d a0 = some (0, (d.up a0 2 0)) := e_24 ha0
set_option maxRecDepth 100000 in
theorem rw_lengthOf_e {P : zP} {d : zD P} {a0 : Nat} {a1 : Int} (ha0 : zkd a0 = 7) : rw_lengthOf d a0 a1 = (if wr a1 < 0 then some (0, d) else (if wr ((d.m a0 2)) ≤ wr a1 then some (0, d) else (if zin a1 12 then some ((d.m ((a0 + 1)) (zix a1)), d) else none))) := e_25 ha0
set_option maxRecDepth 100000 in
theorem rw_open_e {P : zP} {d : zD P} {a0 : Nat} (ha0 : zkd a0 = 7) : rw_open d a0 = (if wr 12 ≤ wr ((d.m a0 2)) then some (0, d) else (if zin ((d.m a0 2)) 12 then some (0, (((d.up ((a0 + 1)) (zix ((d.m a0 2))) 0)).up a0 2 (((((d.up ((a0 + 1)) (zix ((d.m a0 2))) 0)).m a0 2) + 1)))) else none)) := e_26 ha0
set_option maxRecDepth 100000 in
theorem rw_push_e {P : zP} {d : zD P} {a0 : Nat} {a1 : Int} (ha0 : zkd a0 = 7) : rw_push d a0 a1 = (if wr (((d.m a0 2) - 1)) < 0 then some (0, d) else (if zin (((d.m a0 2) - 1)) 12 then (if wr 8 ≤ wr ((d.m ((a0 + 1)) (zix (((d.m a0 2) - 1))))) then some (0, d) else (if zin (((d.m a0 2) - 1)) 12 then (if zin (((((d.m a0 2) - 1) * 8) + (d.m ((a0 + 1)) (zix (((d.m a0 2) - 1)))))) 96 then (if zin (((d.m a0 2) - 1)) 12 then (if zin (((d.m a0 2) - 1)) 12 then some (0, (((d.up ((a0 + 2)) (zix (((((d.m a0 2) - 1) * 8) + (d.m ((a0 + 1)) (zix (((d.m a0 2) - 1))))))) a1)).up ((a0 + 1)) (zix (((d.m a0 2) - 1))) (((((d.up ((a0 + 2)) (zix (((((d.m a0 2) - 1) * 8) + (d.m ((a0 + 1)) (zix (((d.m a0 2) - 1))))))) a1)).m ((a0 + 1)) (zix (((d.m a0 2) - 1)))) + 1)))) else none) else none) else none) else none)) else none)) := e_27 ha0
set_option maxRecDepth 100000 in
theorem sh_index_e {P : zP} {d : zD P} {a0 : Int} {a1 : Int} {a2 : Int} {a3 : Int} : sh_index d a0 a1 a2 a3 = some (((((((a0 * 7) + a1) * 7) + a2) * 7) + a3), d) := e_28 
set_option maxRecDepth 100000 in
theorem st_fullShares_e {P : zP} {d : zD P} {a1 : Int} : st_fullShares d a1 = st_fullShares_4 d a1 0 0 := e_29 (a0 := 13) rfl
set_option maxRecDepth 100000 in
theorem st_fullShares_4_e {P : zP} {d : zD P} {a1 : Int} {a2 : Int} {a3 : Int} : st_fullShares_4 d a1 a2 a3 = (if wr 1600 ≤ wr a3 then some (a2, d) else (if zin a1 2 then (if zin a3 1600 then (if wr ((d.m ((35 + (1 + zix a1))) (zix a3))) = 0 then st_fullShares_4 d a1 a2 ((a3 + 1)) else st_fullShares_4 d a1 ((a2 + 1)) ((a3 + 1))) else none) else none)) := q_29_4 (a0 := 13) rfl
set_option maxRecDepth 100000 in
theorem st_hasSheets_e {P : zP} {d : zD P}  : st_hasSheets d = (if wr ((d.m 29 2)) ≤ 0 then some (0, d) else some (1, d)) := e_30 (a0 := 13) rfl
set_option maxRecDepth 100000 in
theorem st_othersThan_e {P : zP} {d : zD P} {a2 : Int} : st_othersThan d a2 = st_othersThan_4 d a2 0 0 := e_31 (a0 := 13) rfl (a1 := 69) rfl
set_option maxRecDepth 100000 in
theorem st_othersThan_4_e {P : zP} {d : zD P} {a2 : Int} {a3 : Int} {a4 : Int} : st_othersThan_4 d a2 a3 a4 = (if wr 1600 ≤ wr a4 then some (a3, d) else (if zin a2 2 then (if zin a4 1600 then (if zin a2 2 then (if zin a4 1600 then (if wr ((d.m ((35 + (1 + zix a2))) (zix a4))) = wr ((d.m ((91 + (1 + zix a2))) (zix a4))) then st_othersThan_4 d a2 a3 ((a4 + 1)) else st_othersThan_4 d a2 ((a3 + 1)) ((a4 + 1))) else none) else none) else none) else none)) := q_31_4 (a0 := 13) rfl (a1 := 69) rfl
set_option maxRecDepth 100000 in
theorem st_shareOf_e {P : zP} {d : zD P} {a1 : Int} {a2 : Int} {a3 : Int} : st_shareOf d a1 a2 a3 = (if wr (((a2 * 40) + a3)) < 0 then some (0, d) else (if wr 1600 ≤ wr (((a2 * 40) + a3)) then some (0, d) else (if zin a1 2 then (if zin (((a2 * 40) + a3)) 1600 then some ((d.m ((35 + (1 + zix a1))) (zix (((a2 * 40) + a3)))), d) else none) else none))) := e_32 (a0 := 13) rfl
set_option maxRecDepth 100000 in
theorem st_slant_e {P : zP} {d : zD P} {a1 : Int} {a2 : Int} {a3 : Int} {a4 : Int} : st_slant d a1 a2 a3 a4 = (if zin ((1 - a1)) 2 then (if zin a2 24 then (if zin a1 2 then (if zin a2 24 then (if 0 ≤ wr (((a3 * (d.m ((22 + (1 + zix ((1 - a1))))) (zix a2))) - (a4 * (d.m ((22 + (1 + zix a1))) (zix a2))))) then some (((a3 * (d.m ((22 + (1 + zix ((1 - a1))))) (zix a2))) - (a4 * (d.m ((22 + (1 + zix a1))) (zix a2)))), d) else some ((-((a3 * (d.m ((22 + (1 + zix ((1 - a1))))) (zix a2))) - (a4 * (d.m ((22 + (1 + zix a1))) (zix a2))))), d)) else none) else none) else none) else none) := e_33 (a0 := 13) rfl
set_option maxRecDepth 100000 in
theorem tp_begin_e {P : zP} {d : zD P} {a1 : Int} : tp_begin d a1 = some (0, (((((d.up 11 2 a1)).up 11 3 0)).up 11 4 0)) := e_34 (a0 := 11) rfl
set_option maxRecDepth 100000 in
theorem tp_byteAt_e {P : zP} {d : zD P} {a1 : Int} : tp_byteAt d a1 = (if wr a1 < 0 then some ((-1), d) else (if wr ((d.m 11 1)) ≤ wr a1 then some ((-1), d) else (if zin a1 240 then some ((d.m 12 (zix a1)), d) else none))) := e_35 (a0 := 11) rfl
set_option maxRecDepth 100000 in
theorem tp_clear_e {P : zP} {d : zD P}  : tp_clear d = some (0, (d.up 11 1 0)) := e_36 (a0 := 11) rfl
set_option maxRecDepth 100000 in
theorem tp_fail_e {P : zP} {d : zD P} {a1 : Int} : tp_fail d a1 = some (0, (d.up 11 4 a1)) := e_37 (a0 := 11) rfl
set_option maxRecDepth 100000 in
theorem tp_faultAnswer_e {P : zP} {d : zD P}  : tp_faultAnswer d = some ((((-1000) * (d.m 11 4)) - (d.m 11 3)), d) := e_38 (a0 := 11) rfl
set_option maxRecDepth 100000 in
theorem tp_hasRoom_e {P : zP} {d : zD P} {a1 : Int} : tp_hasRoom d a1 = (if wr 240 < wr (((d.m 11 1) + a1)) then some (0, d) else some (1, d)) := e_39 (a0 := 11) rfl
set_option maxRecDepth 100000 in
theorem tp_here_e {P : zP} {d : zD P}  : tp_here d = (if wr ((d.m 11 2)) ≤ wr ((d.m 11 3)) then some ((-1), d) else (if wr ((d.m 11 1)) ≤ wr ((d.m 11 3)) then some ((-1), d) else (if zin ((d.m 11 3)) 240 then some ((d.m 12 (zix ((d.m 11 3)))), d) else none))) := e_40 (a0 := 11) rfl
set_option maxRecDepth 100000 in
theorem tp_holds_e {P : zP} {d : zD P} {a1 : Int} : tp_holds d a1 = (if wr ((d.m 11 1)) < wr a1 then some (0, d) else some (1, d)) := e_41 (a0 := 11) rfl
set_option maxRecDepth 100000 in
theorem tp_put_e {P : zP} {d : zD P} {a1 : Int} : tp_put d a1 = tp_put_2 d a1 24 := e_42 (a0 := 11) rfl
set_option maxRecDepth 100000 in
theorem tp_put_2_e {P : zP} {d : zD P} {a1 : Int} {a2 : Int} : tp_put_2 d a1 a2 = (if wr a2 < 0 then some (0, d) else (if wr 240 ≤ wr ((d.m 11 1)) then tp_put_2 d a1 ((a2 + (-8))) else (if zin ((d.m 11 1)) 240 then tp_put_2 ((((d.up 12 (zix ((d.m 11 1))) ((zbin 3 ((zbin 8 a1 a2)) 255)))).up 11 1 (((((d.up 12 (zix ((d.m 11 1))) ((zbin 3 ((zbin 8 a1 a2)) 255)))).m 11 1) + 1)))) a1 ((a2 + (-8))) else none))) := q_42_2 (a0 := 11) rfl
set_option maxRecDepth 100000 in
theorem wl_isKind_e {P : zP} {d : zD P} {a0 : Int} : wl_isKind d a0 = (if wr a0 < 0 then some (0, d) else (if wr 6 ≤ wr a0 then some (0, d) else some (1, d))) := e_43 
set_option maxRecDepth 100000 in
theorem wl_isPair_e {P : zP} {d : zD P} {a1 : Int} : wl_isPair d a1 = (if wr a1 < 0 then some (0, d) else (if wr ((d.m 14 6)) ≤ wr a1 then some (0, d) else some (1, d))) := e_44 (a0 := 10) rfl
set_option maxRecDepth 100000 in
theorem wl_isSide_e {P : zP} {d : zD P} {a0 : Int} : wl_isSide d a0 = (if wr a0 = 0 then some (1, d) else (if wr a0 ≠ wr 1 then some (0, d) else some (1, d))) := e_45 
set_option maxRecDepth 100000 in
theorem wl_least_e {P : zP} {d : zD P} {a1 : Int} : wl_least d a1 = (if wr a1 < 0 then some ((-1), d) else (if wr a1 ≤ wr 100000 then some ((d.m 13 7), (d.up 13 7 a1)) else some ((-1), d))) := e_46 (a0 := 10) rfl
set_option maxRecDepth 100000 in
theorem wl_letterOf_e {P : zP} {d : zD P} {a0 : Int} {a2 : Int} : wl_letterOf d a0 a2 = some ((zbin 3 ((zlsh 1 a0 ((5 * (6 - a2))))) 31), d) := e_47 
set_option maxRecDepth 100000 in
theorem wl_placed_e {P : zP} {d : zD P} {a1 : Int} : wl_placed d a1 = (if wr ((d.m 13 6)) ≠ wr a1 then (if a1 = 0 ∨ a1 = 1 then some (1, (d.up 13 6 a1)) else none) else some (0, d)) := e_48 (a0 := 10) rfl
set_option maxRecDepth 100000 in
theorem wl_withLetter_e {P : zP} {d : zD P} {a0 : Int} {a2 : Int} {a3 : Int} : wl_withLetter d a0 a2 a3 = some ((zlbin 4 a0 ((zlsh 0 ((wr ((a3 - 96)))) ((5 * (6 - a2)))))), d) := e_49 
set_option maxRecDepth 100000 in
theorem m_copies_e {P : zP} {d : zD P} {a1 : Int} {a2 : Int} : m_copies d a1 a2 = m_copies_2 d a1 a2 0 := e_50 (a0 := 132) rfl
set_option maxRecDepth 100000 in
theorem m_copies_2_e {P : zP} {d : zD P} {a1 : Int} {a2 : Int} {a3 : Int} : m_copies_2 d a1 a2 a3 = (if wr 4545 ≤ wr a3 then some (0, d) else (if zin (((4545 * a1) + a3)) 18180 then (if zin (((4545 * a2) + a3)) 18180 then m_copies_2 ((d.up 133 (zix (((4545 * a2) + a3))) ((d.m 133 (zix (((4545 * a1) + a3))))))) a1 a2 ((a3 + 1)) else none) else none)) := q_50_2 (a0 := 132) rfl
set_option maxRecDepth 100000 in
theorem m_costOf_e {P : zP} {d : zD P} {a1 : Int} {a2 : Int} : m_costOf d a1 a2 = (if zin a1 5400 then (if wr a2 ≠ 0 then some ((1050 - (zdiv 0 ((1000 * (d.m 154 (zix a1)))) a2)), d) else none) else none) := e_51 (a0 := 132) rfl
set_option maxRecDepth 100000 in
theorem m_empties_e {P : zP} {d : zD P} {a0 : Nat} (ha0 : zkd a0 = 20) {na0 : Nat} (la0 : zln P a0 = na0) : m_empties d a0 = m_empties_2 d a0 0 := e_52 ha0 la0
set_option maxRecDepth 100000 in
theorem m_empties_2_e {P : zP} {d : zD P} {a0 : Nat} {a1 : Int} (ha0 : zkd a0 = 20) {na0 : Nat} (la0 : zln P a0 = na0) : m_empties_2 d a0 a1 = (if wr 6 ≤ wr a1 then some (0, d) else (if zin a1 na0 then m_empties_2 ((d.up a0 (zix a1) 0)) a0 ((a1 + 1)) else none)) := q_52_2 ha0 la0
set_option maxRecDepth 100000 in
theorem m_has_e {P : zP} {d : zD P} {a0 : Int} {a1 : Int} : m_has d a0 a1 = (if wr ((zbin 3 ((zbin 7 a0 a1)) 1)) ≠ wr 1 then some (0, d) else some (1, d)) := e_53 
set_option maxRecDepth 100000 in
theorem m_here_e {P : zP} {d : zD P}  : m_here d = (if wr ((d.m 132 4)) < wr ((d.m 132 5)) then (if wr ((d.m 132 8)) = 0 then (if zin ((d.m 132 4)) 240 then some ((zbin 3 ((d.m 134 (zix ((d.m 132 4))))) 255), d) else none) else (if zin ((4345 + (d.m 132 4))) 18180 then some ((d.m 133 (zix ((4345 + (d.m 132 4))))), d) else none)) else some ((-1), d)) := e_54 (a0 := 132) rfl
set_option maxRecDepth 100000 in
theorem m_in_e {P : zP} {d : zD P} {a0 : Int} {a1 : Int} {a2 : Int} : m_in d a0 a1 a2 = (if wr a0 < wr a1 then some (0, d) else (if wr a2 < wr a0 then some (0, d) else some (1, d))) := e_55 
set_option maxRecDepth 100000 in
theorem m_laysKey_e {P : zP} {d : zD P} {a1 : Int} : m_laysKey d a1 = (if zin ((d.m 132 30)) 5400 then some (0, (((d.up 153 (zix ((d.m 132 30))) a1)).up 132 30 (((((d.up 153 (zix ((d.m 132 30))) a1)).m 132 30) + 1)))) else none) := e_56 (a0 := 132) rfl
set_option maxRecDepth 100000 in
theorem m_letterOf_e {P : zP} {d : zD P} {a1 : Int} {a2 : Int} {a3 : Int} : m_letterOf d a1 a2 a3 = (if zin ((((504 + (8 * ((40 * a1) + a2))) + 1) + a3)) 18180 then some ((d.m 133 (zix ((((504 + (8 * ((40 * a1) + a2))) + 1) + a3)))), d) else none) := e_57 (a0 := 132) rfl
set_option maxRecDepth 100000 in
theorem m_lettersOf_e {P : zP} {d : zD P} {a1 : Int} {a2 : Int} : m_lettersOf d a1 a2 = (if zin ((504 + (8 * ((40 * a1) + a2)))) 18180 then some ((d.m 133 (zix ((504 + (8 * ((40 * a1) + a2)))))), d) else none) := e_58 (a0 := 132) rfl
set_option maxRecDepth 100000 in
theorem m_linkedTo_e {P : zP} {d : zD P}  : m_linkedTo d = m_linkedTo_4 d 0 0 := e_59 (a0 := 132) rfl
set_option maxRecDepth 100000 in
theorem m_linkedTo_4_e {P : zP} {d : zD P} {a1 : Int} {a2 : Int} : m_linkedTo_4 d a1 a2 = (if wr 6 ≤ wr a2 then some (a1, d) else (if zin a2 6 then m_linkedTo_4 d ((zbin 4 a1 ((d.m 149 (zix a2))))) ((a2 + 1)) else none)) := q_59_4 (a0 := 132) rfl
set_option maxRecDepth 100000 in
theorem m_longOf_e {P : zP} {d : zD P} {a1 : Int} {a2 : Int} : m_longOf d a1 a2 = (if zin (((24 + (20 * a1)) + a2)) 18180 then some ((d.m 133 (zix (((24 + (20 * a1)) + a2)))), d) else none) := e_60 (a0 := 132) rfl
set_option maxRecDepth 100000 in
theorem m_max_e {P : zP} {d : zD P} {a0 : Int} {a1 : Int} : m_max d a0 a1 = (if wr a0 ≤ wr a1 then some (a1, d) else some (a0, d)) := e_61 
set_option maxRecDepth 100000 in
theorem m_min_e {P : zP} {d : zD P} {a0 : Int} {a1 : Int} : m_min d a0 a1 = (if wr a1 ≤ wr a0 then some (a1, d) else some (a0, d)) := e_62 
set_option maxRecDepth 100000 in
theorem m_notNothing_e {P : zP} {d : zD P}  : m_notNothing d = m_notNothing_4 d 0 0 := e_63 (a0 := 132) rfl
set_option maxRecDepth 100000 in
theorem m_notNothing_4_e {P : zP} {d : zD P} {a1 : Int} {a2 : Int} : m_notNothing_4 d a1 a2 = (if wr 3200 ≤ wr a2 then some (a1, d) else (if zin ((1144 + a2)) 18180 then (if wr ((d.m 133 (zix ((1144 + a2))))) ≤ 0 then m_notNothing_4 d a1 ((a2 + 1)) else m_notNothing_4 d ((a1 + 1)) ((a2 + 1))) else none)) := q_63_4 (a0 := 132) rfl
set_option maxRecDepth 100000 in
theorem m_offers_e {P : zP} {d : zD P} {a1 : Int} {a2 : Int} {a3 : Int} {a4 : Int} : m_offers d a1 a2 a3 a4 = (if zin ((a1 + a4)) 9 then (if zin ((a1 + a4)) 9 then (if zin a1 9 then (if wr ((d.m 156 (zix a1))) < wr ((a3 + (d.m 156 (zix ((a1 + a4)))))) then some (0, d) else (if zin a1 9 then (if wr ((a3 + (d.m 156 (zix ((a1 + a4)))))) ≠ wr ((d.m 156 (zix a1))) then (if zin a1 9 then (if zin a1 9 then (if zin a1 9 then some (0, (((((d.up 156 (zix a1) ((a3 + (d.m 156 (zix ((a1 + a4)))))))).up 157 (zix a1) ((1 + (d.m 157 (zix ((a1 + a4)))))))).up 158 (zix a1) a2)) else none) else none) else none) else (if zin a1 9 then (if wr ((d.m 157 (zix a1))) < wr ((1 + (d.m 157 (zix ((a1 + a4)))))) then some (0, d) else (if zin a1 9 then (if wr ((1 + (d.m 157 (zix ((a1 + a4)))))) ≠ wr ((d.m 157 (zix a1))) then (if zin a1 9 then (if zin a1 9 then (if zin a1 9 then some (0, (((((d.up 156 (zix a1) ((a3 + (d.m 156 (zix ((a1 + a4)))))))).up 157 (zix a1) ((1 + (d.m 157 (zix ((a1 + a4)))))))).up 158 (zix a1) a2)) else none) else none) else none) else (if zin a1 9 then (if wr a2 ≤ wr ((d.m 158 (zix a1))) then (if zin a1 9 then (if zin a1 9 then (if zin a1 9 then some (0, (((((d.up 156 (zix a1) ((a3 + (d.m 156 (zix ((a1 + a4)))))))).up 157 (zix a1) ((1 + (d.m 157 (zix ((a1 + a4)))))))).up 158 (zix a1) a2)) else none) else none) else none) else some (0, d)) else none)) else none)) else none)) else none)) else none) else none) else none) := e_64 (a0 := 132) rfl
set_option maxRecDepth 100000 in
theorem m_others_e {P : zP} {d : zD P} {a1 : Int} {a2 : Int} : m_others d a1 a2 = m_others_4 d a1 a2 0 0 := e_65 (a0 := 132) rfl
set_option maxRecDepth 100000 in
theorem m_others_4_e {P : zP} {d : zD P} {a1 : Int} {a2 : Int} {a3 : Int} {a4 : Int} : m_others_4 d a1 a2 a3 a4 = (if wr 1600 ≤ wr a4 then some (a3, d) else (if zin (((1144 + (1600 * a1)) + a4)) 18180 then (if zin (((((4545 * a2) + 1144) + (1600 * a1)) + a4)) 18180 then (if wr ((d.m 133 (zix (((1144 + (1600 * a1)) + a4))))) = wr ((d.m 133 (zix (((((4545 * a2) + 1144) + (1600 * a1)) + a4))))) then m_others_4 d a1 a2 a3 ((a4 + 1)) else m_others_4 d a1 a2 ((a3 + 1)) ((a4 + 1))) else none) else none)) := q_65_4 (a0 := 132) rfl
set_option maxRecDepth 100000 in
theorem m_partAt_e {P : zP} {d : zD P} {a0 : Int} {a1 : Int} {a2 : Int} {a3 : Int} : m_partAt d a0 a1 a2 a3 = some (((((216 * a0) + (36 * a1)) + (6 * a2)) + a3), d) := e_66 
set_option maxRecDepth 100000 in
theorem m_parts_e {P : zP} {d : zD P} {a1 : Int} : m_parts d a1 = m_parts_4 d a1 0 (3, 0) 0 (3, 0) (3, 0) := e_67 (a0 := 132) rfl
set_option maxRecDepth 100000 in
theorem m_parts_4_e {P : zP} {d : zD P} {a1 : Int} {a2 : Int} {g3 : zV} {a4 : Int} {g5 : zV} {g6 : zV} : m_parts_4 d a1 a2 g3 a4 g5 g6 = (if wr a1 ≤ wr a4 then m_parts_18 d a1 a2 (if (g3).1 = 1 then (3, 0) else g3) 0 g5 g6 else (if zin a4 40 then m_parts_4 d a1 ((a2 + (d.m 143 (zix a4)))) (3, 0) ((a4 + 1)) g5 g6 else none)) := q_67_4 (a0 := 132) rfl
set_option maxRecDepth 100000 in
theorem m_parts_18_e {P : zP} {d : zD P} {a1 : Int} {a2 : Int} {g3 : zV} {a4 : Int} {g5 : zV} {g6 : zV} : m_parts_18 d a1 a2 g3 a4 g5 g6 = (if wr a1 ≤ wr a4 then (if wrl a2 ≠ wrl 0 then m_parts_43 d a1 a2 (if (g3).1 = 1 then (3, 0) else g3) 100000 0 g6 else m_parts_43 d a1 ((wr a1)) (3, 0) 100000 0 g6) else (if wrl a2 ≠ wrl 0 then (if wrl a2 ≠ wrl 0 then m_parts_43 d a1 a2 (if (g3).1 = 1 then (3, 0) else g3) 100000 0 g6 else m_parts_43 d a1 ((wr a1)) (3, 0) 100000 0 g6) else (if zin a4 40 then m_parts_18 ((d.up 143 (zix a4) 1)) a1 a2 (if (g3).1 = 1 then (3, 0) else g3) ((a4 + 1)) g5 g6 else none))) := q_67_18 (a0 := 132) rfl
set_option maxRecDepth 100000 in
theorem m_parts_43_e {P : zP} {d : zD P} {a1 : Int} {a2 : Int} {g3 : zV} {a4 : Int} {a5 : Int} {g6 : zV} : m_parts_43 d a1 a2 g3 a4 a5 g6 = (if wr a1 ≤ wr a5 then m_parts_80 d a1 (1, a2) g3 a4 (0, a5) g6 else (if zin a5 40 then (if wrl a2 ≠ 0 then (if zin a5 40 then (if zin a5 40 then (if wrl a2 ≠ 0 then (if zin a5 40 then (if zin a5 40 then m_parts_43 ((((d.up 145 (zix a5) ((zldiv 0 ((100000 * (d.m 143 (zix a5)))) a2)))).up 144 (zix a5) ((zldiv 1 ((100000 * (((d.up 145 (zix a5) ((zldiv 0 ((100000 * (d.m 143 (zix a5)))) a2)))).m 143 (zix a5)))) a2)))) a1 a2 (if (g3).1 = 1 then (3, 0) else g3) ((a4 - (((((d.up 145 (zix a5) ((zldiv 0 ((100000 * (d.m 143 (zix a5)))) a2)))).up 144 (zix a5) ((zldiv 1 ((100000 * (((d.up 145 (zix a5) ((zldiv 0 ((100000 * (d.m 143 (zix a5)))) a2)))).m 143 (zix a5)))) a2)))).m 145 (zix a5)))) ((a5 + 1)) g6 else none) else none) else none) else none) else none) else none) else none)) := q_67_43 (a0 := 132) rfl
set_option maxRecDepth 100000 in
theorem m_parts_80_e {P : zP} {d : zD P} {a1 : Int} {g2 : zV} {g3 : zV} {a4 : Int} {g5 : zV} {g6 : zV} : m_parts_80 d a1 g2 g3 a4 g5 g6 = (if wr a4 ≤ 0 then some (0, d) else m_parts_86 d a1 g2 g3 a4 0 1) := q_67_80 (a0 := 132) rfl
set_option maxRecDepth 100000 in
theorem m_parts_86_e {P : zP} {d : zD P} {a1 : Int} {g2 : zV} {g3 : zV} {a4 : Int} {a5 : Int} {a6 : Int} : m_parts_86 d a1 g2 g3 a4 a5 a6 = (if wr a1 ≤ wr a6 then (if zin a5 40 then (if zin a5 40 then (if zin a5 40 then m_parts_80 ((((d.up 145 (zix a5) (((d.m 145 (zix a5)) + 1)))).up 144 (zix a5) ((-1)))) a1 g2 (if (g3).1 = 1 then (3, 0) else g3) ((a4 + (-1))) (0, a5) (0, a6) else none) else none) else none) else (if zin a6 40 then (if zin a5 40 then (if wrl ((d.m 144 (zix a6))) ≤ wrl ((d.m 144 (zix a5))) then m_parts_86 d a1 g2 g3 a4 a5 ((a6 + 1)) else m_parts_86 d a1 g2 g3 a4 a6 ((a6 + 1))) else none) else none)) := q_67_86 (a0 := 132) rfl
set_option maxRecDepth 100000 in
theorem m_placed_e {P : zP} {d : zD P} {a1 : Int} : m_placed d a1 = (if zin 3 18180 then (if wr a1 = 0 then (if wr ((d.m 133 (zix 3))) ≠ wr 0 then (if wr a1 = 0 then (if zin 3 18180 then some (1, (d.up 133 (zix 3) 0)) else none) else (if zin 3 18180 then some (1, (d.up 133 (zix 3) 1)) else none)) else some (0, d)) else (if wr ((d.m 133 (zix 3))) ≠ wr 1 then (if wr a1 = 0 then (if zin 3 18180 then some (1, (d.up 133 (zix 3) 0)) else none) else (if zin 3 18180 then some (1, (d.up 133 (zix 3) 1)) else none)) else some (0, d))) else none) := e_68 (a0 := 132) rfl
set_option maxRecDepth 100000 in
theorem m_rowOf_e {P : zP} {d : zD P} {a1 : Int} {a2 : Int} : m_rowOf d a1 a2 = (if wr a2 ≠ 0 then (if zin a1 5400 then some ((zldiv 1 ((d.m 153 (zix a1))) 68921), d) else none) else (if zin a1 5400 then some ((zldiv 0 ((d.m 153 (zix a1))) 68921), d) else none)) := e_69 (a0 := 132) rfl
set_option maxRecDepth 100000 in
theorem m_setsShare_e {P : zP} {d : zD P} {a1 : Int} {a2 : Int} {a3 : Int} {a4 : Int} : m_setsShare d a1 a2 a3 a4 = (if zin ((((1144 + (1600 * a1)) + (40 * a2)) + a3)) 18180 then some (0, (d.up 133 (zix ((((1144 + (1600 * a1)) + (40 * a2)) + a3))) a4)) else none) := e_70 (a0 := 132) rfl
set_option maxRecDepth 100000 in
theorem m_shareOf_e {P : zP} {d : zD P} {a1 : Int} {a2 : Int} {a3 : Int} : m_shareOf d a1 a2 a3 = (if zin ((((1144 + (1600 * a1)) + (40 * a2)) + a3)) 18180 then some ((d.m 133 (zix ((((1144 + (1600 * a1)) + (40 * a2)) + a3)))), d) else none) := e_71 (a0 := 132) rfl
set_option maxRecDepth 100000 in
theorem m_size_e {P : zP} {d : zD P} {a0 : Int} : m_size d a0 = (if 0 ≤ wr a0 then some (a0, d) else some ((-a0), d)) := e_72 
set_option maxRecDepth 100000 in
theorem m_sizeOf_e {P : zP} {d : zD P} {a0 : Int} : m_sizeOf d a0 = m_sizeOf_4 d (0, a0) 0 a0 := e_73 
set_option maxRecDepth 100000 in
theorem m_sizeOf_4_e {P : zP} {d : zD P} {g0 : zV} {a1 : Int} {a2 : Int} : m_sizeOf_4 d g0 a1 a2 = (if wr a2 = 0 then some (a1, d) else m_sizeOf_4 d (if (g0).1 = 1 then (3, 0) else g0) ((a1 + 1)) ((zbin 3 a2 ((a2 - 1))))) := q_73_4 
set_option maxRecDepth 100000 in
theorem m_sortsKeys_e {P : zP} {d : zD P}  : m_sortsKeys d = m_sortsKeys_2 d 1 (3, 0) (3, 0) (3, 0) (3, 0) := e_74 (a0 := 132) rfl
set_option maxRecDepth 100000 in
theorem m_sortsKeys_2_e {P : zP} {d : zD P} {a1 : Int} {g2 : zV} {g3 : zV} {g4 : zV} {g5 : zV} : m_sortsKeys_2 d a1 g2 g3 g4 g5 = (if wr ((d.m 132 30)) ≤ wr a1 then m_sortsKeys_13 d a1 g2 g3 g4 g5 else m_sortsKeys_2 d (((3 * a1) + 1)) g2 g3 g4 g5) := q_74_2 (a0 := 132) rfl
set_option maxRecDepth 100000 in
theorem m_sortsKeys_13_e {P : zP} {d : zD P} {a1 : Int} {g2 : zV} {g3 : zV} {g4 : zV} {g5 : zV} : m_sortsKeys_13 d a1 g2 g3 g4 g5 = (if wr a1 ≤ 0 then some (0, d) else m_sortsKeys_17 d a1 a1 g3 g4 g5) := q_74_13 (a0 := 132) rfl
set_option maxRecDepth 100000 in
theorem m_sortsKeys_17_e {P : zP} {d : zD P} {a1 : Int} {a2 : Int} {g3 : zV} {g4 : zV} {g5 : zV} : m_sortsKeys_17 d a1 a2 g3 g4 g5 = (if wr ((d.m 132 30)) ≤ wr a2 then m_sortsKeys_13 d ((zdiv 0 a1 3)) (0, a2) g3 g4 g5 else (if zin a2 5400 then m_sortsKeys_28 d a1 a2 ((d.m 153 (zix a2))) (3, 0) a2 else none)) := q_74_17 (a0 := 132) rfl
set_option maxRecDepth 100000 in
theorem m_sortsKeys_28_e {P : zP} {d : zD P} {a1 : Int} {a2 : Int} {a3 : Int} {g4 : zV} {a5 : Int} : m_sortsKeys_28 d a1 a2 a3 g4 a5 = (if wr a5 < wr a1 then (if zin a5 5400 then m_sortsKeys_17 ((d.up 153 (zix a5) a3)) a1 ((a2 + 1)) (1, a3) g4 (0, a5) else none) else (if zin ((a5 - a1)) 5400 then (if wrl ((d.m 153 (zix ((a5 - a1))))) ≤ wrl a3 then (if zin a5 5400 then m_sortsKeys_17 ((d.up 153 (zix a5) a3)) a1 ((a2 + 1)) (1, a3) g4 (0, a5) else none) else (if zin ((a5 - a1)) 5400 then (if zin a5 5400 then m_sortsKeys_28 ((d.up 153 (zix a5) ((d.m 153 (zix ((a5 - a1))))))) a1 a2 a3 (if (g4).1 = 1 then (3, 0) else g4) ((a5 - a1)) else none) else none)) else none)) := q_74_28 (a0 := 132) rfl
set_option maxRecDepth 100000 in
theorem m_span_e {P : zP} {d : zD P} {a0 : Int} {a1 : Int} : m_span d a0 a1 = some (((zbin 6 1 ((a1 + 1))) - (zbin 6 1 a0)), d) := e_75 
set_option maxRecDepth 100000 in
theorem m_takes_e {P : zP} {d : zD P} {a0 : Int} {a1 : Int} : m_takes d a0 a1 = (if wr a0 ≠ 0 then (if wr a0 ≠ wr 1 then (if wr a0 ≠ wr 2 then (if wr a0 ≠ wr 3 then some ((1 + a1), d) else some ((2 - a1), d)) else some (a1, d)) else some ((1 - a1), d)) else some (1, d)) := e_76 
set_option maxRecDepth 100000 in
theorem m_told_e {P : zP} {d : zD P} {a1 : Int} {a2 : Int} : m_told d a1 a2 = (if zin ((((24 + (20 * a1)) + 14) + a2)) 18180 then some ((d.m 133 (zix ((((24 + (20 * a1)) + 14) + a2)))), d) else none) := e_77 (a0 := 132) rfl
set_option maxRecDepth 100000 in
theorem m_types_e {P : zP} {d : zD P} {a1 : Int} : m_types d a1 = m_types_2 d a1 3 := e_78 (a0 := 132) rfl
set_option maxRecDepth 100000 in
theorem m_types_2_e {P : zP} {d : zD P} {a1 : Int} {a2 : Int} : m_types_2 d a1 a2 = (if wr a2 < 0 then some (0, d) else (if zin ((d.m 132 3)) 240 then m_types_2 ((((d.up 134 (zix ((d.m 132 3))) ((zby ((zby ((zbin 7 a1 ((8 * a2)))))))))).up 132 3 (((((d.up 134 (zix ((d.m 132 3))) ((zby ((zby ((zbin 7 a1 ((8 * a2)))))))))).m 132 3) + 1)))) a1 ((a2 + (-1))) else none)) := q_78_2 (a0 := 132) rfl
set_option maxRecDepth 100000 in
theorem m_wordIn_e {P : zP} {d : zD P} {a0 : Int} {a1 : Int} : m_wordIn d a0 a1 = (if wr a1 ≠ 0 then (if wr a1 ≠ wr 1 then some (((zdiv 1 a0 41) - 1), d) else some (((zdiv 1 ((zdiv 0 a0 41)) 41) - 1), d)) else some (((zdiv 0 a0 1681) - 1), d)) := e_79 
set_option maxRecDepth 100000 in
theorem m_wordOf_e {P : zP} {d : zD P} {a1 : Int} {a2 : Int} {a3 : Int} : m_wordOf d a1 a2 a3 = (if zin (((((24 + (20 * a1)) + 2) + (6 * a2)) + a3)) 18180 then some ((d.m 133 (zix (((((24 + (20 * a1)) + 2) + (6 * a2)) + a3)))), d) else none) := e_80 (a0 := 132) rfl
set_option maxRecDepth 100000 in
theorem m_words_e {P : zP} {d : zD P} {a1 : Int} : m_words d a1 = (if zin ((4 + a1)) 18180 then some ((d.m 133 (zix ((4 + a1)))), d) else none) := e_81 (a0 := 132) rfl
set_option maxRecDepth 100000 in
theorem m_wordsFrom_e {P : zP} {d : zD P} {a1 : Int} {a2 : Int} : m_wordsFrom d a1 a2 = m_wordsFrom_4 d a1 a2 0 a1 := e_82 (a0 := 132) rfl
set_option maxRecDepth 100000 in
theorem m_wordsFrom_4_e {P : zP} {d : zD P} {a1 : Int} {a2 : Int} {a3 : Int} {a4 : Int} : m_wordsFrom_4 d a1 a2 a3 a4 = (if wr ((a1 + a2)) ≤ wr a4 then some (a3, d) else (if zin a4 16 then m_wordsFrom_4 d a1 a2 ((a3 + (d.m 139 (zix a4)))) ((a4 + 1)) else none)) := q_82_4 (a0 := 132) rfl
set_option maxRecDepth 100000 in
theorem m_wrongAt_e {P : zP} {d : zD P} {a1 : Int} {a2 : Int} : m_wrongAt d a1 a2 = some (0, (d.up 132 6 ((((-1000) * a1) - a2)))) := e_83 (a0 := 132) rfl
set_option maxRecDepth 100000 in
theorem bcI_bitCount_e {P : zP} {d : zD P} {a0 : Int} : bcI_bitCount d a0 = some ((zbin 3 ((((zbin 3 ((((zbin 3 ((a0 - (zbin 3 ((zbin 8 a0 1)) 1431655765))) 858993459) + (zbin 3 ((zbin 8 ((a0 - (zbin 3 ((zbin 8 a0 1)) 1431655765))) 2)) 858993459)) + (zbin 8 (((zbin 3 ((a0 - (zbin 3 ((zbin 8 a0 1)) 1431655765))) 858993459) + (zbin 3 ((zbin 8 ((a0 - (zbin 3 ((zbin 8 a0 1)) 1431655765))) 2)) 858993459))) 4))) 252645135) + (zbin 8 ((zbin 3 ((((zbin 3 ((a0 - (zbin 3 ((zbin 8 a0 1)) 1431655765))) 858993459) + (zbin 3 ((zbin 8 ((a0 - (zbin 3 ((zbin 8 a0 1)) 1431655765))) 2)) 858993459)) + (zbin 8 (((zbin 3 ((a0 - (zbin 3 ((zbin 8 a0 1)) 1431655765))) 858993459) + (zbin 3 ((zbin 8 ((a0 - (zbin 3 ((zbin 8 a0 1)) 1431655765))) 2)) 858993459))) 4))) 252645135)) 8)) + (zbin 8 (((zbin 3 ((((zbin 3 ((a0 - (zbin 3 ((zbin 8 a0 1)) 1431655765))) 858993459) + (zbin 3 ((zbin 8 ((a0 - (zbin 3 ((zbin 8 a0 1)) 1431655765))) 2)) 858993459)) + (zbin 8 (((zbin 3 ((a0 - (zbin 3 ((zbin 8 a0 1)) 1431655765))) 858993459) + (zbin 3 ((zbin 8 ((a0 - (zbin 3 ((zbin 8 a0 1)) 1431655765))) 2)) 858993459))) 4))) 252645135) + (zbin 8 ((zbin 3 ((((zbin 3 ((a0 - (zbin 3 ((zbin 8 a0 1)) 1431655765))) 858993459) + (zbin 3 ((zbin 8 ((a0 - (zbin 3 ((zbin 8 a0 1)) 1431655765))) 2)) 858993459)) + (zbin 8 (((zbin 3 ((a0 - (zbin 3 ((zbin 8 a0 1)) 1431655765))) 858993459) + (zbin 3 ((zbin 8 ((a0 - (zbin 3 ((zbin 8 a0 1)) 1431655765))) 2)) 858993459))) 4))) 252645135)) 8))) 16))) 63), d) := e_84 
set_option maxRecDepth 100000 in
theorem bcL_bitCount_e {P : zP} {d : zD P} {a0 : Int} : bcL_bitCount d a0 = some ((zbin 3 (((((zlbin 3 ((((zlbin 3 ((a0 - (zlbin 3 ((zlsh 1 a0 1)) 6148914691236517205))) 3689348814741910323) + (zlbin 3 ((zlsh 1 ((a0 - (zlbin 3 ((zlsh 1 a0 1)) 6148914691236517205))) 2)) 3689348814741910323)) + (zlsh 1 (((zlbin 3 ((a0 - (zlbin 3 ((zlsh 1 a0 1)) 6148914691236517205))) 3689348814741910323) + (zlbin 3 ((zlsh 1 ((a0 - (zlbin 3 ((zlsh 1 a0 1)) 6148914691236517205))) 2)) 3689348814741910323))) 4))) 1085102592571150095) + (zlsh 1 ((zlbin 3 ((((zlbin 3 ((a0 - (zlbin 3 ((zlsh 1 a0 1)) 6148914691236517205))) 3689348814741910323) + (zlbin 3 ((zlsh 1 ((a0 - (zlbin 3 ((zlsh 1 a0 1)) 6148914691236517205))) 2)) 3689348814741910323)) + (zlsh 1 (((zlbin 3 ((a0 - (zlbin 3 ((zlsh 1 a0 1)) 6148914691236517205))) 3689348814741910323) + (zlbin 3 ((zlsh 1 ((a0 - (zlbin 3 ((zlsh 1 a0 1)) 6148914691236517205))) 2)) 3689348814741910323))) 4))) 1085102592571150095)) 8)) + (zlsh 1 (((zlbin 3 ((((zlbin 3 ((a0 - (zlbin 3 ((zlsh 1 a0 1)) 6148914691236517205))) 3689348814741910323) + (zlbin 3 ((zlsh 1 ((a0 - (zlbin 3 ((zlsh 1 a0 1)) 6148914691236517205))) 2)) 3689348814741910323)) + (zlsh 1 (((zlbin 3 ((a0 - (zlbin 3 ((zlsh 1 a0 1)) 6148914691236517205))) 3689348814741910323) + (zlbin 3 ((zlsh 1 ((a0 - (zlbin 3 ((zlsh 1 a0 1)) 6148914691236517205))) 2)) 3689348814741910323))) 4))) 1085102592571150095) + (zlsh 1 ((zlbin 3 ((((zlbin 3 ((a0 - (zlbin 3 ((zlsh 1 a0 1)) 6148914691236517205))) 3689348814741910323) + (zlbin 3 ((zlsh 1 ((a0 - (zlbin 3 ((zlsh 1 a0 1)) 6148914691236517205))) 2)) 3689348814741910323)) + (zlsh 1 (((zlbin 3 ((a0 - (zlbin 3 ((zlsh 1 a0 1)) 6148914691236517205))) 3689348814741910323) + (zlbin 3 ((zlsh 1 ((a0 - (zlbin 3 ((zlsh 1 a0 1)) 6148914691236517205))) 2)) 3689348814741910323))) 4))) 1085102592571150095)) 8))) 16)) + (zlsh 1 ((((zlbin 3 ((((zlbin 3 ((a0 - (zlbin 3 ((zlsh 1 a0 1)) 6148914691236517205))) 3689348814741910323) + (zlbin 3 ((zlsh 1 ((a0 - (zlbin 3 ((zlsh 1 a0 1)) 6148914691236517205))) 2)) 3689348814741910323)) + (zlsh 1 (((zlbin 3 ((a0 - (zlbin 3 ((zlsh 1 a0 1)) 6148914691236517205))) 3689348814741910323) + (zlbin 3 ((zlsh 1 ((a0 - (zlbin 3 ((zlsh 1 a0 1)) 6148914691236517205))) 2)) 3689348814741910323))) 4))) 1085102592571150095) + (zlsh 1 ((zlbin 3 ((((zlbin 3 ((a0 - (zlbin 3 ((zlsh 1 a0 1)) 6148914691236517205))) 3689348814741910323) + (zlbin 3 ((zlsh 1 ((a0 - (zlbin 3 ((zlsh 1 a0 1)) 6148914691236517205))) 2)) 3689348814741910323)) + (zlsh 1 (((zlbin 3 ((a0 - (zlbin 3 ((zlsh 1 a0 1)) 6148914691236517205))) 3689348814741910323) + (zlbin 3 ((zlsh 1 ((a0 - (zlbin 3 ((zlsh 1 a0 1)) 6148914691236517205))) 2)) 3689348814741910323))) 4))) 1085102592571150095)) 8)) + (zlsh 1 (((zlbin 3 ((((zlbin 3 ((a0 - (zlbin 3 ((zlsh 1 a0 1)) 6148914691236517205))) 3689348814741910323) + (zlbin 3 ((zlsh 1 ((a0 - (zlbin 3 ((zlsh 1 a0 1)) 6148914691236517205))) 2)) 3689348814741910323)) + (zlsh 1 (((zlbin 3 ((a0 - (zlbin 3 ((zlsh 1 a0 1)) 6148914691236517205))) 3689348814741910323) + (zlbin 3 ((zlsh 1 ((a0 - (zlbin 3 ((zlsh 1 a0 1)) 6148914691236517205))) 2)) 3689348814741910323))) 4))) 1085102592571150095) + (zlsh 1 ((zlbin 3 ((((zlbin 3 ((a0 - (zlbin 3 ((zlsh 1 a0 1)) 6148914691236517205))) 3689348814741910323) + (zlbin 3 ((zlsh 1 ((a0 - (zlbin 3 ((zlsh 1 a0 1)) 6148914691236517205))) 2)) 3689348814741910323)) + (zlsh 1 (((zlbin 3 ((a0 - (zlbin 3 ((zlsh 1 a0 1)) 6148914691236517205))) 3689348814741910323) + (zlbin 3 ((zlsh 1 ((a0 - (zlbin 3 ((zlsh 1 a0 1)) 6148914691236517205))) 2)) 3689348814741910323))) 4))) 1085102592571150095)) 8))) 16))) 32))) 127), d) := e_85 
set_option maxRecDepth 100000 in
theorem fl_fill_e {P : zP} {d : zD P} {a0 : Nat} {a1 : Int} (ha0 : zkd a0 = 20) {na0 : Nat} (la0 : zln P a0 = na0) : fl_fill d a0 a1 = fl_fill_5 d a0 a1 0 ((na0 : Int)) := e_86 ha0 la0
set_option maxRecDepth 100000 in
theorem fl_fill_5_e {P : zP} {d : zD P} {a0 : Nat} {a1 : Int} {a2 : Int} {a3 : Int} (ha0 : zkd a0 = 20) {na0 : Nat} (la0 : zln P a0 = na0) : fl_fill_5 d a0 a1 a2 a3 = (if wr a3 ≤ wr a2 then some (0, d) else (if zin a2 na0 then fl_fill_5 ((d.up a0 (zix a2) a1)) a0 a1 ((a2 + 1)) a3 else none)) := q_86_5 ha0 la0
set_option maxRecDepth 100000 in
theorem fl_fillJ_e {P : zP} {d : zD P} {a0 : Nat} {a1 : Int} (ha0 : zkd a0 = 21) {na0 : Nat} (la0 : zln P a0 = na0) : fl_fillJ d a0 a1 = fl_fillJ_5 d a0 a1 (3, 0) 0 ((na0 : Int)) := e_87 ha0 la0
set_option maxRecDepth 100000 in
theorem fl_fillJ_5_e {P : zP} {d : zD P} {a0 : Nat} {a1 : Int} {g2 : zV} {a3 : Int} {a4 : Int} (ha0 : zkd a0 = 21) {na0 : Nat} (la0 : zln P a0 = na0) : fl_fillJ_5 d a0 a1 g2 a3 a4 = (if wr a4 ≤ wr a3 then some (0, d) else (if zin a3 na0 then fl_fillJ_5 ((d.up a0 (zix a3) a1)) a0 a1 (if (g2).1 = 1 then (3, 0) else g2) ((a3 + 1)) a4 else none)) := q_87_5 ha0 la0
set_option maxRecDepth 100000 in
theorem co_meetPartners_e {P : zP} {d : zD P}  : co_meetPartners d = (if zin 0 2 then ((fl_fillJ d ((19 + (1 + zix 0))) 0).bind fun q1 => (if zin 1 2 then ((fl_fillJ q1.2 ((19 + (1 + zix 1))) 0).bind fun q2 => co_meetPartners_14 q2.2 0 (3, 0) (3, 0) (3, 0) (3, 0)) else none)) else none) := e_89 (a0 := 14) rfl
set_option maxRecDepth 100000 in
theorem co_meetPartners_14_e {P : zP} {d : zD P} {a1 : Int} {g2 : zV} {g3 : zV} {g4 : zV} {g5 : zV} : co_meetPartners_14 d a1 g2 g3 g4 g5 = (if wr ((d.m 14 6)) ≤ wr a1 then some (0, d) else co_meetPartners_20 d a1 0 g3 g4 g5) := q_89_14 (a0 := 14) rfl
set_option maxRecDepth 100000 in
theorem co_meetPartners_20_e {P : zP} {d : zD P} {a1 : Int} {a2 : Int} {g3 : zV} {g4 : zV} {g5 : zV} : co_meetPartners_20 d a1 a2 g3 g4 g5 = (if zin 0 2 then (if zin a1 24 then (if wr ((d.m ((22 + (1 + zix 0))) (zix a1))) ≤ wr a2 then co_meetPartners_14 d ((a1 + 1)) (0, a2) g3 g4 g5 else co_meetPartners_30 d a1 a2 0 g4 g5) else none) else none) := q_89_20 (a0 := 14) rfl
set_option maxRecDepth 100000 in
theorem co_meetPartners_30_e {P : zP} {d : zD P} {a1 : Int} {a2 : Int} {a3 : Int} {g4 : zV} {g5 : zV} : co_meetPartners_30 d a1 a2 a3 g4 g5 = (if zin 1 2 then (if zin a1 24 then (if wr ((d.m ((22 + (1 + zix 1))) (zix a1))) ≤ wr a3 then co_meetPartners_20 d a1 ((a2 + 1)) (0, a3) g4 g5 else ((co_wordAt d 0 a1 a2).bind fun q3 => ((co_wordAt q3.2 1 a1 a3).bind fun q4 => (if zin 0 2 then (if zin q3.1 40 then (if zin q3.1 40 then (if zin 1 2 then (if zin q4.1 40 then (if zin q4.1 40 then co_meetPartners_30 ((((q4.2.up ((19 + (1 + zix 0))) (zix q3.1) ((zlbin 4 ((q4.2.m ((19 + (1 + zix 0))) (zix q3.1))) ((zlsh 0 1 q4.1)))))).up ((19 + (1 + zix 1))) (zix q4.1) ((zlbin 4 ((((q4.2.up ((19 + (1 + zix 0))) (zix q3.1) ((zlbin 4 ((q4.2.m ((19 + (1 + zix 0))) (zix q3.1))) ((zlsh 0 1 q4.1)))))).m ((19 + (1 + zix 1))) (zix q4.1))) ((zlsh 0 1 q3.1)))))) a1 a2 ((a3 + 1)) (0, q3.1) (0, q4.1) else none) else none) else none) else none) else none) else none)))) else none) else none) := q_89_30 (a0 := 14) rfl
