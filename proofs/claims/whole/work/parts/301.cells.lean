/-! READS BEHIND WRITES, cell by cell. -/
theorem u_10_12 {P : zP} {d : zD P} {x : Int} : (d.up 10 12 x).m 10 = zfu (d.m 10) 12 x := up_ob (c := 11) rfl (by decide) rfl
theorem u_11_1 {P : zP} {d : zD P} {x : Int} : (d.up 11 1 x).m 11 = zfu (d.m 11) 1 x := up_ob (c := 10) rfl (by decide) rfl
theorem u_11_2 {P : zP} {d : zD P} {x : Int} : (d.up 11 2 x).m 11 = zfu (d.m 11) 2 x := up_ob (c := 10) rfl (by decide) rfl
theorem u_11_3 {P : zP} {d : zD P} {x : Int} : (d.up 11 3 x).m 11 = zfu (d.m 11) 3 x := up_ob (c := 10) rfl (by decide) rfl
theorem u_11_4 {P : zP} {d : zD P} {x : Int} : (d.up 11 4 x).m 11 = zfu (d.m 11) 4 x := up_ob (c := 10) rfl (by decide) rfl
theorem u_12 {P : zP} {d : zD P} {k : Nat} {x : Int} : (d.up 12 k x).m 12 = zfu (d.m 12) k x := up_ar (by decide)
theorem v_12 {P : zP} {d : zD P} {r a b n : Nat} : (d.cp r 12 a b n).m 12 = zcp (d.m r) (d.m 12) a b n := cp_ar (by decide)
theorem u_13_5 {P : zP} {d : zD P} {x : Int} : (d.up 13 5 x).m 13 = zfu (d.m 13) 5 x := up_ob (c := 9) rfl (by decide) rfl
theorem u_13_6 {P : zP} {d : zD P} {x : Int} : (d.up 13 6 x).m 13 = zfu (d.m 13) 6 x := up_ob (c := 9) rfl (by decide) rfl
theorem u_13_7 {P : zP} {d : zD P} {x : Int} : (d.up 13 7 x).m 13 = zfu (d.m 13) 7 x := up_ob (c := 9) rfl (by decide) rfl
theorem u_14_6 {P : zP} {d : zD P} {x : Int} : (d.up 14 6 x).m 14 = zfu (d.m 14) 6 x := up_ob (c := 0) rfl (by decide) rfl
theorem u_15 {P : zP} {d : zD P} {k : Nat} {x : Int} : (d.up 15 k x).m 15 = zfu (d.m 15) k x := up_ar (by decide)
theorem v_15 {P : zP} {d : zD P} {r a b n : Nat} : (d.cp r 15 a b n).m 15 = zcp (d.m r) (d.m 15) a b n := cp_ar (by decide)
theorem u_17 {P : zP} {d : zD P} {k : Nat} {x : Int} : (d.up 17 k x).m 17 = zfu (d.m 17) k x := up_ar (by decide)
theorem v_17 {P : zP} {d : zD P} {r a b n : Nat} : (d.cp r 17 a b n).m 17 = zcp (d.m r) (d.m 17) a b n := cp_ar (by decide)
theorem u_18 {P : zP} {d : zD P} {k : Nat} {x : Int} : (d.up 18 k x).m 18 = zfu (d.m 18) k x := up_ar (by decide)
theorem v_18 {P : zP} {d : zD P} {r a b n : Nat} : (d.cp r 18 a b n).m 18 = zcp (d.m r) (d.m 18) a b n := cp_ar (by decide)
theorem u_20 {P : zP} {d : zD P} {k : Nat} {x : Int} : (d.up 20 k x).m 20 = zfu (d.m 20) k x := up_ar (by decide)
theorem v_20 {P : zP} {d : zD P} {r a b n : Nat} : (d.cp r 20 a b n).m 20 = zcp (d.m r) (d.m 20) a b n := cp_ar (by decide)
theorem u_21 {P : zP} {d : zD P} {k : Nat} {x : Int} : (d.up 21 k x).m 21 = zfu (d.m 21) k x := up_ar (by decide)
theorem v_21 {P : zP} {d : zD P} {r a b n : Nat} : (d.cp r 21 a b n).m 21 = zcp (d.m r) (d.m 21) a b n := cp_ar (by decide)
theorem u_23 {P : zP} {d : zD P} {k : Nat} {x : Int} : (d.up 23 k x).m 23 = zfu (d.m 23) k x := up_ar (by decide)
theorem v_23 {P : zP} {d : zD P} {r a b n : Nat} : (d.cp r 23 a b n).m 23 = zcp (d.m r) (d.m 23) a b n := cp_ar (by decide)
theorem u_24 {P : zP} {d : zD P} {k : Nat} {x : Int} : (d.up 24 k x).m 24 = zfu (d.m 24) k x := up_ar (by decide)
theorem v_24 {P : zP} {d : zD P} {r a b n : Nat} : (d.cp r 24 a b n).m 24 = zcp (d.m r) (d.m 24) a b n := cp_ar (by decide)
theorem u_26 {P : zP} {d : zD P} {k : Nat} {x : Int} : (d.up 26 k x).m 26 = zfu (d.m 26) k x := up_ar (by decide)
theorem v_26 {P : zP} {d : zD P} {r a b n : Nat} : (d.cp r 26 a b n).m 26 = zcp (d.m r) (d.m 26) a b n := cp_ar (by decide)
theorem u_27 {P : zP} {d : zD P} {k : Nat} {x : Int} : (d.up 27 k x).m 27 = zfu (d.m 27) k x := up_ar (by decide)
theorem v_27 {P : zP} {d : zD P} {r a b n : Nat} : (d.cp r 27 a b n).m 27 = zcp (d.m r) (d.m 27) a b n := cp_ar (by decide)
theorem u_28 {P : zP} {d : zD P} {k : Nat} {x : Int} : (d.up 28 k x).m 28 = zfu (d.m 28) k x := up_ar (by decide)
theorem v_28 {P : zP} {d : zD P} {r a b n : Nat} : (d.cp r 28 a b n).m 28 = zcp (d.m r) (d.m 28) a b n := cp_ar (by decide)
theorem u_29_2 {P : zP} {d : zD P} {x : Int} : (d.up 29 2 x).m 29 = zfu (d.m 29) 2 x := up_ob (c := 7) rfl (by decide) rfl
theorem u_30 {P : zP} {d : zD P} {k : Nat} {x : Int} : (d.up 30 k x).m 30 = zfu (d.m 30) k x := up_ar (by decide)
theorem v_30 {P : zP} {d : zD P} {r a b n : Nat} : (d.cp r 30 a b n).m 30 = zcp (d.m r) (d.m 30) a b n := cp_ar (by decide)
theorem u_31 {P : zP} {d : zD P} {k : Nat} {x : Int} : (d.up 31 k x).m 31 = zfu (d.m 31) k x := up_ar (by decide)
theorem v_31 {P : zP} {d : zD P} {r a b n : Nat} : (d.cp r 31 a b n).m 31 = zcp (d.m r) (d.m 31) a b n := cp_ar (by decide)
theorem u_32_2 {P : zP} {d : zD P} {x : Int} : (d.up 32 2 x).m 32 = zfu (d.m 32) 2 x := up_ob (c := 7) rfl (by decide) rfl
theorem u_33 {P : zP} {d : zD P} {k : Nat} {x : Int} : (d.up 33 k x).m 33 = zfu (d.m 33) k x := up_ar (by decide)
theorem v_33 {P : zP} {d : zD P} {r a b n : Nat} : (d.cp r 33 a b n).m 33 = zcp (d.m r) (d.m 33) a b n := cp_ar (by decide)
theorem u_34 {P : zP} {d : zD P} {k : Nat} {x : Int} : (d.up 34 k x).m 34 = zfu (d.m 34) k x := up_ar (by decide)
theorem v_34 {P : zP} {d : zD P} {r a b n : Nat} : (d.cp r 34 a b n).m 34 = zcp (d.m r) (d.m 34) a b n := cp_ar (by decide)
theorem u_36 {P : zP} {d : zD P} {k : Nat} {x : Int} : (d.up 36 k x).m 36 = zfu (d.m 36) k x := up_ar (by decide)
theorem v_36 {P : zP} {d : zD P} {r a b n : Nat} : (d.cp r 36 a b n).m 36 = zcp (d.m r) (d.m 36) a b n := cp_ar (by decide)
theorem u_37 {P : zP} {d : zD P} {k : Nat} {x : Int} : (d.up 37 k x).m 37 = zfu (d.m 37) k x := up_ar (by decide)
theorem v_37 {P : zP} {d : zD P} {r a b n : Nat} : (d.cp r 37 a b n).m 37 = zcp (d.m r) (d.m 37) a b n := cp_ar (by decide)
theorem u_39 {P : zP} {d : zD P} {k : Nat} {x : Int} : (d.up 39 k x).m 39 = zfu (d.m 39) k x := up_ar (by decide)
theorem v_39 {P : zP} {d : zD P} {r a b n : Nat} : (d.cp r 39 a b n).m 39 = zcp (d.m r) (d.m 39) a b n := cp_ar (by decide)
theorem u_40 {P : zP} {d : zD P} {k : Nat} {x : Int} : (d.up 40 k x).m 40 = zfu (d.m 40) k x := up_ar (by decide)
theorem v_40 {P : zP} {d : zD P} {r a b n : Nat} : (d.cp r 40 a b n).m 40 = zcp (d.m r) (d.m 40) a b n := cp_ar (by decide)
theorem u_41_5 {P : zP} {d : zD P} {x : Int} : (d.up 41 5 x).m 41 = zfu (d.m 41) 5 x := up_ob (c := 9) rfl (by decide) rfl
theorem u_41_6 {P : zP} {d : zD P} {x : Int} : (d.up 41 6 x).m 41 = zfu (d.m 41) 6 x := up_ob (c := 9) rfl (by decide) rfl
theorem u_41_7 {P : zP} {d : zD P} {x : Int} : (d.up 41 7 x).m 41 = zfu (d.m 41) 7 x := up_ob (c := 9) rfl (by decide) rfl
theorem u_42_6 {P : zP} {d : zD P} {x : Int} : (d.up 42 6 x).m 42 = zfu (d.m 42) 6 x := up_ob (c := 0) rfl (by decide) rfl
theorem u_43 {P : zP} {d : zD P} {k : Nat} {x : Int} : (d.up 43 k x).m 43 = zfu (d.m 43) k x := up_ar (by decide)
theorem v_43 {P : zP} {d : zD P} {r a b n : Nat} : (d.cp r 43 a b n).m 43 = zcp (d.m r) (d.m 43) a b n := cp_ar (by decide)
theorem u_45 {P : zP} {d : zD P} {k : Nat} {x : Int} : (d.up 45 k x).m 45 = zfu (d.m 45) k x := up_ar (by decide)
theorem v_45 {P : zP} {d : zD P} {r a b n : Nat} : (d.cp r 45 a b n).m 45 = zcp (d.m r) (d.m 45) a b n := cp_ar (by decide)
theorem u_46 {P : zP} {d : zD P} {k : Nat} {x : Int} : (d.up 46 k x).m 46 = zfu (d.m 46) k x := up_ar (by decide)
theorem v_46 {P : zP} {d : zD P} {r a b n : Nat} : (d.cp r 46 a b n).m 46 = zcp (d.m r) (d.m 46) a b n := cp_ar (by decide)
theorem u_48 {P : zP} {d : zD P} {k : Nat} {x : Int} : (d.up 48 k x).m 48 = zfu (d.m 48) k x := up_ar (by decide)
theorem v_48 {P : zP} {d : zD P} {r a b n : Nat} : (d.cp r 48 a b n).m 48 = zcp (d.m r) (d.m 48) a b n := cp_ar (by decide)
theorem u_49 {P : zP} {d : zD P} {k : Nat} {x : Int} : (d.up 49 k x).m 49 = zfu (d.m 49) k x := up_ar (by decide)
theorem v_49 {P : zP} {d : zD P} {r a b n : Nat} : (d.cp r 49 a b n).m 49 = zcp (d.m r) (d.m 49) a b n := cp_ar (by decide)
theorem u_51 {P : zP} {d : zD P} {k : Nat} {x : Int} : (d.up 51 k x).m 51 = zfu (d.m 51) k x := up_ar (by decide)
theorem v_51 {P : zP} {d : zD P} {r a b n : Nat} : (d.cp r 51 a b n).m 51 = zcp (d.m r) (d.m 51) a b n := cp_ar (by decide)
theorem u_52 {P : zP} {d : zD P} {k : Nat} {x : Int} : (d.up 52 k x).m 52 = zfu (d.m 52) k x := up_ar (by decide)
theorem v_52 {P : zP} {d : zD P} {r a b n : Nat} : (d.cp r 52 a b n).m 52 = zcp (d.m r) (d.m 52) a b n := cp_ar (by decide)
theorem u_54 {P : zP} {d : zD P} {k : Nat} {x : Int} : (d.up 54 k x).m 54 = zfu (d.m 54) k x := up_ar (by decide)
theorem v_54 {P : zP} {d : zD P} {r a b n : Nat} : (d.cp r 54 a b n).m 54 = zcp (d.m r) (d.m 54) a b n := cp_ar (by decide)
theorem u_55 {P : zP} {d : zD P} {k : Nat} {x : Int} : (d.up 55 k x).m 55 = zfu (d.m 55) k x := up_ar (by decide)
theorem v_55 {P : zP} {d : zD P} {r a b n : Nat} : (d.cp r 55 a b n).m 55 = zcp (d.m r) (d.m 55) a b n := cp_ar (by decide)
theorem u_56 {P : zP} {d : zD P} {k : Nat} {x : Int} : (d.up 56 k x).m 56 = zfu (d.m 56) k x := up_ar (by decide)
theorem v_56 {P : zP} {d : zD P} {r a b n : Nat} : (d.cp r 56 a b n).m 56 = zcp (d.m r) (d.m 56) a b n := cp_ar (by decide)
theorem u_57_2 {P : zP} {d : zD P} {x : Int} : (d.up 57 2 x).m 57 = zfu (d.m 57) 2 x := up_ob (c := 7) rfl (by decide) rfl
theorem u_58 {P : zP} {d : zD P} {k : Nat} {x : Int} : (d.up 58 k x).m 58 = zfu (d.m 58) k x := up_ar (by decide)
theorem v_58 {P : zP} {d : zD P} {r a b n : Nat} : (d.cp r 58 a b n).m 58 = zcp (d.m r) (d.m 58) a b n := cp_ar (by decide)
theorem u_59 {P : zP} {d : zD P} {k : Nat} {x : Int} : (d.up 59 k x).m 59 = zfu (d.m 59) k x := up_ar (by decide)
theorem v_59 {P : zP} {d : zD P} {r a b n : Nat} : (d.cp r 59 a b n).m 59 = zcp (d.m r) (d.m 59) a b n := cp_ar (by decide)
theorem u_60_2 {P : zP} {d : zD P} {x : Int} : (d.up 60 2 x).m 60 = zfu (d.m 60) 2 x := up_ob (c := 7) rfl (by decide) rfl
theorem u_61 {P : zP} {d : zD P} {k : Nat} {x : Int} : (d.up 61 k x).m 61 = zfu (d.m 61) k x := up_ar (by decide)
theorem v_61 {P : zP} {d : zD P} {r a b n : Nat} : (d.cp r 61 a b n).m 61 = zcp (d.m r) (d.m 61) a b n := cp_ar (by decide)
theorem u_62 {P : zP} {d : zD P} {k : Nat} {x : Int} : (d.up 62 k x).m 62 = zfu (d.m 62) k x := up_ar (by decide)
theorem v_62 {P : zP} {d : zD P} {r a b n : Nat} : (d.cp r 62 a b n).m 62 = zcp (d.m r) (d.m 62) a b n := cp_ar (by decide)
theorem u_64 {P : zP} {d : zD P} {k : Nat} {x : Int} : (d.up 64 k x).m 64 = zfu (d.m 64) k x := up_ar (by decide)
theorem v_64 {P : zP} {d : zD P} {r a b n : Nat} : (d.cp r 64 a b n).m 64 = zcp (d.m r) (d.m 64) a b n := cp_ar (by decide)
theorem u_65 {P : zP} {d : zD P} {k : Nat} {x : Int} : (d.up 65 k x).m 65 = zfu (d.m 65) k x := up_ar (by decide)
theorem v_65 {P : zP} {d : zD P} {r a b n : Nat} : (d.cp r 65 a b n).m 65 = zcp (d.m r) (d.m 65) a b n := cp_ar (by decide)
theorem u_67 {P : zP} {d : zD P} {k : Nat} {x : Int} : (d.up 67 k x).m 67 = zfu (d.m 67) k x := up_ar (by decide)
theorem v_67 {P : zP} {d : zD P} {r a b n : Nat} : (d.cp r 67 a b n).m 67 = zcp (d.m r) (d.m 67) a b n := cp_ar (by decide)
theorem u_68 {P : zP} {d : zD P} {k : Nat} {x : Int} : (d.up 68 k x).m 68 = zfu (d.m 68) k x := up_ar (by decide)
theorem v_68 {P : zP} {d : zD P} {r a b n : Nat} : (d.cp r 68 a b n).m 68 = zcp (d.m r) (d.m 68) a b n := cp_ar (by decide)
theorem u_69_5 {P : zP} {d : zD P} {x : Int} : (d.up 69 5 x).m 69 = zfu (d.m 69) 5 x := up_ob (c := 9) rfl (by decide) rfl
theorem u_69_6 {P : zP} {d : zD P} {x : Int} : (d.up 69 6 x).m 69 = zfu (d.m 69) 6 x := up_ob (c := 9) rfl (by decide) rfl
theorem u_69_7 {P : zP} {d : zD P} {x : Int} : (d.up 69 7 x).m 69 = zfu (d.m 69) 7 x := up_ob (c := 9) rfl (by decide) rfl
theorem u_70_6 {P : zP} {d : zD P} {x : Int} : (d.up 70 6 x).m 70 = zfu (d.m 70) 6 x := up_ob (c := 0) rfl (by decide) rfl
theorem u_71 {P : zP} {d : zD P} {k : Nat} {x : Int} : (d.up 71 k x).m 71 = zfu (d.m 71) k x := up_ar (by decide)
theorem v_71 {P : zP} {d : zD P} {r a b n : Nat} : (d.cp r 71 a b n).m 71 = zcp (d.m r) (d.m 71) a b n := cp_ar (by decide)
theorem u_73 {P : zP} {d : zD P} {k : Nat} {x : Int} : (d.up 73 k x).m 73 = zfu (d.m 73) k x := up_ar (by decide)
theorem v_73 {P : zP} {d : zD P} {r a b n : Nat} : (d.cp r 73 a b n).m 73 = zcp (d.m r) (d.m 73) a b n := cp_ar (by decide)
theorem u_74 {P : zP} {d : zD P} {k : Nat} {x : Int} : (d.up 74 k x).m 74 = zfu (d.m 74) k x := up_ar (by decide)
theorem v_74 {P : zP} {d : zD P} {r a b n : Nat} : (d.cp r 74 a b n).m 74 = zcp (d.m r) (d.m 74) a b n := cp_ar (by decide)
theorem u_76 {P : zP} {d : zD P} {k : Nat} {x : Int} : (d.up 76 k x).m 76 = zfu (d.m 76) k x := up_ar (by decide)
theorem v_76 {P : zP} {d : zD P} {r a b n : Nat} : (d.cp r 76 a b n).m 76 = zcp (d.m r) (d.m 76) a b n := cp_ar (by decide)
theorem u_77 {P : zP} {d : zD P} {k : Nat} {x : Int} : (d.up 77 k x).m 77 = zfu (d.m 77) k x := up_ar (by decide)
theorem v_77 {P : zP} {d : zD P} {r a b n : Nat} : (d.cp r 77 a b n).m 77 = zcp (d.m r) (d.m 77) a b n := cp_ar (by decide)
theorem u_79 {P : zP} {d : zD P} {k : Nat} {x : Int} : (d.up 79 k x).m 79 = zfu (d.m 79) k x := up_ar (by decide)
theorem v_79 {P : zP} {d : zD P} {r a b n : Nat} : (d.cp r 79 a b n).m 79 = zcp (d.m r) (d.m 79) a b n := cp_ar (by decide)
theorem u_80 {P : zP} {d : zD P} {k : Nat} {x : Int} : (d.up 80 k x).m 80 = zfu (d.m 80) k x := up_ar (by decide)
theorem v_80 {P : zP} {d : zD P} {r a b n : Nat} : (d.cp r 80 a b n).m 80 = zcp (d.m r) (d.m 80) a b n := cp_ar (by decide)
theorem u_82 {P : zP} {d : zD P} {k : Nat} {x : Int} : (d.up 82 k x).m 82 = zfu (d.m 82) k x := up_ar (by decide)
theorem v_82 {P : zP} {d : zD P} {r a b n : Nat} : (d.cp r 82 a b n).m 82 = zcp (d.m r) (d.m 82) a b n := cp_ar (by decide)
theorem u_83 {P : zP} {d : zD P} {k : Nat} {x : Int} : (d.up 83 k x).m 83 = zfu (d.m 83) k x := up_ar (by decide)
theorem v_83 {P : zP} {d : zD P} {r a b n : Nat} : (d.cp r 83 a b n).m 83 = zcp (d.m r) (d.m 83) a b n := cp_ar (by decide)
theorem u_84 {P : zP} {d : zD P} {k : Nat} {x : Int} : (d.up 84 k x).m 84 = zfu (d.m 84) k x := up_ar (by decide)
theorem v_84 {P : zP} {d : zD P} {r a b n : Nat} : (d.cp r 84 a b n).m 84 = zcp (d.m r) (d.m 84) a b n := cp_ar (by decide)
theorem u_85_2 {P : zP} {d : zD P} {x : Int} : (d.up 85 2 x).m 85 = zfu (d.m 85) 2 x := up_ob (c := 7) rfl (by decide) rfl
theorem u_86 {P : zP} {d : zD P} {k : Nat} {x : Int} : (d.up 86 k x).m 86 = zfu (d.m 86) k x := up_ar (by decide)
theorem v_86 {P : zP} {d : zD P} {r a b n : Nat} : (d.cp r 86 a b n).m 86 = zcp (d.m r) (d.m 86) a b n := cp_ar (by decide)
theorem u_87 {P : zP} {d : zD P} {k : Nat} {x : Int} : (d.up 87 k x).m 87 = zfu (d.m 87) k x := up_ar (by decide)
theorem v_87 {P : zP} {d : zD P} {r a b n : Nat} : (d.cp r 87 a b n).m 87 = zcp (d.m r) (d.m 87) a b n := cp_ar (by decide)
theorem u_88_2 {P : zP} {d : zD P} {x : Int} : (d.up 88 2 x).m 88 = zfu (d.m 88) 2 x := up_ob (c := 7) rfl (by decide) rfl
theorem u_89 {P : zP} {d : zD P} {k : Nat} {x : Int} : (d.up 89 k x).m 89 = zfu (d.m 89) k x := up_ar (by decide)
theorem v_89 {P : zP} {d : zD P} {r a b n : Nat} : (d.cp r 89 a b n).m 89 = zcp (d.m r) (d.m 89) a b n := cp_ar (by decide)
theorem u_90 {P : zP} {d : zD P} {k : Nat} {x : Int} : (d.up 90 k x).m 90 = zfu (d.m 90) k x := up_ar (by decide)
theorem v_90 {P : zP} {d : zD P} {r a b n : Nat} : (d.cp r 90 a b n).m 90 = zcp (d.m r) (d.m 90) a b n := cp_ar (by decide)
theorem u_92 {P : zP} {d : zD P} {k : Nat} {x : Int} : (d.up 92 k x).m 92 = zfu (d.m 92) k x := up_ar (by decide)
theorem v_92 {P : zP} {d : zD P} {r a b n : Nat} : (d.cp r 92 a b n).m 92 = zcp (d.m r) (d.m 92) a b n := cp_ar (by decide)
theorem u_93 {P : zP} {d : zD P} {k : Nat} {x : Int} : (d.up 93 k x).m 93 = zfu (d.m 93) k x := up_ar (by decide)
theorem v_93 {P : zP} {d : zD P} {r a b n : Nat} : (d.cp r 93 a b n).m 93 = zcp (d.m r) (d.m 93) a b n := cp_ar (by decide)
theorem u_95 {P : zP} {d : zD P} {k : Nat} {x : Int} : (d.up 95 k x).m 95 = zfu (d.m 95) k x := up_ar (by decide)
theorem v_95 {P : zP} {d : zD P} {r a b n : Nat} : (d.cp r 95 a b n).m 95 = zcp (d.m r) (d.m 95) a b n := cp_ar (by decide)
theorem u_96 {P : zP} {d : zD P} {k : Nat} {x : Int} : (d.up 96 k x).m 96 = zfu (d.m 96) k x := up_ar (by decide)
theorem v_96 {P : zP} {d : zD P} {r a b n : Nat} : (d.cp r 96 a b n).m 96 = zcp (d.m r) (d.m 96) a b n := cp_ar (by decide)
theorem u_97_2 {P : zP} {d : zD P} {x : Int} : (d.up 97 2 x).m 97 = zfu (d.m 97) 2 x := up_ob (c := 7) rfl (by decide) rfl
theorem u_98 {P : zP} {d : zD P} {k : Nat} {x : Int} : (d.up 98 k x).m 98 = zfu (d.m 98) k x := up_ar (by decide)
theorem v_98 {P : zP} {d : zD P} {r a b n : Nat} : (d.cp r 98 a b n).m 98 = zcp (d.m r) (d.m 98) a b n := cp_ar (by decide)
theorem u_99 {P : zP} {d : zD P} {k : Nat} {x : Int} : (d.up 99 k x).m 99 = zfu (d.m 99) k x := up_ar (by decide)
theorem v_99 {P : zP} {d : zD P} {r a b n : Nat} : (d.cp r 99 a b n).m 99 = zcp (d.m r) (d.m 99) a b n := cp_ar (by decide)
theorem u_100_2 {P : zP} {d : zD P} {x : Int} : (d.up 100 2 x).m 100 = zfu (d.m 100) 2 x := up_ob (c := 7) rfl (by decide) rfl
theorem u_101 {P : zP} {d : zD P} {k : Nat} {x : Int} : (d.up 101 k x).m 101 = zfu (d.m 101) k x := up_ar (by decide)
theorem v_101 {P : zP} {d : zD P} {r a b n : Nat} : (d.cp r 101 a b n).m 101 = zcp (d.m r) (d.m 101) a b n := cp_ar (by decide)
theorem u_102 {P : zP} {d : zD P} {k : Nat} {x : Int} : (d.up 102 k x).m 102 = zfu (d.m 102) k x := up_ar (by decide)
theorem v_102 {P : zP} {d : zD P} {r a b n : Nat} : (d.cp r 102 a b n).m 102 = zcp (d.m r) (d.m 102) a b n := cp_ar (by decide)
theorem u_103_4 {P : zP} {d : zD P} {x : Int} : (d.up 103 4 x).m 103 = zfu (d.m 103) 4 x := up_ob (c := 2) rfl (by decide) rfl
theorem u_103_5 {P : zP} {d : zD P} {x : Int} : (d.up 103 5 x).m 103 = zfu (d.m 103) 5 x := up_ob (c := 2) rfl (by decide) rfl
theorem u_103_6 {P : zP} {d : zD P} {x : Int} : (d.up 103 6 x).m 103 = zfu (d.m 103) 6 x := up_ob (c := 2) rfl (by decide) rfl
theorem u_104 {P : zP} {d : zD P} {k : Nat} {x : Int} : (d.up 104 k x).m 104 = zfu (d.m 104) k x := up_ar (by decide)
theorem v_104 {P : zP} {d : zD P} {r a b n : Nat} : (d.cp r 104 a b n).m 104 = zcp (d.m r) (d.m 104) a b n := cp_ar (by decide)
theorem u_105 {P : zP} {d : zD P} {k : Nat} {x : Int} : (d.up 105 k x).m 105 = zfu (d.m 105) k x := up_ar (by decide)
theorem v_105 {P : zP} {d : zD P} {r a b n : Nat} : (d.cp r 105 a b n).m 105 = zcp (d.m r) (d.m 105) a b n := cp_ar (by decide)
theorem u_106 {P : zP} {d : zD P} {k : Nat} {x : Int} : (d.up 106 k x).m 106 = zfu (d.m 106) k x := up_ar (by decide)
theorem v_106 {P : zP} {d : zD P} {r a b n : Nat} : (d.cp r 106 a b n).m 106 = zcp (d.m r) (d.m 106) a b n := cp_ar (by decide)
theorem u_107 {P : zP} {d : zD P} {k : Nat} {x : Int} : (d.up 107 k x).m 107 = zfu (d.m 107) k x := up_ar (by decide)
theorem v_107 {P : zP} {d : zD P} {r a b n : Nat} : (d.cp r 107 a b n).m 107 = zcp (d.m r) (d.m 107) a b n := cp_ar (by decide)
theorem u_109_3 {P : zP} {d : zD P} {x : Int} : (d.up 109 3 x).m 109 = zfu (d.m 109) 3 x := up_ob (c := 3) rfl (by decide) rfl
theorem u_110 {P : zP} {d : zD P} {k : Nat} {x : Int} : (d.up 110 k x).m 110 = zfu (d.m 110) k x := up_ar (by decide)
theorem v_110 {P : zP} {d : zD P} {r a b n : Nat} : (d.cp r 110 a b n).m 110 = zcp (d.m r) (d.m 110) a b n := cp_ar (by decide)
theorem u_111 {P : zP} {d : zD P} {k : Nat} {x : Int} : (d.up 111 k x).m 111 = zfu (d.m 111) k x := up_ar (by decide)
theorem v_111 {P : zP} {d : zD P} {r a b n : Nat} : (d.cp r 111 a b n).m 111 = zcp (d.m r) (d.m 111) a b n := cp_ar (by decide)
theorem u_112 {P : zP} {d : zD P} {k : Nat} {x : Int} : (d.up 112 k x).m 112 = zfu (d.m 112) k x := up_ar (by decide)
theorem v_112 {P : zP} {d : zD P} {r a b n : Nat} : (d.cp r 112 a b n).m 112 = zcp (d.m r) (d.m 112) a b n := cp_ar (by decide)
theorem u_113 {P : zP} {d : zD P} {k : Nat} {x : Int} : (d.up 113 k x).m 113 = zfu (d.m 113) k x := up_ar (by decide)
theorem v_113 {P : zP} {d : zD P} {r a b n : Nat} : (d.cp r 113 a b n).m 113 = zcp (d.m r) (d.m 113) a b n := cp_ar (by decide)
theorem u_114 {P : zP} {d : zD P} {k : Nat} {x : Int} : (d.up 114 k x).m 114 = zfu (d.m 114) k x := up_ar (by decide)
theorem v_114 {P : zP} {d : zD P} {r a b n : Nat} : (d.cp r 114 a b n).m 114 = zcp (d.m r) (d.m 114) a b n := cp_ar (by decide)
theorem u_115_4 {P : zP} {d : zD P} {x : Int} : (d.up 115 4 x).m 115 = zfu (d.m 115) 4 x := up_ob (c := 1) rfl (by decide) rfl
theorem u_115_5 {P : zP} {d : zD P} {x : Int} : (d.up 115 5 x).m 115 = zfu (d.m 115) 5 x := up_ob (c := 1) rfl (by decide) rfl
theorem u_116 {P : zP} {d : zD P} {k : Nat} {x : Int} : (d.up 116 k x).m 116 = zfu (d.m 116) k x := up_ar (by decide)
theorem v_116 {P : zP} {d : zD P} {r a b n : Nat} : (d.cp r 116 a b n).m 116 = zcp (d.m r) (d.m 116) a b n := cp_ar (by decide)
theorem u_117 {P : zP} {d : zD P} {k : Nat} {x : Int} : (d.up 117 k x).m 117 = zfu (d.m 117) k x := up_ar (by decide)
theorem v_117 {P : zP} {d : zD P} {r a b n : Nat} : (d.cp r 117 a b n).m 117 = zcp (d.m r) (d.m 117) a b n := cp_ar (by decide)
theorem u_118 {P : zP} {d : zD P} {k : Nat} {x : Int} : (d.up 118 k x).m 118 = zfu (d.m 118) k x := up_ar (by decide)
theorem v_118 {P : zP} {d : zD P} {r a b n : Nat} : (d.cp r 118 a b n).m 118 = zcp (d.m r) (d.m 118) a b n := cp_ar (by decide)
theorem u_119 {P : zP} {d : zD P} {k : Nat} {x : Int} : (d.up 119 k x).m 119 = zfu (d.m 119) k x := up_ar (by decide)
theorem v_119 {P : zP} {d : zD P} {r a b n : Nat} : (d.cp r 119 a b n).m 119 = zcp (d.m r) (d.m 119) a b n := cp_ar (by decide)
theorem u_120_1 {P : zP} {d : zD P} {x : Int} : (d.up 120 1 x).m 120 = zfu (d.m 120) 1 x := up_ob (c := 8) rfl (by decide) rfl
theorem u_120_2 {P : zP} {d : zD P} {x : Int} : (d.up 120 2 x).m 120 = zfu (d.m 120) 2 x := up_ob (c := 8) rfl (by decide) rfl
theorem u_120_3 {P : zP} {d : zD P} {x : Int} : (d.up 120 3 x).m 120 = zfu (d.m 120) 3 x := up_ob (c := 8) rfl (by decide) rfl
theorem u_121 {P : zP} {d : zD P} {k : Nat} {x : Int} : (d.up 121 k x).m 121 = zfu (d.m 121) k x := up_ar (by decide)
theorem v_121 {P : zP} {d : zD P} {r a b n : Nat} : (d.cp r 121 a b n).m 121 = zcp (d.m r) (d.m 121) a b n := cp_ar (by decide)
theorem u_122_2 {P : zP} {d : zD P} {x : Int} : (d.up 122 2 x).m 122 = zfu (d.m 122) 2 x := up_ob (c := 4) rfl (by decide) rfl
theorem u_123 {P : zP} {d : zD P} {k : Nat} {x : Int} : (d.up 123 k x).m 123 = zfu (d.m 123) k x := up_ar (by decide)
theorem v_123 {P : zP} {d : zD P} {r a b n : Nat} : (d.cp r 123 a b n).m 123 = zcp (d.m r) (d.m 123) a b n := cp_ar (by decide)
theorem u_124 {P : zP} {d : zD P} {k : Nat} {x : Int} : (d.up 124 k x).m 124 = zfu (d.m 124) k x := up_ar (by decide)
theorem v_124 {P : zP} {d : zD P} {r a b n : Nat} : (d.cp r 124 a b n).m 124 = zcp (d.m r) (d.m 124) a b n := cp_ar (by decide)
theorem u_125_6 {P : zP} {d : zD P} {x : Int} : (d.up 125 6 x).m 125 = zfu (d.m 125) 6 x := up_ob (c := 5) rfl (by decide) rfl
theorem u_125_7 {P : zP} {d : zD P} {x : Int} : (d.up 125 7 x).m 125 = zfu (d.m 125) 7 x := up_ob (c := 5) rfl (by decide) rfl
theorem u_125_8 {P : zP} {d : zD P} {x : Int} : (d.up 125 8 x).m 125 = zfu (d.m 125) 8 x := up_ob (c := 5) rfl (by decide) rfl
theorem u_126 {P : zP} {d : zD P} {k : Nat} {x : Int} : (d.up 126 k x).m 126 = zfu (d.m 126) k x := up_ar (by decide)
theorem v_126 {P : zP} {d : zD P} {r a b n : Nat} : (d.cp r 126 a b n).m 126 = zcp (d.m r) (d.m 126) a b n := cp_ar (by decide)
theorem u_127 {P : zP} {d : zD P} {k : Nat} {x : Int} : (d.up 127 k x).m 127 = zfu (d.m 127) k x := up_ar (by decide)
theorem v_127 {P : zP} {d : zD P} {r a b n : Nat} : (d.cp r 127 a b n).m 127 = zcp (d.m r) (d.m 127) a b n := cp_ar (by decide)
theorem u_128 {P : zP} {d : zD P} {k : Nat} {x : Int} : (d.up 128 k x).m 128 = zfu (d.m 128) k x := up_ar (by decide)
theorem v_128 {P : zP} {d : zD P} {r a b n : Nat} : (d.cp r 128 a b n).m 128 = zcp (d.m r) (d.m 128) a b n := cp_ar (by decide)
theorem u_129 {P : zP} {d : zD P} {k : Nat} {x : Int} : (d.up 129 k x).m 129 = zfu (d.m 129) k x := up_ar (by decide)
theorem v_129 {P : zP} {d : zD P} {r a b n : Nat} : (d.cp r 129 a b n).m 129 = zcp (d.m r) (d.m 129) a b n := cp_ar (by decide)
theorem u_130 {P : zP} {d : zD P} {k : Nat} {x : Int} : (d.up 130 k x).m 130 = zfu (d.m 130) k x := up_ar (by decide)
theorem v_130 {P : zP} {d : zD P} {r a b n : Nat} : (d.cp r 130 a b n).m 130 = zcp (d.m r) (d.m 130) a b n := cp_ar (by decide)
theorem u_131 {P : zP} {d : zD P} {k : Nat} {x : Int} : (d.up 131 k x).m 131 = zfu (d.m 131) k x := up_ar (by decide)
theorem v_131 {P : zP} {d : zD P} {r a b n : Nat} : (d.cp r 131 a b n).m 131 = zcp (d.m r) (d.m 131) a b n := cp_ar (by decide)
theorem u_132_1 {P : zP} {d : zD P} {x : Int} : (d.up 132 1 x).m 132 = zfu (d.m 132) 1 x := up_ob (c := 12) rfl (by decide) rfl
theorem u_132_3 {P : zP} {d : zD P} {x : Int} : (d.up 132 3 x).m 132 = zfu (d.m 132) 3 x := up_ob (c := 12) rfl (by decide) rfl
theorem u_132_4 {P : zP} {d : zD P} {x : Int} : (d.up 132 4 x).m 132 = zfu (d.m 132) 4 x := up_ob (c := 12) rfl (by decide) rfl
theorem u_132_5 {P : zP} {d : zD P} {x : Int} : (d.up 132 5 x).m 132 = zfu (d.m 132) 5 x := up_ob (c := 12) rfl (by decide) rfl
theorem u_132_6 {P : zP} {d : zD P} {x : Int} : (d.up 132 6 x).m 132 = zfu (d.m 132) 6 x := up_ob (c := 12) rfl (by decide) rfl
theorem u_132_7 {P : zP} {d : zD P} {x : Int} : (d.up 132 7 x).m 132 = zfu (d.m 132) 7 x := up_ob (c := 12) rfl (by decide) rfl
theorem u_132_8 {P : zP} {d : zD P} {x : Int} : (d.up 132 8 x).m 132 = zfu (d.m 132) 8 x := up_ob (c := 12) rfl (by decide) rfl
theorem u_132_10 {P : zP} {d : zD P} {x : Int} : (d.up 132 10 x).m 132 = zfu (d.m 132) 10 x := up_ob (c := 12) rfl (by decide) rfl
theorem u_132_30 {P : zP} {d : zD P} {x : Int} : (d.up 132 30 x).m 132 = zfu (d.m 132) 30 x := up_ob (c := 12) rfl (by decide) rfl
theorem u_132_35 {P : zP} {d : zD P} {x : Int} : (d.up 132 35 x).m 132 = zfu (d.m 132) 35 x := up_ob (c := 12) rfl (by decide) rfl
theorem u_133 {P : zP} {d : zD P} {k : Nat} {x : Int} : (d.up 133 k x).m 133 = zfu (d.m 133) k x := up_ar (by decide)
theorem v_133 {P : zP} {d : zD P} {r a b n : Nat} : (d.cp r 133 a b n).m 133 = zcp (d.m r) (d.m 133) a b n := cp_ar (by decide)
theorem u_134 {P : zP} {d : zD P} {k : Nat} {x : Int} : (d.up 134 k x).m 134 = zfu (d.m 134) k x := up_ar (by decide)
theorem v_134 {P : zP} {d : zD P} {r a b n : Nat} : (d.cp r 134 a b n).m 134 = zcp (d.m r) (d.m 134) a b n := cp_ar (by decide)
theorem u_135 {P : zP} {d : zD P} {k : Nat} {x : Int} : (d.up 135 k x).m 135 = zfu (d.m 135) k x := up_ar (by decide)
theorem v_135 {P : zP} {d : zD P} {r a b n : Nat} : (d.cp r 135 a b n).m 135 = zcp (d.m r) (d.m 135) a b n := cp_ar (by decide)
theorem u_136 {P : zP} {d : zD P} {k : Nat} {x : Int} : (d.up 136 k x).m 136 = zfu (d.m 136) k x := up_ar (by decide)
theorem v_136 {P : zP} {d : zD P} {r a b n : Nat} : (d.cp r 136 a b n).m 136 = zcp (d.m r) (d.m 136) a b n := cp_ar (by decide)
theorem u_137 {P : zP} {d : zD P} {k : Nat} {x : Int} : (d.up 137 k x).m 137 = zfu (d.m 137) k x := up_ar (by decide)
theorem v_137 {P : zP} {d : zD P} {r a b n : Nat} : (d.cp r 137 a b n).m 137 = zcp (d.m r) (d.m 137) a b n := cp_ar (by decide)
theorem u_138 {P : zP} {d : zD P} {k : Nat} {x : Int} : (d.up 138 k x).m 138 = zfu (d.m 138) k x := up_ar (by decide)
theorem v_138 {P : zP} {d : zD P} {r a b n : Nat} : (d.cp r 138 a b n).m 138 = zcp (d.m r) (d.m 138) a b n := cp_ar (by decide)
theorem u_139 {P : zP} {d : zD P} {k : Nat} {x : Int} : (d.up 139 k x).m 139 = zfu (d.m 139) k x := up_ar (by decide)
theorem v_139 {P : zP} {d : zD P} {r a b n : Nat} : (d.cp r 139 a b n).m 139 = zcp (d.m r) (d.m 139) a b n := cp_ar (by decide)
theorem u_140 {P : zP} {d : zD P} {k : Nat} {x : Int} : (d.up 140 k x).m 140 = zfu (d.m 140) k x := up_ar (by decide)
theorem v_140 {P : zP} {d : zD P} {r a b n : Nat} : (d.cp r 140 a b n).m 140 = zcp (d.m r) (d.m 140) a b n := cp_ar (by decide)
theorem u_141 {P : zP} {d : zD P} {k : Nat} {x : Int} : (d.up 141 k x).m 141 = zfu (d.m 141) k x := up_ar (by decide)
theorem v_141 {P : zP} {d : zD P} {r a b n : Nat} : (d.cp r 141 a b n).m 141 = zcp (d.m r) (d.m 141) a b n := cp_ar (by decide)
theorem u_142 {P : zP} {d : zD P} {k : Nat} {x : Int} : (d.up 142 k x).m 142 = zfu (d.m 142) k x := up_ar (by decide)
theorem v_142 {P : zP} {d : zD P} {r a b n : Nat} : (d.cp r 142 a b n).m 142 = zcp (d.m r) (d.m 142) a b n := cp_ar (by decide)
theorem u_143 {P : zP} {d : zD P} {k : Nat} {x : Int} : (d.up 143 k x).m 143 = zfu (d.m 143) k x := up_ar (by decide)
theorem v_143 {P : zP} {d : zD P} {r a b n : Nat} : (d.cp r 143 a b n).m 143 = zcp (d.m r) (d.m 143) a b n := cp_ar (by decide)
theorem u_144 {P : zP} {d : zD P} {k : Nat} {x : Int} : (d.up 144 k x).m 144 = zfu (d.m 144) k x := up_ar (by decide)
theorem v_144 {P : zP} {d : zD P} {r a b n : Nat} : (d.cp r 144 a b n).m 144 = zcp (d.m r) (d.m 144) a b n := cp_ar (by decide)
theorem u_145 {P : zP} {d : zD P} {k : Nat} {x : Int} : (d.up 145 k x).m 145 = zfu (d.m 145) k x := up_ar (by decide)
theorem v_145 {P : zP} {d : zD P} {r a b n : Nat} : (d.cp r 145 a b n).m 145 = zcp (d.m r) (d.m 145) a b n := cp_ar (by decide)
theorem u_146 {P : zP} {d : zD P} {k : Nat} {x : Int} : (d.up 146 k x).m 146 = zfu (d.m 146) k x := up_ar (by decide)
theorem v_146 {P : zP} {d : zD P} {r a b n : Nat} : (d.cp r 146 a b n).m 146 = zcp (d.m r) (d.m 146) a b n := cp_ar (by decide)
theorem u_147 {P : zP} {d : zD P} {k : Nat} {x : Int} : (d.up 147 k x).m 147 = zfu (d.m 147) k x := up_ar (by decide)
theorem v_147 {P : zP} {d : zD P} {r a b n : Nat} : (d.cp r 147 a b n).m 147 = zcp (d.m r) (d.m 147) a b n := cp_ar (by decide)
theorem u_148 {P : zP} {d : zD P} {k : Nat} {x : Int} : (d.up 148 k x).m 148 = zfu (d.m 148) k x := up_ar (by decide)
theorem v_148 {P : zP} {d : zD P} {r a b n : Nat} : (d.cp r 148 a b n).m 148 = zcp (d.m r) (d.m 148) a b n := cp_ar (by decide)
theorem u_149 {P : zP} {d : zD P} {k : Nat} {x : Int} : (d.up 149 k x).m 149 = zfu (d.m 149) k x := up_ar (by decide)
theorem v_149 {P : zP} {d : zD P} {r a b n : Nat} : (d.cp r 149 a b n).m 149 = zcp (d.m r) (d.m 149) a b n := cp_ar (by decide)
theorem u_150 {P : zP} {d : zD P} {k : Nat} {x : Int} : (d.up 150 k x).m 150 = zfu (d.m 150) k x := up_ar (by decide)
theorem v_150 {P : zP} {d : zD P} {r a b n : Nat} : (d.cp r 150 a b n).m 150 = zcp (d.m r) (d.m 150) a b n := cp_ar (by decide)
theorem u_151 {P : zP} {d : zD P} {k : Nat} {x : Int} : (d.up 151 k x).m 151 = zfu (d.m 151) k x := up_ar (by decide)
theorem v_151 {P : zP} {d : zD P} {r a b n : Nat} : (d.cp r 151 a b n).m 151 = zcp (d.m r) (d.m 151) a b n := cp_ar (by decide)
theorem u_152 {P : zP} {d : zD P} {k : Nat} {x : Int} : (d.up 152 k x).m 152 = zfu (d.m 152) k x := up_ar (by decide)
theorem v_152 {P : zP} {d : zD P} {r a b n : Nat} : (d.cp r 152 a b n).m 152 = zcp (d.m r) (d.m 152) a b n := cp_ar (by decide)
theorem u_153 {P : zP} {d : zD P} {k : Nat} {x : Int} : (d.up 153 k x).m 153 = zfu (d.m 153) k x := up_ar (by decide)
theorem v_153 {P : zP} {d : zD P} {r a b n : Nat} : (d.cp r 153 a b n).m 153 = zcp (d.m r) (d.m 153) a b n := cp_ar (by decide)
theorem u_154 {P : zP} {d : zD P} {k : Nat} {x : Int} : (d.up 154 k x).m 154 = zfu (d.m 154) k x := up_ar (by decide)
theorem v_154 {P : zP} {d : zD P} {r a b n : Nat} : (d.cp r 154 a b n).m 154 = zcp (d.m r) (d.m 154) a b n := cp_ar (by decide)
theorem u_155 {P : zP} {d : zD P} {k : Nat} {x : Int} : (d.up 155 k x).m 155 = zfu (d.m 155) k x := up_ar (by decide)
theorem v_155 {P : zP} {d : zD P} {r a b n : Nat} : (d.cp r 155 a b n).m 155 = zcp (d.m r) (d.m 155) a b n := cp_ar (by decide)
theorem u_156 {P : zP} {d : zD P} {k : Nat} {x : Int} : (d.up 156 k x).m 156 = zfu (d.m 156) k x := up_ar (by decide)
theorem v_156 {P : zP} {d : zD P} {r a b n : Nat} : (d.cp r 156 a b n).m 156 = zcp (d.m r) (d.m 156) a b n := cp_ar (by decide)
theorem u_157 {P : zP} {d : zD P} {k : Nat} {x : Int} : (d.up 157 k x).m 157 = zfu (d.m 157) k x := up_ar (by decide)
theorem v_157 {P : zP} {d : zD P} {r a b n : Nat} : (d.cp r 157 a b n).m 157 = zcp (d.m r) (d.m 157) a b n := cp_ar (by decide)
theorem u_158 {P : zP} {d : zD P} {k : Nat} {x : Int} : (d.up 158 k x).m 158 = zfu (d.m 158) k x := up_ar (by decide)
theorem v_158 {P : zP} {d : zD P} {r a b n : Nat} : (d.cp r 158 a b n).m 158 = zcp (d.m r) (d.m 158) a b n := cp_ar (by decide)
theorem u_16s {P : zP} {d : zD P} {s : Int} {k : Nat} {x : Int} (h : 0 ≤ s ∧ s < 2) : (d.up (16 + (1 + zix s)) k x).m (16 + (1 + zix s)) = zfu (d.m (16 + (1 + zix s))) k x := by
  refine up_ar ?_
  rw [zix_id (by omega)]
  rcases (by omega : s = 0 ∨ s = 1) with rfl | rfl <;> decide
theorem u_19s {P : zP} {d : zD P} {s : Int} {k : Nat} {x : Int} (h : 0 ≤ s ∧ s < 2) : (d.up (19 + (1 + zix s)) k x).m (19 + (1 + zix s)) = zfu (d.m (19 + (1 + zix s))) k x := by
  refine up_ar ?_
  rw [zix_id (by omega)]
  rcases (by omega : s = 0 ∨ s = 1) with rfl | rfl <;> decide
theorem u_22s {P : zP} {d : zD P} {s : Int} {k : Nat} {x : Int} (h : 0 ≤ s ∧ s < 2) : (d.up (22 + (1 + zix s)) k x).m (22 + (1 + zix s)) = zfu (d.m (22 + (1 + zix s))) k x := by
  refine up_ar ?_
  rw [zix_id (by omega)]
  rcases (by omega : s = 0 ∨ s = 1) with rfl | rfl <;> decide
theorem u_25s {P : zP} {d : zD P} {s : Int} {k : Nat} {x : Int} (h : 0 ≤ s ∧ s < 2) : (d.up (25 + (1 + zix s)) k x).m (25 + (1 + zix s)) = zfu (d.m (25 + (1 + zix s))) k x := by
  refine up_ar ?_
  rw [zix_id (by omega)]
  rcases (by omega : s = 0 ∨ s = 1) with rfl | rfl <;> decide
theorem u_35s {P : zP} {d : zD P} {s : Int} {k : Nat} {x : Int} (h : 0 ≤ s ∧ s < 2) : (d.up (35 + (1 + zix s)) k x).m (35 + (1 + zix s)) = zfu (d.m (35 + (1 + zix s))) k x := by
  refine up_ar ?_
  rw [zix_id (by omega)]
  rcases (by omega : s = 0 ∨ s = 1) with rfl | rfl <;> decide
theorem u_38s {P : zP} {d : zD P} {s : Int} {k : Nat} {x : Int} (h : 0 ≤ s ∧ s < 2) : (d.up (38 + (1 + zix s)) k x).m (38 + (1 + zix s)) = zfu (d.m (38 + (1 + zix s))) k x := by
  refine up_ar ?_
  rw [zix_id (by omega)]
  rcases (by omega : s = 0 ∨ s = 1) with rfl | rfl <;> decide
