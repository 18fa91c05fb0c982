/-! The methods from 240 on, block by block. -/
/-! WordLinksModel.partsShares(IIZ)V -/
set_option maxRecDepth 100000 in
theorem e_240 {P : zP} {d : zD P} {a0 : Nat} {a1 : Int} {a2 : Int} {a3 : Int} (ha0 : zkd a0 = 12) : MM P 240 [(2, ((a0 : Nat) : Int)), (0, a1), (0, a2), (0, a3)] d = zB P 240 4 [(2, ((a0 : Nat) : Int)), (0, a1), (0, a2), (0, a3), (0, 0), (0, 0)] [] d := by
  have hT := cT_240
  refine Eq.trans (MM_def sm_240 (Nat.le_of_ble_eq_true rfl)) ?_
  change zB P 240 0 [(2, ((a0 : Nat) : Int)), (0, a1), (0, a2), (0, a3), (3, 0), (3, 0)] [] d = _
  refine Eq.trans (x0 (h := 0) hT rfl) ?_
  refine Eq.trans (x2 (ls' := [(2, ((a0 : Nat) : Int)), (0, a1), (0, a2), (0, a3), (0, 0), (3, 0)]) (h := 1) hT rfl (Nat.le_of_ble_eq_true rfl) rfl) ?_
  refine Eq.trans (x0 (h := 2) hT rfl) ?_
  refine Eq.trans (x2 (ls' := [(2, ((a0 : Nat) : Int)), (0, a1), (0, a2), (0, a3), (0, 0), (0, 0)]) (h := 3) hT rfl (Nat.le_of_ble_eq_true rfl) rfl) ?_
  exact rfl
set_option maxRecDepth 100000 in
theorem q_240_4 {P : zP} {d : zD P} {a0 : Nat} {a1 : Int} {a2 : Int} {a3 : Int} {a4 : Int} {a5 : Int} (ha0 : zkd a0 = 12) : zB P 240 4 [(2, ((a0 : Nat) : Int)), (0, a1), (0, a2), (0, a3), (0, a4), (0, a5)] [] d = ((MM P 81 [(2, ((a0 : Nat) : Int)), (0, (1 - a1))] d).bind fun q1 => (if wr q1.1 ≤ wr a5 then ((MM P 67 [(2, ((a0 : Nat) : Int)), (0, a4)] q1.2).bind fun q2 => zB P 240 52 [(2, ((a0 : Nat) : Int)), (0, a1), (0, a2), (0, a3), (0, 0), (0, 0)] [] q2.2) else ((MM P 146 [(2, ((a0 : Nat) : Int)), (0, a1), (0, a2), (0, a5)] q1.2).bind fun q3 => (if wr q3.1 ≠ 0 then (if wr a3 = 0 then (if zin (((40 * a2) + a5)) 1600 then (if zin a4 40 then zB P 240 4 [(2, ((a0 : Nat) : Int)), (0, a1), (0, a2), (0, a3), (0, (a4 + 1)), (0, (a5 + 1))] [] ((q3.2.up ((a0 + 11)) (zix a4) ((wr ((q3.2.m ((a0 + 15)) (zix (((40 * a2) + a5))))))))) else none) else none) else ((MM P 198 [(2, ((a0 : Nat) : Int)), (0, a1), (0, a2), (0, a5)] q3.2).bind fun q6 => (if zin a4 40 then zB P 240 4 [(2, ((a0 : Nat) : Int)), (0, a1), (0, a2), (0, a3), (0, (a4 + 1)), (0, (a5 + 1))] [] ((q6.2.up ((a0 + 11)) (zix a4) q6.1)) else none))) else zB P 240 4 [(2, ((a0 : Nat) : Int)), (0, a1), (0, a2), (0, a3), (0, a4), (0, (a5 + 1))] [] q3.2)))) := by
  have hT := cT_240
  refine Eq.trans (x1 (h := 4) hT rfl rfl (by decide)) ?_
  refine Eq.trans (x1 (h := 5) hT rfl rfl (by decide)) ?_
  refine Eq.trans (x0 (h := 6) hT rfl) ?_
  refine Eq.trans (x1 (h := 7) hT rfl rfl (by decide)) ?_
  refine Eq.trans (x5_1 (h := 8) hT rfl) ?_
  refine Eq.trans (x31 (r := a0) (cl := 12) (as := [(0, (1 - a1))]) (st' := [(0, a5)]) (h := 9) hT rfl sm_81 rfl ha0) ?_
  refine xbd (fun q1 => ?_)
  rw [rv_81]
  change zB P 240 10 [(2, ((a0 : Nat) : Int)), (0, a1), (0, a2), (0, a3), (0, a4), (0, a5)] [(0, q1.1), (0, a5)] q1.2 = _
  refine Eq.trans (x17_3 (h := 10) hT rfl) ?_
  refine xit (fun _ => ?_) (fun _ => ?_)
  · refine Eq.trans (x1 (h := 45) hT rfl rfl (by decide)) ?_
    refine Eq.trans (x1 (h := 46) hT rfl rfl (by decide)) ?_
    refine Eq.trans (x31 (r := a0) (cl := 12) (as := [(0, a4)]) (st' := []) (h := 47) hT rfl sm_67 rfl ha0) ?_
    refine xbd (fun q2 => ?_)
    rw [rv_67]
    change zB P 240 48 [(2, ((a0 : Nat) : Int)), (0, a1), (0, a2), (0, a3), (0, a4), (0, a5)] [] q2.2 = _
    refine Eq.trans (x0 (h := 48) hT rfl) ?_
    refine Eq.trans (x2 (ls' := [(2, ((a0 : Nat) : Int)), (0, a1), (0, a2), (0, a3), (0, 0), (0, a5)]) (h := 49) hT rfl (Nat.le_of_ble_eq_true rfl) rfl) ?_
    refine Eq.trans (x0 (h := 50) hT rfl) ?_
    refine Eq.trans (x2 (ls' := [(2, ((a0 : Nat) : Int)), (0, a1), (0, a2), (0, a3), (0, 0), (0, 0)]) (h := 51) hT rfl (Nat.le_of_ble_eq_true rfl) rfl) ?_
    exact rfl
  · refine Eq.trans (x1 (h := 11) hT rfl rfl (by decide)) ?_
    refine Eq.trans (x1 (h := 12) hT rfl rfl (by decide)) ?_
    refine Eq.trans (x1 (h := 13) hT rfl rfl (by decide)) ?_
    refine Eq.trans (x1 (h := 14) hT rfl rfl (by decide)) ?_
    refine Eq.trans (x31 (r := a0) (cl := 12) (as := [(0, a1), (0, a2), (0, a5)]) (st' := []) (h := 15) hT rfl sm_146 rfl ha0) ?_
    refine xbd (fun q3 => ?_)
    rw [rv_146]
    change zB P 240 16 [(2, ((a0 : Nat) : Int)), (0, a1), (0, a2), (0, a3), (0, a4), (0, a5)] [(0, q3.1)] q3.2 = _
    refine Eq.trans (x16_1 (h := 16) hT rfl) ?_
    refine xit (fun _ => ?_) (fun _ => ?_)
    · refine Eq.trans (x1 (h := 18) hT rfl rfl (by decide)) ?_
      refine Eq.trans (x21r (r := a0) (cl := 12) (o := 11) (h := 19) hT rfl ha0 (by decide) rfl) ?_
      refine Eq.trans (x1 (h := 20) hT rfl rfl (by decide)) ?_
      refine Eq.trans (x1 (h := 21) hT rfl rfl (by decide)) ?_
      refine Eq.trans (x16_0 (h := 22) hT rfl) ?_
      refine xit (fun _ => ?_) (fun _ => ?_)
      · refine Eq.trans (x1 (h := 29) hT rfl rfl (by decide)) ?_
        refine Eq.trans (x21r (r := a0) (cl := 12) (o := 15) (h := 30) hT rfl ha0 (by decide) rfl) ?_
        refine Eq.trans (x0 (h := 31) hT rfl) ?_
        refine Eq.trans (x1 (h := 32) hT rfl rfl (by decide)) ?_
        refine Eq.trans (x5_2 (h := 33) hT rfl) ?_
        refine Eq.trans (x1 (h := 34) hT rfl rfl (by decide)) ?_
        refine Eq.trans (x5_0 (h := 35) hT rfl) ?_
        refine Eq.trans (x24 (r := (a0 + 15)) (n := 1600) (h := 36) hT rfl (Or.inl (kd_12_22 ha0)) (ln_12_22 ha0)) ?_
        refine xig (fun hz4 => ?_)
        refine Eq.trans (x12 (h := 37) hT rfl) ?_
        refine Eq.trans (x25a (r := (a0 + 11)) (n := 40) (h := 38) hT rfl (kd_12_18 ha0) (ln_12_18 ha0) (by decide) rfl) ?_
        refine xig (fun hz5 => ?_)
        refine Eq.trans (x1 (h := 39) hT rfl rfl (by decide)) ?_
        refine Eq.trans (x0 (h := 40) hT rfl) ?_
        refine Eq.trans (x5_0 (h := 41) hT rfl) ?_
        refine Eq.trans (x2 (ls' := [(2, ((a0 : Nat) : Int)), (0, a1), (0, a2), (0, a3), (0, (a4 + 1)), (0, a5)]) (h := 42) hT rfl (Nat.le_of_ble_eq_true rfl) rfl) ?_
        refine Eq.trans (x4 (ls' := [(2, ((a0 : Nat) : Int)), (0, a1), (0, a2), (0, a3), (0, (a4 + 1)), (0, (a5 + 1))]) (h := 43) hT rfl rfl rfl) ?_
        refine Eq.trans (x18 (h := 44) hT rfl) ?_
        exact rfl
      · refine Eq.trans (x1 (h := 23) hT rfl rfl (by decide)) ?_
        refine Eq.trans (x1 (h := 24) hT rfl rfl (by decide)) ?_
        refine Eq.trans (x1 (h := 25) hT rfl rfl (by decide)) ?_
        refine Eq.trans (x1 (h := 26) hT rfl rfl (by decide)) ?_
        refine Eq.trans (x31 (r := a0) (cl := 12) (as := [(0, a1), (0, a2), (0, a5)]) (st' := [(0, a4), (2, (((a0 + 11) : Nat) : Int))]) (h := 27) hT rfl sm_198 rfl ha0) ?_
        refine xbd (fun q6 => ?_)
        rw [rv_198]
        change zB P 240 28 [(2, ((a0 : Nat) : Int)), (0, a1), (0, a2), (0, a3), (0, a4), (0, a5)] [(1, q6.1), (0, a4), (2, (((a0 + 11) : Nat) : Int))] q6.2 = _
        refine Eq.trans (x18 (h := 28) hT rfl) ?_
        refine Eq.trans (x25a (r := (a0 + 11)) (n := 40) (h := 38) hT rfl (kd_12_18 ha0) (ln_12_18 ha0) (by decide) rfl) ?_
        refine xig (fun hz7 => ?_)
        refine Eq.trans (x1 (h := 39) hT rfl rfl (by decide)) ?_
        refine Eq.trans (x0 (h := 40) hT rfl) ?_
        refine Eq.trans (x5_0 (h := 41) hT rfl) ?_
        refine Eq.trans (x2 (ls' := [(2, ((a0 : Nat) : Int)), (0, a1), (0, a2), (0, a3), (0, (a4 + 1)), (0, a5)]) (h := 42) hT rfl (Nat.le_of_ble_eq_true rfl) rfl) ?_
        refine Eq.trans (x4 (ls' := [(2, ((a0 : Nat) : Int)), (0, a1), (0, a2), (0, a3), (0, (a4 + 1)), (0, (a5 + 1))]) (h := 43) hT rfl rfl rfl) ?_
        refine Eq.trans (x18 (h := 44) hT rfl) ?_
        exact rfl
    · refine Eq.trans (x18 (h := 17) hT rfl) ?_
      refine Eq.trans (x4 (ls' := [(2, ((a0 : Nat) : Int)), (0, a1), (0, a2), (0, a3), (0, a4), (0, (a5 + 1))]) (h := 43) hT rfl rfl rfl) ?_
      refine Eq.trans (x18 (h := 44) hT rfl) ?_
      exact rfl
set_option maxRecDepth 100000 in
theorem q_240_52 {P : zP} {d : zD P} {a0 : Nat} {a1 : Int} {a2 : Int} {g3 : zV} {a4 : Int} {a5 : Int} (ha0 : zkd a0 = 12) : zB P 240 52 [(2, ((a0 : Nat) : Int)), (0, a1), (0, a2), g3, (0, a4), (0, a5)] [] d = ((MM P 81 [(2, ((a0 : Nat) : Int)), (0, (1 - a1))] d).bind fun q8 => (if wr q8.1 ≤ wr a5 then some (0, q8.2) else ((MM P 146 [(2, ((a0 : Nat) : Int)), (0, a1), (0, a2), (0, a5)] q8.2).bind fun q9 => (if wr q9.1 ≠ 0 then (if zin a4 40 then ((MM P 70 [(2, ((a0 : Nat) : Int)), (0, a1), (0, a2), (0, a5), (0, (q9.2.m ((a0 + 13)) (zix a4)))] q9.2).bind fun q11 => zB P 240 52 [(2, ((a0 : Nat) : Int)), (0, a1), (0, a2), (if (g3).1 = 1 then (3, 0) else g3), (0, (a4 + 1)), (0, (a5 + 1))] [] q11.2) else none) else zB P 240 52 [(2, ((a0 : Nat) : Int)), (0, a1), (0, a2), g3, (0, a4), (0, (a5 + 1))] [] q9.2)))) := by
  have hT := cT_240
  refine Eq.trans (x1 (h := 52) hT rfl rfl (by decide)) ?_
  refine Eq.trans (x1 (h := 53) hT rfl rfl (by decide)) ?_
  refine Eq.trans (x0 (h := 54) hT rfl) ?_
  refine Eq.trans (x1 (h := 55) hT rfl rfl (by decide)) ?_
  refine Eq.trans (x5_1 (h := 56) hT rfl) ?_
  refine Eq.trans (x31 (r := a0) (cl := 12) (as := [(0, (1 - a1))]) (st' := [(0, a5)]) (h := 57) hT rfl sm_81 rfl ha0) ?_
  refine xbd (fun q8 => ?_)
  rw [rv_81]
  change zB P 240 58 [(2, ((a0 : Nat) : Int)), (0, a1), (0, a2), g3, (0, a4), (0, a5)] [(0, q8.1), (0, a5)] q8.2 = _
  refine Eq.trans (x17_3 (h := 58) hT rfl) ?_
  refine xit (fun _ => ?_) (fun _ => ?_)
  · exact x20 (h := 81) hT rfl
  · refine Eq.trans (x1 (h := 59) hT rfl rfl (by decide)) ?_
    refine Eq.trans (x1 (h := 60) hT rfl rfl (by decide)) ?_
    refine Eq.trans (x1 (h := 61) hT rfl rfl (by decide)) ?_
    refine Eq.trans (x1 (h := 62) hT rfl rfl (by decide)) ?_
    refine Eq.trans (x31 (r := a0) (cl := 12) (as := [(0, a1), (0, a2), (0, a5)]) (st' := []) (h := 63) hT rfl sm_146 rfl ha0) ?_
    refine xbd (fun q9 => ?_)
    rw [rv_146]
    change zB P 240 64 [(2, ((a0 : Nat) : Int)), (0, a1), (0, a2), g3, (0, a4), (0, a5)] [(0, q9.1)] q9.2 = _
    refine Eq.trans (x16_1 (h := 64) hT rfl) ?_
    refine xit (fun _ => ?_) (fun _ => ?_)
    · refine Eq.trans (x1 (h := 66) hT rfl rfl (by decide)) ?_
      refine Eq.trans (x1 (h := 67) hT rfl rfl (by decide)) ?_
      refine Eq.trans (x1 (h := 68) hT rfl rfl (by decide)) ?_
      refine Eq.trans (x1 (h := 69) hT rfl rfl (by decide)) ?_
      refine Eq.trans (x1 (h := 70) hT rfl rfl (by decide)) ?_
      refine Eq.trans (x21r (r := a0) (cl := 12) (o := 13) (h := 71) hT rfl ha0 (by decide) rfl) ?_
      refine Eq.trans (x1 (h := 72) hT rfl rfl (by decide)) ?_
      refine Eq.trans (x24 (r := (a0 + 13)) (n := 40) (h := 73) hT rfl (Or.inl (kd_12_20 ha0)) (ln_12_20 ha0)) ?_
      refine xig (fun hz10 => ?_)
      refine Eq.trans (x31 (r := a0) (cl := 12) (as := [(0, a1), (0, a2), (0, a5), (0, (q9.2.m ((a0 + 13)) (zix a4)))]) (st' := []) (h := 74) hT rfl sm_70 rfl ha0) ?_
      refine xbd (fun q11 => ?_)
      rw [rv_70]
      change zB P 240 75 [(2, ((a0 : Nat) : Int)), (0, a1), (0, a2), g3, (0, a4), (0, a5)] [] q11.2 = _
      refine Eq.trans (x1 (h := 75) hT rfl rfl (by decide)) ?_
      refine Eq.trans (x0 (h := 76) hT rfl) ?_
      refine Eq.trans (x5_0 (h := 77) hT rfl) ?_
      refine Eq.trans (x2 (ls' := [(2, ((a0 : Nat) : Int)), (0, a1), (0, a2), (if (g3).1 = 1 then (3, 0) else g3), (0, (a4 + 1)), (0, a5)]) (h := 78) hT rfl (Nat.le_of_ble_eq_true rfl) rfl) ?_
      refine Eq.trans (x4 (ls' := [(2, ((a0 : Nat) : Int)), (0, a1), (0, a2), (if (g3).1 = 1 then (3, 0) else g3), (0, (a4 + 1)), (0, (a5 + 1))]) (h := 79) hT rfl rfl rfl) ?_
      refine Eq.trans (x18 (h := 80) hT rfl) ?_
      exact rfl
    · refine Eq.trans (x18 (h := 65) hT rfl) ?_
      refine Eq.trans (x4 (ls' := [(2, ((a0 : Nat) : Int)), (0, a1), (0, a2), g3, (0, a4), (0, (a5 + 1))]) (h := 79) hT rfl rfl rfl) ?_
      refine Eq.trans (x18 (h := 80) hT rfl) ?_
      exact rfl
/-! WordLinksModel.putOver(I)I -/
set_option maxRecDepth 100000 in
theorem e_241 {P : zP} {d : zD P} {a0 : Nat} {a1 : Int} (ha0 : zkd a0 = 12) : MM P 241 [(2, ((a0 : Nat) : Int)), (0, a1)] d = zB P 241 6 [(2, ((a0 : Nat) : Int)), (0, a1), (0, 0), (0, 0), (0, 0), (3, 0), (3, 0), (3, 0)] [] d := by
  have hT := cT_241
  refine Eq.trans (MM_def sm_241 (Nat.le_of_ble_eq_true rfl)) ?_
  change zB P 241 0 [(2, ((a0 : Nat) : Int)), (0, a1), (3, 0), (3, 0), (3, 0), (3, 0), (3, 0), (3, 0)] [] d = _
  refine Eq.trans (x0 (h := 0) hT rfl) ?_
  refine Eq.trans (x2 (ls' := [(2, ((a0 : Nat) : Int)), (0, a1), (0, 0), (3, 0), (3, 0), (3, 0), (3, 0), (3, 0)]) (h := 1) hT rfl (Nat.le_of_ble_eq_true rfl) rfl) ?_
  refine Eq.trans (x0 (h := 2) hT rfl) ?_
  refine Eq.trans (x2 (ls' := [(2, ((a0 : Nat) : Int)), (0, a1), (0, 0), (0, 0), (3, 0), (3, 0), (3, 0), (3, 0)]) (h := 3) hT rfl (Nat.le_of_ble_eq_true rfl) rfl) ?_
  refine Eq.trans (x0 (h := 4) hT rfl) ?_
  refine Eq.trans (x2 (ls' := [(2, ((a0 : Nat) : Int)), (0, a1), (0, 0), (0, 0), (0, 0), (3, 0), (3, 0), (3, 0)]) (h := 5) hT rfl (Nat.le_of_ble_eq_true rfl) rfl) ?_
  exact rfl
set_option maxRecDepth 100000 in
theorem q_241_6 {P : zP} {d : zD P} {a0 : Nat} {a1 : Int} {a2 : Int} {a3 : Int} {a4 : Int} {g5 : zV} {g6 : zV} {g7 : zV} (ha0 : zkd a0 = 12) : zB P 241 6 [(2, ((a0 : Nat) : Int)), (0, a1), (0, a2), (0, a3), (0, a4), g5, g6, g7] [] d = (if wr ((d.m a0 35)) ≤ wr a2 then (if wr a1 ≠ wr 2 then some ((-4), d) else some (a4, d)) else (if zin a2 9 then ((MM P 207 [(2, ((a0 : Nat) : Int)), (0, (d.m ((a0 + 26)) (zix a2))), (0, 1)] d).bind fun q2 => (if wr a1 ≠ wr ((10 + a3)) then zB P 241 29 [(2, ((a0 : Nat) : Int)), (0, a1), (0, a2), (0, a3), (0, a4), (0, (d.m ((a0 + 26)) (zix a2))), (0, q2.1), (0, 0)] [] q2.2 else some ((d.m ((a0 + 26)) (zix a2)), q2.2))) else none)) := by
  have hT := cT_241
  refine Eq.trans (x1 (h := 6) hT rfl rfl (by decide)) ?_
  refine Eq.trans (x1 (h := 7) hT rfl rfl (by decide)) ?_
  refine Eq.trans (x21 (r := a0) (cl := 12) (h := 8) hT rfl ha0) ?_
  refine Eq.trans (x17_3 (h := 9) hT rfl) ?_
  refine xit (fun _ => ?_) (fun _ => ?_)
  · refine Eq.trans (x1 (h := 69) hT rfl rfl (by decide)) ?_
    refine Eq.trans (x0 (h := 70) hT rfl) ?_
    refine Eq.trans (x17_1 (h := 71) hT rfl) ?_
    refine xit (fun _ => ?_) (fun _ => ?_)
    · refine Eq.trans (x0 (h := 74) hT rfl) ?_
      exact x201 (h := 75) hT rfl
    · refine Eq.trans (x1 (h := 72) hT rfl rfl (by decide)) ?_
      refine Eq.trans (x18 (h := 73) hT rfl) ?_
      exact x201 (h := 75) hT rfl
  · refine Eq.trans (x1 (h := 10) hT rfl rfl (by decide)) ?_
    refine Eq.trans (x21r (r := a0) (cl := 12) (o := 26) (h := 11) hT rfl ha0 (by decide) rfl) ?_
    refine Eq.trans (x1 (h := 12) hT rfl rfl (by decide)) ?_
    refine Eq.trans (x24 (r := (a0 + 26)) (n := 9) (h := 13) hT rfl (Or.inl (kd_12_34 ha0)) (ln_12_34 ha0)) ?_
    refine xig (fun hz1 => ?_)
    refine Eq.trans (x2 (ls' := [(2, ((a0 : Nat) : Int)), (0, a1), (0, a2), (0, a3), (0, a4), (0, (d.m ((a0 + 26)) (zix a2))), g6, g7]) (h := 14) hT rfl (Nat.le_of_ble_eq_true rfl) rfl) ?_
    refine Eq.trans (x1 (h := 15) hT rfl rfl (by decide)) ?_
    refine Eq.trans (x1 (h := 16) hT rfl rfl (by decide)) ?_
    refine Eq.trans (x0 (h := 17) hT rfl) ?_
    refine Eq.trans (x31 (r := a0) (cl := 12) (as := [(0, (d.m ((a0 + 26)) (zix a2))), (0, 1)]) (st' := []) (h := 18) hT rfl sm_207 rfl ha0) ?_
    refine xbd (fun q2 => ?_)
    rw [rv_207]
    change zB P 241 19 [(2, ((a0 : Nat) : Int)), (0, a1), (0, a2), (0, a3), (0, a4), (0, (d.m ((a0 + 26)) (zix a2))), g6, g7] [(0, q2.1)] q2.2 = _
    refine Eq.trans (x2 (ls' := [(2, ((a0 : Nat) : Int)), (0, a1), (0, a2), (0, a3), (0, a4), (0, (d.m ((a0 + 26)) (zix a2))), (0, q2.1), g7]) (h := 19) hT rfl (Nat.le_of_ble_eq_true rfl) rfl) ?_
    refine Eq.trans (x1 (h := 20) hT rfl rfl (by decide)) ?_
    refine Eq.trans (x0 (h := 21) hT rfl) ?_
    refine Eq.trans (x1 (h := 22) hT rfl rfl (by decide)) ?_
    refine Eq.trans (x5_0 (h := 23) hT rfl) ?_
    refine Eq.trans (x17_1 (h := 24) hT rfl) ?_
    refine xit (fun _ => ?_) (fun _ => ?_)
    · refine Eq.trans (x0 (h := 27) hT rfl) ?_
      refine Eq.trans (x2 (ls' := [(2, ((a0 : Nat) : Int)), (0, a1), (0, a2), (0, a3), (0, a4), (0, (d.m ((a0 + 26)) (zix a2))), (0, q2.1), (0, 0)]) (h := 28) hT rfl (Nat.le_of_ble_eq_true rfl) rfl) ?_
      exact rfl
    · refine Eq.trans (x1 (h := 25) hT rfl rfl (by decide)) ?_
      exact x201 (h := 26) hT rfl
set_option maxRecDepth 100000 in
theorem q_241_29 {P : zP} {d : zD P} {a0 : Nat} {a1 : Int} {a2 : Int} {a3 : Int} {a4 : Int} {a5 : Int} {a6 : Int} {a7 : Int} (ha0 : zkd a0 = 12) : zB P 241 29 [(2, ((a0 : Nat) : Int)), (0, a1), (0, a2), (0, a3), (0, a4), (0, a5), (0, a6), (0, a7)] [] d = (if wr a6 ≤ wr a7 then ((MM P 207 [(2, ((a0 : Nat) : Int)), (0, a5), (0, 0)] d).bind fun q3 => zB P 241 6 [(2, ((a0 : Nat) : Int)), (0, a1), (0, (a2 + q3.1)), (0, (a3 + 1)), (0, (a4 + a6)), (0, a5), (0, a6), (0, a7)] [] q3.2) else (if wr a1 ≠ wr (((100 + a4) + a7)) then zB P 241 29 [(2, ((a0 : Nat) : Int)), (0, a1), (0, a2), (0, a3), (0, a4), (0, a5), (0, a6), (0, (a7 + 1))] [] d else (if wr a5 ≠ wr 9999 then ((MM P 69 [(2, ((a0 : Nat) : Int)), (0, a5), (0, 1)] d).bind fun q4 => ((MM P 79 [(0, q4.1), (0, a7)] q4.2).bind fun q5 => some (q5.1, q5.2))) else some ((-3), d)))) := by
  have hT := cT_241
  refine Eq.trans (x1 (h := 29) hT rfl rfl (by decide)) ?_
  refine Eq.trans (x1 (h := 30) hT rfl rfl (by decide)) ?_
  refine Eq.trans (x17_3 (h := 31) hT rfl) ?_
  refine xit (fun _ => ?_) (fun _ => ?_)
  · refine Eq.trans (x1 (h := 53) hT rfl rfl (by decide)) ?_
    refine Eq.trans (x1 (h := 54) hT rfl rfl (by decide)) ?_
    refine Eq.trans (x5_0 (h := 55) hT rfl) ?_
    refine Eq.trans (x2 (ls' := [(2, ((a0 : Nat) : Int)), (0, a1), (0, a2), (0, a3), (0, (a4 + a6)), (0, a5), (0, a6), (0, a7)]) (h := 56) hT rfl (Nat.le_of_ble_eq_true rfl) rfl) ?_
    refine Eq.trans (x1 (h := 57) hT rfl rfl (by decide)) ?_
    refine Eq.trans (x0 (h := 58) hT rfl) ?_
    refine Eq.trans (x5_0 (h := 59) hT rfl) ?_
    refine Eq.trans (x2 (ls' := [(2, ((a0 : Nat) : Int)), (0, a1), (0, a2), (0, (a3 + 1)), (0, (a4 + a6)), (0, a5), (0, a6), (0, a7)]) (h := 60) hT rfl (Nat.le_of_ble_eq_true rfl) rfl) ?_
    refine Eq.trans (x1 (h := 61) hT rfl rfl (by decide)) ?_
    refine Eq.trans (x1 (h := 62) hT rfl rfl (by decide)) ?_
    refine Eq.trans (x1 (h := 63) hT rfl rfl (by decide)) ?_
    refine Eq.trans (x0 (h := 64) hT rfl) ?_
    refine Eq.trans (x31 (r := a0) (cl := 12) (as := [(0, a5), (0, 0)]) (st' := [(0, a2)]) (h := 65) hT rfl sm_207 rfl ha0) ?_
    refine xbd (fun q3 => ?_)
    rw [rv_207]
    change zB P 241 66 [(2, ((a0 : Nat) : Int)), (0, a1), (0, a2), (0, (a3 + 1)), (0, (a4 + a6)), (0, a5), (0, a6), (0, a7)] [(0, q3.1), (0, a2)] q3.2 = _
    refine Eq.trans (x5_0 (h := 66) hT rfl) ?_
    refine Eq.trans (x2 (ls' := [(2, ((a0 : Nat) : Int)), (0, a1), (0, (a2 + q3.1)), (0, (a3 + 1)), (0, (a4 + a6)), (0, a5), (0, a6), (0, a7)]) (h := 67) hT rfl (Nat.le_of_ble_eq_true rfl) rfl) ?_
    refine Eq.trans (x18 (h := 68) hT rfl) ?_
    exact rfl
  · refine Eq.trans (x1 (h := 32) hT rfl rfl (by decide)) ?_
    refine Eq.trans (x0 (h := 33) hT rfl) ?_
    refine Eq.trans (x1 (h := 34) hT rfl rfl (by decide)) ?_
    refine Eq.trans (x5_0 (h := 35) hT rfl) ?_
    refine Eq.trans (x1 (h := 36) hT rfl rfl (by decide)) ?_
    refine Eq.trans (x5_0 (h := 37) hT rfl) ?_
    refine Eq.trans (x17_1 (h := 38) hT rfl) ?_
    refine xit (fun _ => ?_) (fun _ => ?_)
    · refine Eq.trans (x4 (ls' := [(2, ((a0 : Nat) : Int)), (0, a1), (0, a2), (0, a3), (0, a4), (0, a5), (0, a6), (0, (a7 + 1))]) (h := 51) hT rfl rfl rfl) ?_
      refine Eq.trans (x18 (h := 52) hT rfl) ?_
      exact rfl
    · refine Eq.trans (x1 (h := 39) hT rfl rfl (by decide)) ?_
      refine Eq.trans (x0 (h := 40) hT rfl) ?_
      refine Eq.trans (x17_1 (h := 41) hT rfl) ?_
      refine xit (fun _ => ?_) (fun _ => ?_)
      · refine Eq.trans (x1 (h := 44) hT rfl rfl (by decide)) ?_
        refine Eq.trans (x1 (h := 45) hT rfl rfl (by decide)) ?_
        refine Eq.trans (x0 (h := 46) hT rfl) ?_
        refine Eq.trans (x31 (r := a0) (cl := 12) (as := [(0, a5), (0, 1)]) (st' := []) (h := 47) hT rfl sm_69 rfl ha0) ?_
        refine xbd (fun q4 => ?_)
        rw [rv_69]
        change zB P 241 48 [(2, ((a0 : Nat) : Int)), (0, a1), (0, a2), (0, a3), (0, a4), (0, a5), (0, a6), (0, a7)] [(0, q4.1)] q4.2 = _
        refine Eq.trans (x1 (h := 48) hT rfl rfl (by decide)) ?_
        refine Eq.trans (x34 (as := [(0, q4.1), (0, a7)]) (st' := []) (h := 49) hT rfl sm_79 rfl) ?_
        refine xbd (fun q5 => ?_)
        rw [rv_79]
        change zB P 241 50 [(2, ((a0 : Nat) : Int)), (0, a1), (0, a2), (0, a3), (0, a4), (0, a5), (0, a6), (0, a7)] [(0, q5.1)] q5.2 = _
        exact x201 (h := 50) hT rfl
      · refine Eq.trans (x0 (h := 42) hT rfl) ?_
        refine Eq.trans (x18 (h := 43) hT rfl) ?_
        exact x201 (h := 50) hT rfl
/-! WordLinksModel.readsSaid(I)Z -/
set_option maxRecDepth 100000 in
theorem e_242 {P : zP} {d : zD P} {a0 : Nat} {a1 : Int} (ha0 : zkd a0 = 12) : MM P 242 [(2, ((a0 : Nat) : Int)), (0, a1)] d = zB P 242 9 [(2, ((a0 : Nat) : Int)), (0, a1)] [] ((((((d.up a0 4 0)).up a0 5 a1)).up a0 35 0)) := by
  have hT := cT_242
  refine Eq.trans (MM_def sm_242 (Nat.le_of_ble_eq_true rfl)) ?_
  change zB P 242 0 [(2, ((a0 : Nat) : Int)), (0, a1)] [] d = _
  refine Eq.trans (x1 (h := 0) hT rfl rfl (by decide)) ?_
  refine Eq.trans (x0 (h := 1) hT rfl) ?_
  refine Eq.trans (x22 (r := a0) (cl := 12) (h := 2) hT rfl ha0 (by decide) rfl (by decide)) ?_
  refine Eq.trans (x1 (h := 3) hT rfl rfl (by decide)) ?_
  refine Eq.trans (x1 (h := 4) hT rfl rfl (by decide)) ?_
  refine Eq.trans (x22 (r := a0) (cl := 12) (h := 5) hT rfl ha0 (by decide) rfl (by decide)) ?_
  refine Eq.trans (x1 (h := 6) hT rfl rfl (by decide)) ?_
  refine Eq.trans (x0 (h := 7) hT rfl) ?_
  refine Eq.trans (x22 (r := a0) (cl := 12) (h := 8) hT rfl ha0 (by decide) rfl (by decide)) ?_
  exact rfl
set_option maxRecDepth 100000 in
theorem q_242_9 {P : zP} {d : zD P} {a0 : Nat} {g1 : zV} (ha0 : zkd a0 = 12) : zB P 242 9 [(2, ((a0 : Nat) : Int)), g1] [] d = (if wr 8 ≤ wr ((d.m a0 35)) then some (0, d) else ((MM P 158 [(2, ((a0 : Nat) : Int))] d).bind fun q1 => (if wr q1.1 = 0 then some (0, q1.2) else ((MM P 203 [(2, ((a0 : Nat) : Int)), (0, 0)] q1.2).bind fun q2 => (if wr q2.1 ≠ wr ((-1)) then ((MM P 203 [(2, ((a0 : Nat) : Int)), (0, 0)] q2.2).bind fun q3 => (if zin ((q2.2.m a0 35)) 8 then (if wr ((((((q3.2.up ((a0 + 23)) (zix ((q2.2.m a0 35))) q3.1)).up a0 35 (((((q3.2.up ((a0 + 23)) (zix ((q2.2.m a0 35))) q3.1)).m a0 35) + 1)))).m a0 4)) ≠ wr ((((((q3.2.up ((a0 + 23)) (zix ((q2.2.m a0 35))) q3.1)).up a0 35 (((((q3.2.up ((a0 + 23)) (zix ((q2.2.m a0 35))) q3.1)).m a0 35) + 1)))).m a0 5)) then ((MM P 161 [(2, ((a0 : Nat) : Int)), (0, 32)] ((((q3.2.up ((a0 + 23)) (zix ((q2.2.m a0 35))) q3.1)).up a0 35 (((((q3.2.up ((a0 + 23)) (zix ((q2.2.m a0 35))) q3.1)).m a0 35) + 1))))).bind fun q5 => (if wr q5.1 ≠ 0 then zB P 242 9 [(2, ((a0 : Nat) : Int)), g1] [] q5.2 else some (0, q5.2))) else some (1, (((q3.2.up ((a0 + 23)) (zix ((q2.2.m a0 35))) q3.1)).up a0 35 (((((q3.2.up ((a0 + 23)) (zix ((q2.2.m a0 35))) q3.1)).m a0 35) + 1))))) else none)) else some (0, q2.2)))))) := by
  have hT := cT_242
  refine Eq.trans (x1 (h := 9) hT rfl rfl (by decide)) ?_
  refine Eq.trans (x21 (r := a0) (cl := 12) (h := 10) hT rfl ha0) ?_
  refine Eq.trans (x0 (h := 11) hT rfl) ?_
  refine Eq.trans (x17_3 (h := 12) hT rfl) ?_
  refine xit (fun _ => ?_) (fun _ => ?_)
  · refine Eq.trans (x0 (h := 50) hT rfl) ?_
    exact x203c (h := 51) hT rfl (by decide)
  · refine Eq.trans (x1 (h := 13) hT rfl rfl (by decide)) ?_
    refine Eq.trans (x31 (r := a0) (cl := 12) (as := []) (st' := []) (h := 14) hT rfl sm_158 rfl ha0) ?_
    refine xbd (fun q1 => ?_)
    rw [rv_158]
    change zB P 242 15 [(2, ((a0 : Nat) : Int)), g1] [(0, q1.1)] q1.2 = _
    refine Eq.trans (x16_0 (h := 15) hT rfl) ?_
    refine xit (fun _ => ?_) (fun _ => ?_)
    · refine Eq.trans (x0 (h := 21) hT rfl) ?_
      exact x203c (h := 22) hT rfl (by decide)
    · refine Eq.trans (x1 (h := 16) hT rfl rfl (by decide)) ?_
      refine Eq.trans (x0 (h := 17) hT rfl) ?_
      refine Eq.trans (x31 (r := a0) (cl := 12) (as := [(0, 0)]) (st' := []) (h := 18) hT rfl sm_203 rfl ha0) ?_
      refine xbd (fun q2 => ?_)
      rw [rv_203]
      change zB P 242 19 [(2, ((a0 : Nat) : Int)), g1] [(0, q2.1)] q2.2 = _
      refine Eq.trans (x0 (h := 19) hT rfl) ?_
      refine Eq.trans (x17_1 (h := 20) hT rfl) ?_
      refine xit (fun _ => ?_) (fun _ => ?_)
      · refine Eq.trans (x1 (h := 23) hT rfl rfl (by decide)) ?_
        refine Eq.trans (x21r (r := a0) (cl := 12) (o := 23) (h := 24) hT rfl ha0 (by decide) rfl) ?_
        refine Eq.trans (x1 (h := 25) hT rfl rfl (by decide)) ?_
        refine Eq.trans (x21 (r := a0) (cl := 12) (h := 26) hT rfl ha0) ?_
        refine Eq.trans (x1 (h := 27) hT rfl rfl (by decide)) ?_
        refine Eq.trans (x0 (h := 28) hT rfl) ?_
        refine Eq.trans (x31 (r := a0) (cl := 12) (as := [(0, 0)]) (st' := [(0, (q2.2.m a0 35)), (2, (((a0 + 23) : Nat) : Int))]) (h := 29) hT rfl sm_203 rfl ha0) ?_
        refine xbd (fun q3 => ?_)
        rw [rv_203]
        change zB P 242 30 [(2, ((a0 : Nat) : Int)), g1] [(0, q3.1), (0, (q2.2.m a0 35)), (2, (((a0 + 23) : Nat) : Int))] q3.2 = _
        refine Eq.trans (x25a (r := (a0 + 23)) (n := 8) (h := 30) hT rfl (kd_12_31 ha0) (ln_12_31 ha0) (by decide) rfl) ?_
        refine xig (fun hz4 => ?_)
        refine Eq.trans (x1 (h := 31) hT rfl rfl (by decide)) ?_
        refine Eq.trans (x1 (h := 32) hT rfl rfl (by decide)) ?_
        refine Eq.trans (x21 (r := a0) (cl := 12) (h := 33) hT rfl ha0) ?_
        refine Eq.trans (x0 (h := 34) hT rfl) ?_
        refine Eq.trans (x5_0 (h := 35) hT rfl) ?_
        refine Eq.trans (x22 (r := a0) (cl := 12) (h := 36) hT rfl ha0 (by decide) rfl (by decide)) ?_
        refine Eq.trans (x1 (h := 37) hT rfl rfl (by decide)) ?_
        refine Eq.trans (x21 (r := a0) (cl := 12) (h := 38) hT rfl ha0) ?_
        refine Eq.trans (x1 (h := 39) hT rfl rfl (by decide)) ?_
        refine Eq.trans (x21 (r := a0) (cl := 12) (h := 40) hT rfl ha0) ?_
        refine Eq.trans (x17_1 (h := 41) hT rfl) ?_
        refine xit (fun _ => ?_) (fun _ => ?_)
        · refine Eq.trans (x1 (h := 44) hT rfl rfl (by decide)) ?_
          refine Eq.trans (x0 (h := 45) hT rfl) ?_
          refine Eq.trans (x31 (r := a0) (cl := 12) (as := [(0, 32)]) (st' := []) (h := 46) hT rfl sm_161 rfl ha0) ?_
          refine xbd (fun q5 => ?_)
          rw [rv_161]
          change zB P 242 47 [(2, ((a0 : Nat) : Int)), g1] [(0, q5.1)] q5.2 = _
          refine Eq.trans (x16_1 (h := 47) hT rfl) ?_
          refine xit (fun _ => ?_) (fun _ => ?_)
          · exact rfl
          · refine Eq.trans (x0 (h := 48) hT rfl) ?_
            exact x203c (h := 49) hT rfl (by decide)
        · refine Eq.trans (x0 (h := 42) hT rfl) ?_
          exact x203c (h := 43) hT rfl (by decide)
      · refine Eq.trans (x0 (h := 21) hT rfl) ?_
        exact x203c (h := 22) hT rfl (by decide)
/-! WordLinksModel.share(III)I -/
set_option maxRecDepth 100000 in
theorem e_243 {P : zP} {d : zD P} {a0 : Nat} {a1 : Int} {a2 : Int} {a3 : Int} (ha0 : zkd a0 = 12) : MM P 243 [(2, ((a0 : Nat) : Int)), (0, a1), (0, a2), (0, a3)] d = ((MM P 194 [(2, ((a0 : Nat) : Int)), (0, a1), (0, a2), (0, a3)] d).bind fun q1 => (if wr q1.1 ≠ 0 then ((MM P 146 [(2, ((a0 : Nat) : Int)), (0, a1), (0, a2), (0, a3)] q1.2).bind fun q2 => (if wr q2.1 = 0 then some ((-2), q2.2) else ((MM P 71 [(2, ((a0 : Nat) : Int)), (0, a1), (0, a2), (0, a3)] q2.2).bind fun q3 => some (q3.1, q3.2)))) else some ((-1), q1.2))) := by
  have hT := cT_243
  refine Eq.trans (MM_def sm_243 (Nat.le_of_ble_eq_true rfl)) ?_
  change zB P 243 0 [(2, ((a0 : Nat) : Int)), (0, a1), (0, a2), (0, a3)] [] d = _
  refine Eq.trans (x1 (h := 0) hT rfl rfl (by decide)) ?_
  refine Eq.trans (x1 (h := 1) hT rfl rfl (by decide)) ?_
  refine Eq.trans (x1 (h := 2) hT rfl rfl (by decide)) ?_
  refine Eq.trans (x1 (h := 3) hT rfl rfl (by decide)) ?_
  refine Eq.trans (x31 (r := a0) (cl := 12) (as := [(0, a1), (0, a2), (0, a3)]) (st' := []) (h := 4) hT rfl sm_194 rfl ha0) ?_
  refine xbd (fun q1 => ?_)
  rw [rv_194]
  change zB P 243 5 [(2, ((a0 : Nat) : Int)), (0, a1), (0, a2), (0, a3)] [(0, q1.1)] q1.2 = _
  refine Eq.trans (x16_1 (h := 5) hT rfl) ?_
  refine xit (fun _ => ?_) (fun _ => ?_)
  · refine Eq.trans (x1 (h := 8) hT rfl rfl (by decide)) ?_
    refine Eq.trans (x1 (h := 9) hT rfl rfl (by decide)) ?_
    refine Eq.trans (x1 (h := 10) hT rfl rfl (by decide)) ?_
    refine Eq.trans (x1 (h := 11) hT rfl rfl (by decide)) ?_
    refine Eq.trans (x31 (r := a0) (cl := 12) (as := [(0, a1), (0, a2), (0, a3)]) (st' := []) (h := 12) hT rfl sm_146 rfl ha0) ?_
    refine xbd (fun q2 => ?_)
    rw [rv_146]
    change zB P 243 13 [(2, ((a0 : Nat) : Int)), (0, a1), (0, a2), (0, a3)] [(0, q2.1)] q2.2 = _
    refine Eq.trans (x16_0 (h := 13) hT rfl) ?_
    refine xit (fun _ => ?_) (fun _ => ?_)
    · refine Eq.trans (x0 (h := 20) hT rfl) ?_
      exact x201 (h := 21) hT rfl
    · refine Eq.trans (x1 (h := 14) hT rfl rfl (by decide)) ?_
      refine Eq.trans (x1 (h := 15) hT rfl rfl (by decide)) ?_
      refine Eq.trans (x1 (h := 16) hT rfl rfl (by decide)) ?_
      refine Eq.trans (x1 (h := 17) hT rfl rfl (by decide)) ?_
      refine Eq.trans (x31 (r := a0) (cl := 12) (as := [(0, a1), (0, a2), (0, a3)]) (st' := []) (h := 18) hT rfl sm_71 rfl ha0) ?_
      refine xbd (fun q3 => ?_)
      rw [rv_71]
      change zB P 243 19 [(2, ((a0 : Nat) : Int)), (0, a1), (0, a2), (0, a3)] [(0, q3.1)] q3.2 = _
      refine Eq.trans (x18 (h := 19) hT rfl) ?_
      exact x201 (h := 21) hT rfl
  · refine Eq.trans (x0 (h := 6) hT rfl) ?_
    exact x201 (h := 7) hT rfl
/-! WordLinksModel.twinOf(I)I -/
set_option maxRecDepth 100000 in
theorem e_244 {P : zP} {d : zD P} {a0 : Nat} {a1 : Int} (ha0 : zkd a0 = 12) : MM P 244 [(2, ((a0 : Nat) : Int)), (0, a1)] d = ((MM P 205 [(2, ((a0 : Nat) : Int)), (0, 0), (0, a1), (0, 0)] d).bind fun q1 => (if wr q1.1 = wr ((-1)) then some ((-2), q1.2) else ((MM P 205 [(2, ((a0 : Nat) : Int)), (0, 1), (0, q1.1), (0, 0)] q1.2).bind fun q2 => (if wr q2.1 ≠ wr a1 then some ((-2), q2.2) else some (q1.1, q2.2))))) := by
  have hT := cT_244
  refine Eq.trans (MM_def sm_244 (Nat.le_of_ble_eq_true rfl)) ?_
  change zB P 244 0 [(2, ((a0 : Nat) : Int)), (0, a1), (3, 0)] [] d = _
  refine Eq.trans (x1 (h := 0) hT rfl rfl (by decide)) ?_
  refine Eq.trans (x0 (h := 1) hT rfl) ?_
  refine Eq.trans (x1 (h := 2) hT rfl rfl (by decide)) ?_
  refine Eq.trans (x0 (h := 3) hT rfl) ?_
  refine Eq.trans (x31 (r := a0) (cl := 12) (as := [(0, 0), (0, a1), (0, 0)]) (st' := []) (h := 4) hT rfl sm_205 rfl ha0) ?_
  refine xbd (fun q1 => ?_)
  rw [rv_205]
  change zB P 244 5 [(2, ((a0 : Nat) : Int)), (0, a1), (3, 0)] [(0, q1.1)] q1.2 = _
  refine Eq.trans (x2 (ls' := [(2, ((a0 : Nat) : Int)), (0, a1), (0, q1.1)]) (h := 5) hT rfl (Nat.le_of_ble_eq_true rfl) rfl) ?_
  refine Eq.trans (x1 (h := 6) hT rfl rfl (by decide)) ?_
  refine Eq.trans (x0 (h := 7) hT rfl) ?_
  refine Eq.trans (x17_0 (h := 8) hT rfl) ?_
  refine xit (fun _ => ?_) (fun _ => ?_)
  · refine Eq.trans (x0 (h := 18) hT rfl) ?_
    exact x201 (h := 19) hT rfl
  · refine Eq.trans (x1 (h := 9) hT rfl rfl (by decide)) ?_
    refine Eq.trans (x0 (h := 10) hT rfl) ?_
    refine Eq.trans (x1 (h := 11) hT rfl rfl (by decide)) ?_
    refine Eq.trans (x0 (h := 12) hT rfl) ?_
    refine Eq.trans (x31 (r := a0) (cl := 12) (as := [(0, 1), (0, q1.1), (0, 0)]) (st' := []) (h := 13) hT rfl sm_205 rfl ha0) ?_
    refine xbd (fun q2 => ?_)
    rw [rv_205]
    change zB P 244 14 [(2, ((a0 : Nat) : Int)), (0, a1), (0, q1.1)] [(0, q2.1)] q2.2 = _
    refine Eq.trans (x1 (h := 14) hT rfl rfl (by decide)) ?_
    refine Eq.trans (x17_1 (h := 15) hT rfl) ?_
    refine xit (fun _ => ?_) (fun _ => ?_)
    · refine Eq.trans (x0 (h := 18) hT rfl) ?_
      exact x201 (h := 19) hT rfl
    · refine Eq.trans (x1 (h := 16) hT rfl rfl (by decide)) ?_
      refine Eq.trans (x18 (h := 17) hT rfl) ?_
      exact x201 (h := 19) hT rfl
/-! WordLinksModel.word(III)I -/
set_option maxRecDepth 100000 in
theorem e_245 {P : zP} {d : zD P} {a0 : Nat} {a1 : Int} {a2 : Int} {a3 : Int} (ha0 : zkd a0 = 12) : MM P 245 [(2, ((a0 : Nat) : Int)), (0, a1), (0, a2), (0, a3)] d = ((MM P 147 [(0, a1)] d).bind fun q1 => (if wr q1.1 = 0 then some ((-1), q1.2) else ((MM P 149 [(2, ((a0 : Nat) : Int)), (0, a1), (0, a2)] q1.2).bind fun q2 => (if wr q2.1 = 0 then some ((-1), q2.2) else ((MM P 55 [(0, a3), (0, 0), (0, 6)] q2.2).bind fun q3 => (if wr q3.1 ≠ 0 then (if wr a3 < wr 10 then (if wr a3 = 0 then ((MM P 58 [(2, ((a0 : Nat) : Int)), (0, a1), (0, a2)] q3.2).bind fun q4 => some (q4.1, q4.2)) else (if wr a3 = 1 then ((MM P 160 [(2, ((a0 : Nat) : Int)), (0, a1), (0, a2)] q3.2).bind fun q5 => some (q5.1, q5.2)) else (if wr a3 = 2 then ((MM P 206 [(2, ((a0 : Nat) : Int)), (0, a1), (0, a2), (0, 0)] q3.2).bind fun q6 => some (q6.1, q6.2)) else (if wr a3 = 3 then ((MM P 205 [(2, ((a0 : Nat) : Int)), (0, a1), (0, a2), (0, 0)] q3.2).bind fun q7 => some (q7.1, q7.2)) else (if wr a3 = 4 then ((MM P 205 [(2, ((a0 : Nat) : Int)), (0, a1), (0, a2), (0, 0)] q3.2).bind fun q8 => ((MM P 71 [(2, ((a0 : Nat) : Int)), (0, a1), (0, a2), (0, q8.1)] q8.2).bind fun q9 => some (q9.1, q9.2))) else (if wr a3 = 5 then ((MM P 206 [(2, ((a0 : Nat) : Int)), (0, a1), (0, a2), (0, 1)] q3.2).bind fun q10 => some (q10.1, q10.2)) else ((MM P 209 [(2, ((a0 : Nat) : Int)), (0, a1), (0, a2)] q3.2).bind fun q11 => some (q11.1, q11.2)))))))) else ((MM P 58 [(2, ((a0 : Nat) : Int)), (0, a1), (0, a2)] q3.2).bind fun q12 => (if wr q12.1 ≤ wr ((a3 - 10)) then some ((-4), q12.2) else ((MM P 57 [(2, ((a0 : Nat) : Int)), (0, a1), (0, a2), (0, (a3 - 10))] q12.2).bind fun q13 => some (q13.1, q13.2))))) else ((MM P 55 [(0, a3), (0, 10), (0, 16)] q3.2).bind fun q14 => (if wr q14.1 ≠ 0 then (if wr a3 < wr 10 then (if wr a3 = 0 then ((MM P 58 [(2, ((a0 : Nat) : Int)), (0, a1), (0, a2)] q14.2).bind fun q15 => some (q15.1, q15.2)) else (if wr a3 = 1 then ((MM P 160 [(2, ((a0 : Nat) : Int)), (0, a1), (0, a2)] q14.2).bind fun q16 => some (q16.1, q16.2)) else (if wr a3 = 2 then ((MM P 206 [(2, ((a0 : Nat) : Int)), (0, a1), (0, a2), (0, 0)] q14.2).bind fun q17 => some (q17.1, q17.2)) else (if wr a3 = 3 then ((MM P 205 [(2, ((a0 : Nat) : Int)), (0, a1), (0, a2), (0, 0)] q14.2).bind fun q18 => some (q18.1, q18.2)) else (if wr a3 = 4 then ((MM P 205 [(2, ((a0 : Nat) : Int)), (0, a1), (0, a2), (0, 0)] q14.2).bind fun q19 => ((MM P 71 [(2, ((a0 : Nat) : Int)), (0, a1), (0, a2), (0, q19.1)] q19.2).bind fun q20 => some (q20.1, q20.2))) else (if wr a3 = 5 then ((MM P 206 [(2, ((a0 : Nat) : Int)), (0, a1), (0, a2), (0, 1)] q14.2).bind fun q21 => some (q21.1, q21.2)) else ((MM P 209 [(2, ((a0 : Nat) : Int)), (0, a1), (0, a2)] q14.2).bind fun q22 => some (q22.1, q22.2)))))))) else ((MM P 58 [(2, ((a0 : Nat) : Int)), (0, a1), (0, a2)] q14.2).bind fun q23 => (if wr q23.1 ≤ wr ((a3 - 10)) then some ((-4), q23.2) else ((MM P 57 [(2, ((a0 : Nat) : Int)), (0, a1), (0, a2), (0, (a3 - 10))] q23.2).bind fun q24 => some (q24.1, q24.2))))) else some ((-1), q14.2))))))))) := by
  have hT := cT_245
  refine Eq.trans (MM_def sm_245 (Nat.le_of_ble_eq_true rfl)) ?_
  change zB P 245 0 [(2, ((a0 : Nat) : Int)), (0, a1), (0, a2), (0, a3)] [] d = _
  refine Eq.trans (x1 (h := 0) hT rfl rfl (by decide)) ?_
  refine Eq.trans (x34 (as := [(0, a1)]) (st' := []) (h := 1) hT rfl sm_147 rfl) ?_
  refine xbd (fun q1 => ?_)
  rw [rv_147]
  change zB P 245 2 [(2, ((a0 : Nat) : Int)), (0, a1), (0, a2), (0, a3)] [(0, q1.1)] q1.2 = _
  refine Eq.trans (x16_0 (h := 2) hT rfl) ?_
  refine xit (fun _ => ?_) (fun _ => ?_)
  · refine Eq.trans (x0 (h := 18) hT rfl) ?_
    exact x201 (h := 19) hT rfl
  · refine Eq.trans (x1 (h := 3) hT rfl rfl (by decide)) ?_
    refine Eq.trans (x1 (h := 4) hT rfl rfl (by decide)) ?_
    refine Eq.trans (x1 (h := 5) hT rfl rfl (by decide)) ?_
    refine Eq.trans (x31 (r := a0) (cl := 12) (as := [(0, a1), (0, a2)]) (st' := []) (h := 6) hT rfl sm_149 rfl ha0) ?_
    refine xbd (fun q2 => ?_)
    rw [rv_149]
    change zB P 245 7 [(2, ((a0 : Nat) : Int)), (0, a1), (0, a2), (0, a3)] [(0, q2.1)] q2.2 = _
    refine Eq.trans (x16_0 (h := 7) hT rfl) ?_
    refine xit (fun _ => ?_) (fun _ => ?_)
    · refine Eq.trans (x0 (h := 18) hT rfl) ?_
      exact x201 (h := 19) hT rfl
    · refine Eq.trans (x1 (h := 8) hT rfl rfl (by decide)) ?_
      refine Eq.trans (x0 (h := 9) hT rfl) ?_
      refine Eq.trans (x0 (h := 10) hT rfl) ?_
      refine Eq.trans (x34 (as := [(0, a3), (0, 0), (0, 6)]) (st' := []) (h := 11) hT rfl sm_55 rfl) ?_
      refine xbd (fun q3 => ?_)
      rw [rv_55]
      change zB P 245 12 [(2, ((a0 : Nat) : Int)), (0, a1), (0, a2), (0, a3)] [(0, q3.1)] q3.2 = _
      refine Eq.trans (x16_1 (h := 12) hT rfl) ?_
      refine xit (fun _ => ?_) (fun _ => ?_)
      · refine Eq.trans (x1 (h := 20) hT rfl rfl (by decide)) ?_
        refine Eq.trans (x0 (h := 21) hT rfl) ?_
        refine Eq.trans (x17_2 (h := 22) hT rfl) ?_
        refine xit (fun _ => ?_) (fun _ => ?_)
        · refine Eq.trans (x1 (h := 41) hT rfl rfl (by decide)) ?_
          refine Eq.trans (x19 (h := 42) hT rfl) ?_
          refine Eq.trans x19c ?_
          refine xit (fun _ => ?_) (fun _ => ?_)
          · refine Eq.trans (x1 (h := 43) hT rfl rfl (by decide)) ?_
            refine Eq.trans (x1 (h := 44) hT rfl rfl (by decide)) ?_
            refine Eq.trans (x1 (h := 45) hT rfl rfl (by decide)) ?_
            refine Eq.trans (x31 (r := a0) (cl := 12) (as := [(0, a1), (0, a2)]) (st' := []) (h := 46) hT rfl sm_58 rfl ha0) ?_
            refine xbd (fun q4 => ?_)
            rw [rv_58]
            change zB P 245 47 [(2, ((a0 : Nat) : Int)), (0, a1), (0, a2), (0, a3)] [(0, q4.1)] q4.2 = _
            exact x201 (h := 47) hT rfl
          refine Eq.trans x19c ?_
          refine xit (fun _ => ?_) (fun _ => ?_)
          · refine Eq.trans (x1 (h := 48) hT rfl rfl (by decide)) ?_
            refine Eq.trans (x1 (h := 49) hT rfl rfl (by decide)) ?_
            refine Eq.trans (x1 (h := 50) hT rfl rfl (by decide)) ?_
            refine Eq.trans (x31 (r := a0) (cl := 12) (as := [(0, a1), (0, a2)]) (st' := []) (h := 51) hT rfl sm_160 rfl ha0) ?_
            refine xbd (fun q5 => ?_)
            rw [rv_160]
            change zB P 245 52 [(2, ((a0 : Nat) : Int)), (0, a1), (0, a2), (0, a3)] [(0, q5.1)] q5.2 = _
            exact x201 (h := 52) hT rfl
          refine Eq.trans x19c ?_
          refine xit (fun _ => ?_) (fun _ => ?_)
          · refine Eq.trans (x1 (h := 53) hT rfl rfl (by decide)) ?_
            refine Eq.trans (x1 (h := 54) hT rfl rfl (by decide)) ?_
            refine Eq.trans (x1 (h := 55) hT rfl rfl (by decide)) ?_
            refine Eq.trans (x0 (h := 56) hT rfl) ?_
            refine Eq.trans (x31 (r := a0) (cl := 12) (as := [(0, a1), (0, a2), (0, 0)]) (st' := []) (h := 57) hT rfl sm_206 rfl ha0) ?_
            refine xbd (fun q6 => ?_)
            rw [rv_206]
            change zB P 245 58 [(2, ((a0 : Nat) : Int)), (0, a1), (0, a2), (0, a3)] [(0, q6.1)] q6.2 = _
            exact x201 (h := 58) hT rfl
          refine Eq.trans x19c ?_
          refine xit (fun _ => ?_) (fun _ => ?_)
          · refine Eq.trans (x1 (h := 59) hT rfl rfl (by decide)) ?_
            refine Eq.trans (x1 (h := 60) hT rfl rfl (by decide)) ?_
            refine Eq.trans (x1 (h := 61) hT rfl rfl (by decide)) ?_
            refine Eq.trans (x0 (h := 62) hT rfl) ?_
            refine Eq.trans (x31 (r := a0) (cl := 12) (as := [(0, a1), (0, a2), (0, 0)]) (st' := []) (h := 63) hT rfl sm_205 rfl ha0) ?_
            refine xbd (fun q7 => ?_)
            rw [rv_205]
            change zB P 245 64 [(2, ((a0 : Nat) : Int)), (0, a1), (0, a2), (0, a3)] [(0, q7.1)] q7.2 = _
            exact x201 (h := 64) hT rfl
          refine Eq.trans x19c ?_
          refine xit (fun _ => ?_) (fun _ => ?_)
          · refine Eq.trans (x1 (h := 65) hT rfl rfl (by decide)) ?_
            refine Eq.trans (x1 (h := 66) hT rfl rfl (by decide)) ?_
            refine Eq.trans (x1 (h := 67) hT rfl rfl (by decide)) ?_
            refine Eq.trans (x1 (h := 68) hT rfl rfl (by decide)) ?_
            refine Eq.trans (x1 (h := 69) hT rfl rfl (by decide)) ?_
            refine Eq.trans (x1 (h := 70) hT rfl rfl (by decide)) ?_
            refine Eq.trans (x0 (h := 71) hT rfl) ?_
            refine Eq.trans (x31 (r := a0) (cl := 12) (as := [(0, a1), (0, a2), (0, 0)]) (st' := [(0, a2), (0, a1), (2, ((a0 : Nat) : Int))]) (h := 72) hT rfl sm_205 rfl ha0) ?_
            refine xbd (fun q8 => ?_)
            rw [rv_205]
            change zB P 245 73 [(2, ((a0 : Nat) : Int)), (0, a1), (0, a2), (0, a3)] [(0, q8.1), (0, a2), (0, a1), (2, ((a0 : Nat) : Int))] q8.2 = _
            refine Eq.trans (x31 (r := a0) (cl := 12) (as := [(0, a1), (0, a2), (0, q8.1)]) (st' := []) (h := 73) hT rfl sm_71 rfl ha0) ?_
            refine xbd (fun q9 => ?_)
            rw [rv_71]
            change zB P 245 74 [(2, ((a0 : Nat) : Int)), (0, a1), (0, a2), (0, a3)] [(0, q9.1)] q9.2 = _
            exact x201 (h := 74) hT rfl
          refine Eq.trans x19c ?_
          refine xit (fun _ => ?_) (fun _ => ?_)
          · refine Eq.trans (x1 (h := 75) hT rfl rfl (by decide)) ?_
            refine Eq.trans (x1 (h := 76) hT rfl rfl (by decide)) ?_
            refine Eq.trans (x1 (h := 77) hT rfl rfl (by decide)) ?_
            refine Eq.trans (x0 (h := 78) hT rfl) ?_
            refine Eq.trans (x31 (r := a0) (cl := 12) (as := [(0, a1), (0, a2), (0, 1)]) (st' := []) (h := 79) hT rfl sm_206 rfl ha0) ?_
            refine xbd (fun q10 => ?_)
            rw [rv_206]
            change zB P 245 80 [(2, ((a0 : Nat) : Int)), (0, a1), (0, a2), (0, a3)] [(0, q10.1)] q10.2 = _
            exact x201 (h := 80) hT rfl
          refine Eq.trans (x1 (h := 81) hT rfl rfl (by decide)) ?_
          refine Eq.trans (x1 (h := 82) hT rfl rfl (by decide)) ?_
          refine Eq.trans (x1 (h := 83) hT rfl rfl (by decide)) ?_
          refine Eq.trans (x31 (r := a0) (cl := 12) (as := [(0, a1), (0, a2)]) (st' := []) (h := 84) hT rfl sm_209 rfl ha0) ?_
          refine xbd (fun q11 => ?_)
          rw [rv_209]
          change zB P 245 85 [(2, ((a0 : Nat) : Int)), (0, a1), (0, a2), (0, a3)] [(0, q11.1)] q11.2 = _
          exact x201 (h := 85) hT rfl
        · refine Eq.trans (x1 (h := 23) hT rfl rfl (by decide)) ?_
          refine Eq.trans (x0 (h := 24) hT rfl) ?_
          refine Eq.trans (x5_1 (h := 25) hT rfl) ?_
          refine Eq.trans (x1 (h := 26) hT rfl rfl (by decide)) ?_
          refine Eq.trans (x1 (h := 27) hT rfl rfl (by decide)) ?_
          refine Eq.trans (x1 (h := 28) hT rfl rfl (by decide)) ?_
          refine Eq.trans (x31 (r := a0) (cl := 12) (as := [(0, a1), (0, a2)]) (st' := [(0, (a3 - 10))]) (h := 29) hT rfl sm_58 rfl ha0) ?_
          refine xbd (fun q12 => ?_)
          rw [rv_58]
          change zB P 245 30 [(2, ((a0 : Nat) : Int)), (0, a1), (0, a2), (0, a3)] [(0, q12.1), (0, (a3 - 10))] q12.2 = _
          refine Eq.trans (x17_3 (h := 30) hT rfl) ?_
          refine xit (fun _ => ?_) (fun _ => ?_)
          · refine Eq.trans (x0 (h := 39) hT rfl) ?_
            exact x201 (h := 40) hT rfl
          · refine Eq.trans (x1 (h := 31) hT rfl rfl (by decide)) ?_
            refine Eq.trans (x1 (h := 32) hT rfl rfl (by decide)) ?_
            refine Eq.trans (x1 (h := 33) hT rfl rfl (by decide)) ?_
            refine Eq.trans (x1 (h := 34) hT rfl rfl (by decide)) ?_
            refine Eq.trans (x0 (h := 35) hT rfl) ?_
            refine Eq.trans (x5_1 (h := 36) hT rfl) ?_
            refine Eq.trans (x31 (r := a0) (cl := 12) (as := [(0, a1), (0, a2), (0, (a3 - 10))]) (st' := []) (h := 37) hT rfl sm_57 rfl ha0) ?_
            refine xbd (fun q13 => ?_)
            rw [rv_57]
            change zB P 245 38 [(2, ((a0 : Nat) : Int)), (0, a1), (0, a2), (0, a3)] [(0, q13.1)] q13.2 = _
            refine Eq.trans (x18 (h := 38) hT rfl) ?_
            exact x201 (h := 40) hT rfl
      · refine Eq.trans (x1 (h := 13) hT rfl rfl (by decide)) ?_
        refine Eq.trans (x0 (h := 14) hT rfl) ?_
        refine Eq.trans (x0 (h := 15) hT rfl) ?_
        refine Eq.trans (x34 (as := [(0, a3), (0, 10), (0, 16)]) (st' := []) (h := 16) hT rfl sm_55 rfl) ?_
        refine xbd (fun q14 => ?_)
        rw [rv_55]
        change zB P 245 17 [(2, ((a0 : Nat) : Int)), (0, a1), (0, a2), (0, a3)] [(0, q14.1)] q14.2 = _
        refine Eq.trans (x16_1 (h := 17) hT rfl) ?_
        refine xit (fun _ => ?_) (fun _ => ?_)
        · refine Eq.trans (x1 (h := 20) hT rfl rfl (by decide)) ?_
          refine Eq.trans (x0 (h := 21) hT rfl) ?_
          refine Eq.trans (x17_2 (h := 22) hT rfl) ?_
          refine xit (fun _ => ?_) (fun _ => ?_)
          · refine Eq.trans (x1 (h := 41) hT rfl rfl (by decide)) ?_
            refine Eq.trans (x19 (h := 42) hT rfl) ?_
            refine Eq.trans x19c ?_
            refine xit (fun _ => ?_) (fun _ => ?_)
            · refine Eq.trans (x1 (h := 43) hT rfl rfl (by decide)) ?_
              refine Eq.trans (x1 (h := 44) hT rfl rfl (by decide)) ?_
              refine Eq.trans (x1 (h := 45) hT rfl rfl (by decide)) ?_
              refine Eq.trans (x31 (r := a0) (cl := 12) (as := [(0, a1), (0, a2)]) (st' := []) (h := 46) hT rfl sm_58 rfl ha0) ?_
              refine xbd (fun q15 => ?_)
              rw [rv_58]
              change zB P 245 47 [(2, ((a0 : Nat) : Int)), (0, a1), (0, a2), (0, a3)] [(0, q15.1)] q15.2 = _
              exact x201 (h := 47) hT rfl
            refine Eq.trans x19c ?_
            refine xit (fun _ => ?_) (fun _ => ?_)
            · refine Eq.trans (x1 (h := 48) hT rfl rfl (by decide)) ?_
              refine Eq.trans (x1 (h := 49) hT rfl rfl (by decide)) ?_
              refine Eq.trans (x1 (h := 50) hT rfl rfl (by decide)) ?_
              refine Eq.trans (x31 (r := a0) (cl := 12) (as := [(0, a1), (0, a2)]) (st' := []) (h := 51) hT rfl sm_160 rfl ha0) ?_
              refine xbd (fun q16 => ?_)
              rw [rv_160]
              change zB P 245 52 [(2, ((a0 : Nat) : Int)), (0, a1), (0, a2), (0, a3)] [(0, q16.1)] q16.2 = _
              exact x201 (h := 52) hT rfl
            refine Eq.trans x19c ?_
            refine xit (fun _ => ?_) (fun _ => ?_)
            · refine Eq.trans (x1 (h := 53) hT rfl rfl (by decide)) ?_
              refine Eq.trans (x1 (h := 54) hT rfl rfl (by decide)) ?_
              refine Eq.trans (x1 (h := 55) hT rfl rfl (by decide)) ?_
              refine Eq.trans (x0 (h := 56) hT rfl) ?_
              refine Eq.trans (x31 (r := a0) (cl := 12) (as := [(0, a1), (0, a2), (0, 0)]) (st' := []) (h := 57) hT rfl sm_206 rfl ha0) ?_
              refine xbd (fun q17 => ?_)
              rw [rv_206]
              change zB P 245 58 [(2, ((a0 : Nat) : Int)), (0, a1), (0, a2), (0, a3)] [(0, q17.1)] q17.2 = _
              exact x201 (h := 58) hT rfl
            refine Eq.trans x19c ?_
            refine xit (fun _ => ?_) (fun _ => ?_)
            · refine Eq.trans (x1 (h := 59) hT rfl rfl (by decide)) ?_
              refine Eq.trans (x1 (h := 60) hT rfl rfl (by decide)) ?_
              refine Eq.trans (x1 (h := 61) hT rfl rfl (by decide)) ?_
              refine Eq.trans (x0 (h := 62) hT rfl) ?_
              refine Eq.trans (x31 (r := a0) (cl := 12) (as := [(0, a1), (0, a2), (0, 0)]) (st' := []) (h := 63) hT rfl sm_205 rfl ha0) ?_
              refine xbd (fun q18 => ?_)
              rw [rv_205]
              change zB P 245 64 [(2, ((a0 : Nat) : Int)), (0, a1), (0, a2), (0, a3)] [(0, q18.1)] q18.2 = _
              exact x201 (h := 64) hT rfl
            refine Eq.trans x19c ?_
            refine xit (fun _ => ?_) (fun _ => ?_)
            · refine Eq.trans (x1 (h := 65) hT rfl rfl (by decide)) ?_
              refine Eq.trans (x1 (h := 66) hT rfl rfl (by decide)) ?_
              refine Eq.trans (x1 (h := 67) hT rfl rfl (by decide)) ?_
              refine Eq.trans (x1 (h := 68) hT rfl rfl (by decide)) ?_
              refine Eq.trans (x1 (h := 69) hT rfl rfl (by decide)) ?_
              refine Eq.trans (x1 (h := 70) hT rfl rfl (by decide)) ?_
              refine Eq.trans (x0 (h := 71) hT rfl) ?_
              refine Eq.trans (x31 (r := a0) (cl := 12) (as := [(0, a1), (0, a2), (0, 0)]) (st' := [(0, a2), (0, a1), (2, ((a0 : Nat) : Int))]) (h := 72) hT rfl sm_205 rfl ha0) ?_
              refine xbd (fun q19 => ?_)
              rw [rv_205]
              change zB P 245 73 [(2, ((a0 : Nat) : Int)), (0, a1), (0, a2), (0, a3)] [(0, q19.1), (0, a2), (0, a1), (2, ((a0 : Nat) : Int))] q19.2 = _
              refine Eq.trans (x31 (r := a0) (cl := 12) (as := [(0, a1), (0, a2), (0, q19.1)]) (st' := []) (h := 73) hT rfl sm_71 rfl ha0) ?_
              refine xbd (fun q20 => ?_)
              rw [rv_71]
              change zB P 245 74 [(2, ((a0 : Nat) : Int)), (0, a1), (0, a2), (0, a3)] [(0, q20.1)] q20.2 = _
              exact x201 (h := 74) hT rfl
            refine Eq.trans x19c ?_
            refine xit (fun _ => ?_) (fun _ => ?_)
            · refine Eq.trans (x1 (h := 75) hT rfl rfl (by decide)) ?_
              refine Eq.trans (x1 (h := 76) hT rfl rfl (by decide)) ?_
              refine Eq.trans (x1 (h := 77) hT rfl rfl (by decide)) ?_
              refine Eq.trans (x0 (h := 78) hT rfl) ?_
              refine Eq.trans (x31 (r := a0) (cl := 12) (as := [(0, a1), (0, a2), (0, 1)]) (st' := []) (h := 79) hT rfl sm_206 rfl ha0) ?_
              refine xbd (fun q21 => ?_)
              rw [rv_206]
              change zB P 245 80 [(2, ((a0 : Nat) : Int)), (0, a1), (0, a2), (0, a3)] [(0, q21.1)] q21.2 = _
              exact x201 (h := 80) hT rfl
            refine Eq.trans (x1 (h := 81) hT rfl rfl (by decide)) ?_
            refine Eq.trans (x1 (h := 82) hT rfl rfl (by decide)) ?_
            refine Eq.trans (x1 (h := 83) hT rfl rfl (by decide)) ?_
            refine Eq.trans (x31 (r := a0) (cl := 12) (as := [(0, a1), (0, a2)]) (st' := []) (h := 84) hT rfl sm_209 rfl ha0) ?_
            refine xbd (fun q22 => ?_)
            rw [rv_209]
            change zB P 245 85 [(2, ((a0 : Nat) : Int)), (0, a1), (0, a2), (0, a3)] [(0, q22.1)] q22.2 = _
            exact x201 (h := 85) hT rfl
          · refine Eq.trans (x1 (h := 23) hT rfl rfl (by decide)) ?_
            refine Eq.trans (x0 (h := 24) hT rfl) ?_
            refine Eq.trans (x5_1 (h := 25) hT rfl) ?_
            refine Eq.trans (x1 (h := 26) hT rfl rfl (by decide)) ?_
            refine Eq.trans (x1 (h := 27) hT rfl rfl (by decide)) ?_
            refine Eq.trans (x1 (h := 28) hT rfl rfl (by decide)) ?_
            refine Eq.trans (x31 (r := a0) (cl := 12) (as := [(0, a1), (0, a2)]) (st' := [(0, (a3 - 10))]) (h := 29) hT rfl sm_58 rfl ha0) ?_
            refine xbd (fun q23 => ?_)
            rw [rv_58]
            change zB P 245 30 [(2, ((a0 : Nat) : Int)), (0, a1), (0, a2), (0, a3)] [(0, q23.1), (0, (a3 - 10))] q23.2 = _
            refine Eq.trans (x17_3 (h := 30) hT rfl) ?_
            refine xit (fun _ => ?_) (fun _ => ?_)
            · refine Eq.trans (x0 (h := 39) hT rfl) ?_
              exact x201 (h := 40) hT rfl
            · refine Eq.trans (x1 (h := 31) hT rfl rfl (by decide)) ?_
              refine Eq.trans (x1 (h := 32) hT rfl rfl (by decide)) ?_
              refine Eq.trans (x1 (h := 33) hT rfl rfl (by decide)) ?_
              refine Eq.trans (x1 (h := 34) hT rfl rfl (by decide)) ?_
              refine Eq.trans (x0 (h := 35) hT rfl) ?_
              refine Eq.trans (x5_1 (h := 36) hT rfl) ?_
              refine Eq.trans (x31 (r := a0) (cl := 12) (as := [(0, a1), (0, a2), (0, (a3 - 10))]) (st' := []) (h := 37) hT rfl sm_57 rfl ha0) ?_
              refine xbd (fun q24 => ?_)
              rw [rv_57]
              change zB P 245 38 [(2, ((a0 : Nat) : Int)), (0, a1), (0, a2), (0, a3)] [(0, q24.1)] q24.2 = _
              refine Eq.trans (x18 (h := 38) hT rfl) ?_
              exact x201 (h := 40) hT rfl
        · refine Eq.trans (x0 (h := 18) hT rfl) ?_
          exact x201 (h := 19) hT rfl
/-! WordLinks$Linker.make(LWordLinks$State;II)V -/
set_option maxRecDepth 100000 in
theorem e_246 {P : zP} {d : zD P} {a0 : Nat} {a1 : Nat} {a2 : Int} {a3 : Int} (ha0 : zkd a0 = 1) (ha1 : zkd a1 = 9) : MM P 246 [(2, ((a0 : Nat) : Int)), (2, ((a1 : Nat) : Int)), (0, a2), (0, a3)] d = (if zin 0 2 then (if zin a3 24 then (if zin 1 2 then (if zin a3 24 then ((MM P 86 [(2, (((a0 + 1) : Nat) : Int)), (0, 0)] ((((d.up a0 4 ((d.m ((((a1 + 1) + 8) + (1 + zix 0))) (zix a3))))).up a0 5 ((((d.up a0 4 ((d.m ((((a1 + 1) + 8) + (1 + zix 0))) (zix a3))))).m ((((a1 + 1) + 8) + (1 + zix 1))) (zix a3)))))).bind fun q5 => zB P 246 24 [(2, ((a0 : Nat) : Int)), (2, ((a1 : Nat) : Int)), (0, a2), (0, a3), (0, 0), (3, 0)] [] q5.2) else none) else none) else none) else none) := by
  have hT := cT_246
  refine Eq.trans (MM_def sm_246 (Nat.le_of_ble_eq_true rfl)) ?_
  change zB P 246 0 [(2, ((a0 : Nat) : Int)), (2, ((a1 : Nat) : Int)), (0, a2), (0, a3), (3, 0), (3, 0)] [] d = _
  refine Eq.trans (x1 (h := 0) hT rfl rfl (by decide)) ?_
  refine Eq.trans (x1 (h := 1) hT rfl rfl (by decide)) ?_
  refine Eq.trans (x21r (r := a1) (cl := 9) (o := 1) (h := 2) hT rfl ha1 (by decide) rfl) ?_
  refine Eq.trans (x21r (r := (a1 + 1)) (cl := 0) (o := 8) (h := 3) hT rfl (kd_9_0 ha1) (by decide) rfl) ?_
  refine Eq.trans (x0 (h := 4) hT rfl) ?_
  refine Eq.trans (x24r (r := ((a1 + 1) + 8)) (n := 2) (h := 5) hT rfl (kd_0_3 (kd_9_0 ha1)) (ln_0_3 (kd_9_0 ha1)) (by decide)) ?_
  refine xig (fun hz1 => ?_)
  refine Eq.trans (x1 (h := 6) hT rfl rfl (by decide)) ?_
  refine Eq.trans (x24 (r := (((a1 + 1) + 8) + (1 + zix 0))) (n := 24) (h := 7) hT rfl (Or.inl (kq_0_3 (kd_9_0 ha1) (zix_lt hz1))) (lq_0_3 (kd_9_0 ha1) (zix_lt hz1))) ?_
  refine xig (fun hz2 => ?_)
  refine Eq.trans (x22 (r := a0) (cl := 1) (h := 8) hT rfl ha0 (by decide) rfl (by decide)) ?_
  refine Eq.trans (x1 (h := 9) hT rfl rfl (by decide)) ?_
  refine Eq.trans (x1 (h := 10) hT rfl rfl (by decide)) ?_
  refine Eq.trans (x21r (r := a1) (cl := 9) (o := 1) (h := 11) hT rfl ha1 (by decide) rfl) ?_
  refine Eq.trans (x21r (r := (a1 + 1)) (cl := 0) (o := 8) (h := 12) hT rfl (kd_9_0 ha1) (by decide) rfl) ?_
  refine Eq.trans (x0 (h := 13) hT rfl) ?_
  refine Eq.trans (x24r (r := ((a1 + 1) + 8)) (n := 2) (h := 14) hT rfl (kd_0_3 (kd_9_0 ha1)) (ln_0_3 (kd_9_0 ha1)) (by decide)) ?_
  refine xig (fun hz3 => ?_)
  refine Eq.trans (x1 (h := 15) hT rfl rfl (by decide)) ?_
  refine Eq.trans (x24 (r := (((a1 + 1) + 8) + (1 + zix 1))) (n := 24) (h := 16) hT rfl (Or.inl (kq_0_3 (kd_9_0 ha1) (zix_lt hz3))) (lq_0_3 (kd_9_0 ha1) (zix_lt hz3))) ?_
  refine xig (fun hz4 => ?_)
  refine Eq.trans (x22 (r := a0) (cl := 1) (h := 17) hT rfl ha0 (by decide) rfl (by decide)) ?_
  refine Eq.trans (x1 (h := 18) hT rfl rfl (by decide)) ?_
  refine Eq.trans (x21r (r := a0) (cl := 1) (o := 1) (h := 19) hT rfl ha0 (by decide) rfl) ?_
  refine Eq.trans (x0 (h := 20) hT rfl) ?_
  refine Eq.trans (x34 (as := [(2, (((a0 + 1) : Nat) : Int)), (0, 0)]) (st' := []) (h := 21) hT rfl sm_86 rfl) ?_
  refine xbd (fun q5 => ?_)
  rw [rv_86]
  change zB P 246 22 [(2, ((a0 : Nat) : Int)), (2, ((a1 : Nat) : Int)), (0, a2), (0, a3), (3, 0), (3, 0)] [] q5.2 = _
  refine Eq.trans (x0 (h := 22) hT rfl) ?_
  refine Eq.trans (x2 (ls' := [(2, ((a0 : Nat) : Int)), (2, ((a1 : Nat) : Int)), (0, a2), (0, a3), (0, 0), (3, 0)]) (h := 23) hT rfl (Nat.le_of_ble_eq_true rfl) rfl) ?_
  exact rfl
set_option maxRecDepth 100000 in
theorem q_246_24 {P : zP} {d : zD P} {a0 : Nat} {a1 : Nat} {a2 : Int} {a3 : Int} {a4 : Int} {g5 : zV} (ha0 : zkd a0 = 1) (ha1 : zkd a1 = 9) : zB P 246 24 [(2, ((a0 : Nat) : Int)), (2, ((a1 : Nat) : Int)), (0, a2), (0, a3), (0, a4), g5] [] d = (if wr ((d.m a0 5)) ≤ wr a4 then zB P 246 52 [(2, ((a0 : Nat) : Int)), (2, ((a1 : Nat) : Int)), (0, a2), (0, a3), (0, 0), g5] [] d else ((MM P 215 [(2, ((a0 : Nat) : Int)), (2, ((a1 : Nat) : Int)), (0, 0), (0, a3), (0, a4)] d).bind fun q6 => (if wr q6.1 = wr ((-1)) then zB P 246 24 [(2, ((a0 : Nat) : Int)), (2, ((a1 : Nat) : Int)), (0, a2), (0, a3), (0, (a4 + 1)), (0, q6.1)] [] q6.2 else (if zin q6.1 6 then (if zin q6.1 6 then zB P 246 24 [(2, ((a0 : Nat) : Int)), (2, ((a1 : Nat) : Int)), (0, a2), (0, a3), (0, (a4 + 1)), (0, q6.1)] [] ((q6.2.up ((a0 + 1)) (zix q6.1) ((zbin 4 ((q6.2.m ((a0 + 1)) (zix q6.1))) ((zbin 6 1 a4)))))) else none) else none)))) := by
  have hT := cT_246
  refine Eq.trans (x1 (h := 24) hT rfl rfl (by decide)) ?_
  refine Eq.trans (x1 (h := 25) hT rfl rfl (by decide)) ?_
  refine Eq.trans (x21 (r := a0) (cl := 1) (h := 26) hT rfl ha0) ?_
  refine Eq.trans (x17_3 (h := 27) hT rfl) ?_
  refine xit (fun _ => ?_) (fun _ => ?_)
  · refine Eq.trans (x0 (h := 50) hT rfl) ?_
    refine Eq.trans (x2 (ls' := [(2, ((a0 : Nat) : Int)), (2, ((a1 : Nat) : Int)), (0, a2), (0, a3), (0, 0), g5]) (h := 51) hT rfl (Nat.le_of_ble_eq_true rfl) rfl) ?_
    exact rfl
  · refine Eq.trans (x1 (h := 28) hT rfl rfl (by decide)) ?_
    refine Eq.trans (x1 (h := 29) hT rfl rfl (by decide)) ?_
    refine Eq.trans (x0 (h := 30) hT rfl) ?_
    refine Eq.trans (x1 (h := 31) hT rfl rfl (by decide)) ?_
    refine Eq.trans (x1 (h := 32) hT rfl rfl (by decide)) ?_
    refine Eq.trans (x31 (r := a0) (cl := 1) (as := [(2, ((a1 : Nat) : Int)), (0, 0), (0, a3), (0, a4)]) (st' := []) (h := 33) hT rfl sm_215 rfl ha0) ?_
    refine xbd (fun q6 => ?_)
    rw [rv_215]
    change zB P 246 34 [(2, ((a0 : Nat) : Int)), (2, ((a1 : Nat) : Int)), (0, a2), (0, a3), (0, a4), g5] [(0, q6.1)] q6.2 = _
    refine Eq.trans (x2 (ls' := [(2, ((a0 : Nat) : Int)), (2, ((a1 : Nat) : Int)), (0, a2), (0, a3), (0, a4), (0, q6.1)]) (h := 34) hT rfl (Nat.le_of_ble_eq_true rfl) rfl) ?_
    refine Eq.trans (x1 (h := 35) hT rfl rfl (by decide)) ?_
    refine Eq.trans (x0 (h := 36) hT rfl) ?_
    refine Eq.trans (x17_0 (h := 37) hT rfl) ?_
    refine xit (fun _ => ?_) (fun _ => ?_)
    · refine Eq.trans (x4 (ls' := [(2, ((a0 : Nat) : Int)), (2, ((a1 : Nat) : Int)), (0, a2), (0, a3), (0, (a4 + 1)), (0, q6.1)]) (h := 48) hT rfl rfl rfl) ?_
      refine Eq.trans (x18 (h := 49) hT rfl) ?_
      exact rfl
    · refine Eq.trans (x1 (h := 38) hT rfl rfl (by decide)) ?_
      refine Eq.trans (x21r (r := a0) (cl := 1) (o := 1) (h := 39) hT rfl ha0 (by decide) rfl) ?_
      refine Eq.trans (x1 (h := 40) hT rfl rfl (by decide)) ?_
      refine Eq.trans (x14 (h := 41) hT rfl (by decide)) ?_
      refine Eq.trans (x24 (r := (a0 + 1)) (n := 6) (h := 42) hT rfl (Or.inl (kd_1_0 ha0)) (ln_1_0 ha0)) ?_
      refine xig (fun hz7 => ?_)
      refine Eq.trans (x0 (h := 43) hT rfl) ?_
      refine Eq.trans (x1 (h := 44) hT rfl rfl (by decide)) ?_
      refine Eq.trans (x5n (h := 45) hT rfl) ?_
      refine Eq.trans (x5n (h := 46) hT rfl) ?_
      refine Eq.trans (x25a (r := (a0 + 1)) (n := 6) (h := 47) hT rfl (kd_1_0 ha0) (ln_1_0 ha0) (by decide) rfl) ?_
      refine xig (fun hz8 => ?_)
      refine Eq.trans (x4 (ls' := [(2, ((a0 : Nat) : Int)), (2, ((a1 : Nat) : Int)), (0, a2), (0, a3), (0, (a4 + 1)), (0, q6.1)]) (h := 48) hT rfl rfl rfl) ?_
      refine Eq.trans (x18 (h := 49) hT rfl) ?_
      exact rfl
set_option maxRecDepth 100000 in
theorem q_246_52 {P : zP} {d : zD P} {a0 : Nat} {a1 : Nat} {a2 : Int} {a3 : Int} {a4 : Int} {g5 : zV} (ha0 : zkd a0 = 1) (ha1 : zkd a1 = 9) : zB P 246 52 [(2, ((a0 : Nat) : Int)), (2, ((a1 : Nat) : Int)), (0, a2), (0, a3), (0, a4), g5] [] d = (if wr 6 ≤ wr a4 then (if wr a2 < wr 4 then (if wr a2 ≠ wr 5 then some (0, d) else ((MM P 169 [(2, ((a0 : Nat) : Int))] d).bind fun q9 => some (0, q9.2))) else ((MM P 216 [(2, ((a0 : Nat) : Int))] d).bind fun q10 => (if wr a2 ≠ wr 5 then some (0, q10.2) else ((MM P 169 [(2, ((a0 : Nat) : Int))] q10.2).bind fun q11 => some (0, q11.2))))) else (if wr ((d.m a0 4)) ≤ wr a4 then (if wr ((-1)) ≠ wr ((-1)) then (if zin a4 6 then (if zin a4 6 then (if zin a4 6 then (if zin a4 6 then ((MM P 8 [(2, ((a0 : Nat) : Int)), (0, a2), (0, a4)] ((((d.up ((a0 + 2)) (zix a4) ((zbin 6 1 ((-1)))))).up ((a0 + 3)) (zix a4) ((zbin 4 ((((d.up ((a0 + 2)) (zix a4) ((zbin 6 1 ((-1)))))).m ((a0 + 1)) (zix a4))) ((((d.up ((a0 + 2)) (zix a4) ((zbin 6 1 ((-1)))))).m ((a0 + 2)) (zix a4)))))))).bind fun q16 => (if zin a4 6 then zB P 246 52 [(2, ((a0 : Nat) : Int)), (2, ((a1 : Nat) : Int)), (0, a2), (0, a3), (0, (a4 + 1)), (0, (-1))] [] ((q16.2.up ((a0 + 4)) (zix a4) q16.1)) else none)) else none) else none) else none) else none) else (if zin a4 6 then (if zin a4 6 then (if zin a4 6 then (if zin a4 6 then ((MM P 8 [(2, ((a0 : Nat) : Int)), (0, a2), (0, a4)] ((((d.up ((a0 + 2)) (zix a4) 0)).up ((a0 + 3)) (zix a4) ((zbin 4 ((((d.up ((a0 + 2)) (zix a4) 0)).m ((a0 + 1)) (zix a4))) ((((d.up ((a0 + 2)) (zix a4) 0)).m ((a0 + 2)) (zix a4)))))))).bind fun q22 => (if zin a4 6 then zB P 246 52 [(2, ((a0 : Nat) : Int)), (2, ((a1 : Nat) : Int)), (0, a2), (0, a3), (0, (a4 + 1)), (0, (-1))] [] ((q22.2.up ((a0 + 4)) (zix a4) q22.1)) else none)) else none) else none) else none) else none)) else ((MM P 215 [(2, ((a0 : Nat) : Int)), (2, ((a1 : Nat) : Int)), (0, 1), (0, a3), (0, a4)] d).bind fun q24 => (if wr q24.1 ≠ wr ((-1)) then (if zin a4 6 then (if zin a4 6 then (if zin a4 6 then (if zin a4 6 then ((MM P 8 [(2, ((a0 : Nat) : Int)), (0, a2), (0, a4)] ((((q24.2.up ((a0 + 2)) (zix a4) ((zbin 6 1 q24.1)))).up ((a0 + 3)) (zix a4) ((zbin 4 ((((q24.2.up ((a0 + 2)) (zix a4) ((zbin 6 1 q24.1)))).m ((a0 + 1)) (zix a4))) ((((q24.2.up ((a0 + 2)) (zix a4) ((zbin 6 1 q24.1)))).m ((a0 + 2)) (zix a4)))))))).bind fun q29 => (if zin a4 6 then zB P 246 52 [(2, ((a0 : Nat) : Int)), (2, ((a1 : Nat) : Int)), (0, a2), (0, a3), (0, (a4 + 1)), (0, q24.1)] [] ((q29.2.up ((a0 + 4)) (zix a4) q29.1)) else none)) else none) else none) else none) else none) else (if zin a4 6 then (if zin a4 6 then (if zin a4 6 then (if zin a4 6 then ((MM P 8 [(2, ((a0 : Nat) : Int)), (0, a2), (0, a4)] ((((q24.2.up ((a0 + 2)) (zix a4) 0)).up ((a0 + 3)) (zix a4) ((zbin 4 ((((q24.2.up ((a0 + 2)) (zix a4) 0)).m ((a0 + 1)) (zix a4))) ((((q24.2.up ((a0 + 2)) (zix a4) 0)).m ((a0 + 2)) (zix a4)))))))).bind fun q35 => (if zin a4 6 then zB P 246 52 [(2, ((a0 : Nat) : Int)), (2, ((a1 : Nat) : Int)), (0, a2), (0, a3), (0, (a4 + 1)), (0, q24.1)] [] ((q35.2.up ((a0 + 4)) (zix a4) q35.1)) else none)) else none) else none) else none) else none))))) := by
  have hT := cT_246
  refine Eq.trans (x1 (h := 52) hT rfl rfl (by decide)) ?_
  refine Eq.trans (x0 (h := 53) hT rfl) ?_
  refine Eq.trans (x17_3 (h := 54) hT rfl) ?_
  refine xit (fun _ => ?_) (fun _ => ?_)
  · refine Eq.trans (x1 (h := 103) hT rfl rfl (by decide)) ?_
    refine Eq.trans (x0 (h := 104) hT rfl) ?_
    refine Eq.trans (x17_2 (h := 105) hT rfl) ?_
    refine xit (fun _ => ?_) (fun _ => ?_)
    · refine Eq.trans (x1 (h := 108) hT rfl rfl (by decide)) ?_
      refine Eq.trans (x0 (h := 109) hT rfl) ?_
      refine Eq.trans (x17_1 (h := 110) hT rfl) ?_
      refine xit (fun _ => ?_) (fun _ => ?_)
      · exact x20 (h := 113) hT rfl
      · refine Eq.trans (x1 (h := 111) hT rfl rfl (by decide)) ?_
        refine Eq.trans (x31 (r := a0) (cl := 1) (as := []) (st' := []) (h := 112) hT rfl sm_169 rfl ha0) ?_
        refine xbd (fun q9 => ?_)
        rw [rv_169]
        change zB P 246 113 [(2, ((a0 : Nat) : Int)), (2, ((a1 : Nat) : Int)), (0, a2), (0, a3), (0, a4), g5] [] q9.2 = _
        exact x20 (h := 113) hT rfl
    · refine Eq.trans (x1 (h := 106) hT rfl rfl (by decide)) ?_
      refine Eq.trans (x31 (r := a0) (cl := 1) (as := []) (st' := []) (h := 107) hT rfl sm_216 rfl ha0) ?_
      refine xbd (fun q10 => ?_)
      rw [rv_216]
      change zB P 246 108 [(2, ((a0 : Nat) : Int)), (2, ((a1 : Nat) : Int)), (0, a2), (0, a3), (0, a4), g5] [] q10.2 = _
      refine Eq.trans (x1 (h := 108) hT rfl rfl (by decide)) ?_
      refine Eq.trans (x0 (h := 109) hT rfl) ?_
      refine Eq.trans (x17_1 (h := 110) hT rfl) ?_
      refine xit (fun _ => ?_) (fun _ => ?_)
      · exact x20 (h := 113) hT rfl
      · refine Eq.trans (x1 (h := 111) hT rfl rfl (by decide)) ?_
        refine Eq.trans (x31 (r := a0) (cl := 1) (as := []) (st' := []) (h := 112) hT rfl sm_169 rfl ha0) ?_
        refine xbd (fun q11 => ?_)
        rw [rv_169]
        change zB P 246 113 [(2, ((a0 : Nat) : Int)), (2, ((a1 : Nat) : Int)), (0, a2), (0, a3), (0, a4), g5] [] q11.2 = _
        exact x20 (h := 113) hT rfl
  · refine Eq.trans (x1 (h := 55) hT rfl rfl (by decide)) ?_
    refine Eq.trans (x1 (h := 56) hT rfl rfl (by decide)) ?_
    refine Eq.trans (x21 (r := a0) (cl := 1) (h := 57) hT rfl ha0) ?_
    refine Eq.trans (x17_3 (h := 58) hT rfl) ?_
    refine xit (fun _ => ?_) (fun _ => ?_)
    · refine Eq.trans (x0 (h := 66) hT rfl) ?_
      refine Eq.trans (x2 (ls' := [(2, ((a0 : Nat) : Int)), (2, ((a1 : Nat) : Int)), (0, a2), (0, a3), (0, a4), (0, (-1))]) (h := 67) hT rfl (Nat.le_of_ble_eq_true rfl) rfl) ?_
      refine Eq.trans (x1 (h := 68) hT rfl rfl (by decide)) ?_
      refine Eq.trans (x21r (r := a0) (cl := 1) (o := 2) (h := 69) hT rfl ha0 (by decide) rfl) ?_
      refine Eq.trans (x1 (h := 70) hT rfl rfl (by decide)) ?_
      refine Eq.trans (x1 (h := 71) hT rfl rfl (by decide)) ?_
      refine Eq.trans (x0 (h := 72) hT rfl) ?_
      refine Eq.trans (x17_1 (h := 73) hT rfl) ?_
      refine xit (fun _ => ?_) (fun _ => ?_)
      · refine Eq.trans (x0 (h := 76) hT rfl) ?_
        refine Eq.trans (x1 (h := 77) hT rfl rfl (by decide)) ?_
        refine Eq.trans (x5n (h := 78) hT rfl) ?_
        refine Eq.trans (x25a (r := (a0 + 2)) (n := 6) (h := 79) hT rfl (kd_1_1 ha0) (ln_1_1 ha0) (by decide) rfl) ?_
        refine xig (fun hz12 => ?_)
        refine Eq.trans (x1 (h := 80) hT rfl rfl (by decide)) ?_
        refine Eq.trans (x21r (r := a0) (cl := 1) (o := 3) (h := 81) hT rfl ha0 (by decide) rfl) ?_
        refine Eq.trans (x1 (h := 82) hT rfl rfl (by decide)) ?_
        refine Eq.trans (x1 (h := 83) hT rfl rfl (by decide)) ?_
        refine Eq.trans (x21r (r := a0) (cl := 1) (o := 1) (h := 84) hT rfl ha0 (by decide) rfl) ?_
        refine Eq.trans (x1 (h := 85) hT rfl rfl (by decide)) ?_
        refine Eq.trans (x24 (r := (a0 + 1)) (n := 6) (h := 86) hT rfl (Or.inl (kd_1_0 ha0)) (ln_1_0 ha0)) ?_
        refine xig (fun hz13 => ?_)
        refine Eq.trans (x1 (h := 87) hT rfl rfl (by decide)) ?_
        refine Eq.trans (x21r (r := a0) (cl := 1) (o := 2) (h := 88) hT rfl ha0 (by decide) rfl) ?_
        refine Eq.trans (x1 (h := 89) hT rfl rfl (by decide)) ?_
        refine Eq.trans (x24 (r := (a0 + 2)) (n := 6) (h := 90) hT rfl (Or.inl (kd_1_1 ha0)) (ln_1_1 ha0)) ?_
        refine xig (fun hz14 => ?_)
        refine Eq.trans (x5n (h := 91) hT rfl) ?_
        refine Eq.trans (x25a (r := (a0 + 3)) (n := 6) (h := 92) hT rfl (kd_1_2 ha0) (ln_1_2 ha0) (by decide) rfl) ?_
        refine xig (fun hz15 => ?_)
        refine Eq.trans (x1 (h := 93) hT rfl rfl (by decide)) ?_
        refine Eq.trans (x21r (r := a0) (cl := 1) (o := 4) (h := 94) hT rfl ha0 (by decide) rfl) ?_
        refine Eq.trans (x1 (h := 95) hT rfl rfl (by decide)) ?_
        refine Eq.trans (x1 (h := 96) hT rfl rfl (by decide)) ?_
        refine Eq.trans (x1 (h := 97) hT rfl rfl (by decide)) ?_
        refine Eq.trans (x1 (h := 98) hT rfl rfl (by decide)) ?_
        refine Eq.trans (x31 (r := a0) (cl := 1) (as := [(0, a2), (0, a4)]) (st' := [(0, a4), (2, (((a0 + 4) : Nat) : Int))]) (h := 99) hT rfl sm_8 rfl ha0) ?_
        refine xbd (fun q16 => ?_)
        rw [rv_8]
        change zB P 246 100 [(2, ((a0 : Nat) : Int)), (2, ((a1 : Nat) : Int)), (0, a2), (0, a3), (0, a4), (0, (-1))] [(0, q16.1), (0, a4), (2, (((a0 + 4) : Nat) : Int))] q16.2 = _
        refine Eq.trans (x25a (r := (a0 + 4)) (n := 6) (h := 100) hT rfl (kd_1_3 ha0) (ln_1_3 ha0) (by decide) rfl) ?_
        refine xig (fun hz17 => ?_)
        refine Eq.trans (x4 (ls' := [(2, ((a0 : Nat) : Int)), (2, ((a1 : Nat) : Int)), (0, a2), (0, a3), (0, (a4 + 1)), (0, (-1))]) (h := 101) hT rfl rfl rfl) ?_
        refine Eq.trans (x18 (h := 102) hT rfl) ?_
        exact rfl
      · refine Eq.trans (x0 (h := 74) hT rfl) ?_
        refine Eq.trans (x18 (h := 75) hT rfl) ?_
        refine Eq.trans (x25a (r := (a0 + 2)) (n := 6) (h := 79) hT rfl (kd_1_1 ha0) (ln_1_1 ha0) (by decide) rfl) ?_
        refine xig (fun hz18 => ?_)
        refine Eq.trans (x1 (h := 80) hT rfl rfl (by decide)) ?_
        refine Eq.trans (x21r (r := a0) (cl := 1) (o := 3) (h := 81) hT rfl ha0 (by decide) rfl) ?_
        refine Eq.trans (x1 (h := 82) hT rfl rfl (by decide)) ?_
        refine Eq.trans (x1 (h := 83) hT rfl rfl (by decide)) ?_
        refine Eq.trans (x21r (r := a0) (cl := 1) (o := 1) (h := 84) hT rfl ha0 (by decide) rfl) ?_
        refine Eq.trans (x1 (h := 85) hT rfl rfl (by decide)) ?_
        refine Eq.trans (x24 (r := (a0 + 1)) (n := 6) (h := 86) hT rfl (Or.inl (kd_1_0 ha0)) (ln_1_0 ha0)) ?_
        refine xig (fun hz19 => ?_)
        refine Eq.trans (x1 (h := 87) hT rfl rfl (by decide)) ?_
        refine Eq.trans (x21r (r := a0) (cl := 1) (o := 2) (h := 88) hT rfl ha0 (by decide) rfl) ?_
        refine Eq.trans (x1 (h := 89) hT rfl rfl (by decide)) ?_
        refine Eq.trans (x24 (r := (a0 + 2)) (n := 6) (h := 90) hT rfl (Or.inl (kd_1_1 ha0)) (ln_1_1 ha0)) ?_
        refine xig (fun hz20 => ?_)
        refine Eq.trans (x5n (h := 91) hT rfl) ?_
        refine Eq.trans (x25a (r := (a0 + 3)) (n := 6) (h := 92) hT rfl (kd_1_2 ha0) (ln_1_2 ha0) (by decide) rfl) ?_
        refine xig (fun hz21 => ?_)
        refine Eq.trans (x1 (h := 93) hT rfl rfl (by decide)) ?_
        refine Eq.trans (x21r (r := a0) (cl := 1) (o := 4) (h := 94) hT rfl ha0 (by decide) rfl) ?_
        refine Eq.trans (x1 (h := 95) hT rfl rfl (by decide)) ?_
        refine Eq.trans (x1 (h := 96) hT rfl rfl (by decide)) ?_
        refine Eq.trans (x1 (h := 97) hT rfl rfl (by decide)) ?_
        refine Eq.trans (x1 (h := 98) hT rfl rfl (by decide)) ?_
        refine Eq.trans (x31 (r := a0) (cl := 1) (as := [(0, a2), (0, a4)]) (st' := [(0, a4), (2, (((a0 + 4) : Nat) : Int))]) (h := 99) hT rfl sm_8 rfl ha0) ?_
        refine xbd (fun q22 => ?_)
        rw [rv_8]
        change zB P 246 100 [(2, ((a0 : Nat) : Int)), (2, ((a1 : Nat) : Int)), (0, a2), (0, a3), (0, a4), (0, (-1))] [(0, q22.1), (0, a4), (2, (((a0 + 4) : Nat) : Int))] q22.2 = _
        refine Eq.trans (x25a (r := (a0 + 4)) (n := 6) (h := 100) hT rfl (kd_1_3 ha0) (ln_1_3 ha0) (by decide) rfl) ?_
        refine xig (fun hz23 => ?_)
        refine Eq.trans (x4 (ls' := [(2, ((a0 : Nat) : Int)), (2, ((a1 : Nat) : Int)), (0, a2), (0, a3), (0, (a4 + 1)), (0, (-1))]) (h := 101) hT rfl rfl rfl) ?_
        refine Eq.trans (x18 (h := 102) hT rfl) ?_
        exact rfl
    · refine Eq.trans (x1 (h := 59) hT rfl rfl (by decide)) ?_
      refine Eq.trans (x1 (h := 60) hT rfl rfl (by decide)) ?_
      refine Eq.trans (x0 (h := 61) hT rfl) ?_
      refine Eq.trans (x1 (h := 62) hT rfl rfl (by decide)) ?_
      refine Eq.trans (x1 (h := 63) hT rfl rfl (by decide)) ?_
      refine Eq.trans (x31 (r := a0) (cl := 1) (as := [(2, ((a1 : Nat) : Int)), (0, 1), (0, a3), (0, a4)]) (st' := []) (h := 64) hT rfl sm_215 rfl ha0) ?_
      refine xbd (fun q24 => ?_)
      rw [rv_215]
      change zB P 246 65 [(2, ((a0 : Nat) : Int)), (2, ((a1 : Nat) : Int)), (0, a2), (0, a3), (0, a4), g5] [(0, q24.1)] q24.2 = _
      refine Eq.trans (x18 (h := 65) hT rfl) ?_
      refine Eq.trans (x2 (ls' := [(2, ((a0 : Nat) : Int)), (2, ((a1 : Nat) : Int)), (0, a2), (0, a3), (0, a4), (0, q24.1)]) (h := 67) hT rfl (Nat.le_of_ble_eq_true rfl) rfl) ?_
      refine Eq.trans (x1 (h := 68) hT rfl rfl (by decide)) ?_
      refine Eq.trans (x21r (r := a0) (cl := 1) (o := 2) (h := 69) hT rfl ha0 (by decide) rfl) ?_
      refine Eq.trans (x1 (h := 70) hT rfl rfl (by decide)) ?_
      refine Eq.trans (x1 (h := 71) hT rfl rfl (by decide)) ?_
      refine Eq.trans (x0 (h := 72) hT rfl) ?_
      refine Eq.trans (x17_1 (h := 73) hT rfl) ?_
      refine xit (fun _ => ?_) (fun _ => ?_)
      · refine Eq.trans (x0 (h := 76) hT rfl) ?_
        refine Eq.trans (x1 (h := 77) hT rfl rfl (by decide)) ?_
        refine Eq.trans (x5n (h := 78) hT rfl) ?_
        refine Eq.trans (x25a (r := (a0 + 2)) (n := 6) (h := 79) hT rfl (kd_1_1 ha0) (ln_1_1 ha0) (by decide) rfl) ?_
        refine xig (fun hz25 => ?_)
        refine Eq.trans (x1 (h := 80) hT rfl rfl (by decide)) ?_
        refine Eq.trans (x21r (r := a0) (cl := 1) (o := 3) (h := 81) hT rfl ha0 (by decide) rfl) ?_
        refine Eq.trans (x1 (h := 82) hT rfl rfl (by decide)) ?_
        refine Eq.trans (x1 (h := 83) hT rfl rfl (by decide)) ?_
        refine Eq.trans (x21r (r := a0) (cl := 1) (o := 1) (h := 84) hT rfl ha0 (by decide) rfl) ?_
        refine Eq.trans (x1 (h := 85) hT rfl rfl (by decide)) ?_
        refine Eq.trans (x24 (r := (a0 + 1)) (n := 6) (h := 86) hT rfl (Or.inl (kd_1_0 ha0)) (ln_1_0 ha0)) ?_
        refine xig (fun hz26 => ?_)
        refine Eq.trans (x1 (h := 87) hT rfl rfl (by decide)) ?_
        refine Eq.trans (x21r (r := a0) (cl := 1) (o := 2) (h := 88) hT rfl ha0 (by decide) rfl) ?_
        refine Eq.trans (x1 (h := 89) hT rfl rfl (by decide)) ?_
        refine Eq.trans (x24 (r := (a0 + 2)) (n := 6) (h := 90) hT rfl (Or.inl (kd_1_1 ha0)) (ln_1_1 ha0)) ?_
        refine xig (fun hz27 => ?_)
        refine Eq.trans (x5n (h := 91) hT rfl) ?_
        refine Eq.trans (x25a (r := (a0 + 3)) (n := 6) (h := 92) hT rfl (kd_1_2 ha0) (ln_1_2 ha0) (by decide) rfl) ?_
        refine xig (fun hz28 => ?_)
        refine Eq.trans (x1 (h := 93) hT rfl rfl (by decide)) ?_
        refine Eq.trans (x21r (r := a0) (cl := 1) (o := 4) (h := 94) hT rfl ha0 (by decide) rfl) ?_
        refine Eq.trans (x1 (h := 95) hT rfl rfl (by decide)) ?_
        refine Eq.trans (x1 (h := 96) hT rfl rfl (by decide)) ?_
        refine Eq.trans (x1 (h := 97) hT rfl rfl (by decide)) ?_
        refine Eq.trans (x1 (h := 98) hT rfl rfl (by decide)) ?_
        refine Eq.trans (x31 (r := a0) (cl := 1) (as := [(0, a2), (0, a4)]) (st' := [(0, a4), (2, (((a0 + 4) : Nat) : Int))]) (h := 99) hT rfl sm_8 rfl ha0) ?_
        refine xbd (fun q29 => ?_)
        rw [rv_8]
        change zB P 246 100 [(2, ((a0 : Nat) : Int)), (2, ((a1 : Nat) : Int)), (0, a2), (0, a3), (0, a4), (0, q24.1)] [(0, q29.1), (0, a4), (2, (((a0 + 4) : Nat) : Int))] q29.2 = _
        refine Eq.trans (x25a (r := (a0 + 4)) (n := 6) (h := 100) hT rfl (kd_1_3 ha0) (ln_1_3 ha0) (by decide) rfl) ?_
        refine xig (fun hz30 => ?_)
        refine Eq.trans (x4 (ls' := [(2, ((a0 : Nat) : Int)), (2, ((a1 : Nat) : Int)), (0, a2), (0, a3), (0, (a4 + 1)), (0, q24.1)]) (h := 101) hT rfl rfl rfl) ?_
        refine Eq.trans (x18 (h := 102) hT rfl) ?_
        exact rfl
      · refine Eq.trans (x0 (h := 74) hT rfl) ?_
        refine Eq.trans (x18 (h := 75) hT rfl) ?_
        refine Eq.trans (x25a (r := (a0 + 2)) (n := 6) (h := 79) hT rfl (kd_1_1 ha0) (ln_1_1 ha0) (by decide) rfl) ?_
        refine xig (fun hz31 => ?_)
        refine Eq.trans (x1 (h := 80) hT rfl rfl (by decide)) ?_
        refine Eq.trans (x21r (r := a0) (cl := 1) (o := 3) (h := 81) hT rfl ha0 (by decide) rfl) ?_
        refine Eq.trans (x1 (h := 82) hT rfl rfl (by decide)) ?_
        refine Eq.trans (x1 (h := 83) hT rfl rfl (by decide)) ?_
        refine Eq.trans (x21r (r := a0) (cl := 1) (o := 1) (h := 84) hT rfl ha0 (by decide) rfl) ?_
        refine Eq.trans (x1 (h := 85) hT rfl rfl (by decide)) ?_
        refine Eq.trans (x24 (r := (a0 + 1)) (n := 6) (h := 86) hT rfl (Or.inl (kd_1_0 ha0)) (ln_1_0 ha0)) ?_
        refine xig (fun hz32 => ?_)
        refine Eq.trans (x1 (h := 87) hT rfl rfl (by decide)) ?_
        refine Eq.trans (x21r (r := a0) (cl := 1) (o := 2) (h := 88) hT rfl ha0 (by decide) rfl) ?_
        refine Eq.trans (x1 (h := 89) hT rfl rfl (by decide)) ?_
        refine Eq.trans (x24 (r := (a0 + 2)) (n := 6) (h := 90) hT rfl (Or.inl (kd_1_1 ha0)) (ln_1_1 ha0)) ?_
        refine xig (fun hz33 => ?_)
        refine Eq.trans (x5n (h := 91) hT rfl) ?_
        refine Eq.trans (x25a (r := (a0 + 3)) (n := 6) (h := 92) hT rfl (kd_1_2 ha0) (ln_1_2 ha0) (by decide) rfl) ?_
        refine xig (fun hz34 => ?_)
        refine Eq.trans (x1 (h := 93) hT rfl rfl (by decide)) ?_
        refine Eq.trans (x21r (r := a0) (cl := 1) (o := 4) (h := 94) hT rfl ha0 (by decide) rfl) ?_
        refine Eq.trans (x1 (h := 95) hT rfl rfl (by decide)) ?_
        refine Eq.trans (x1 (h := 96) hT rfl rfl (by decide)) ?_
        refine Eq.trans (x1 (h := 97) hT rfl rfl (by decide)) ?_
        refine Eq.trans (x1 (h := 98) hT rfl rfl (by decide)) ?_
        refine Eq.trans (x31 (r := a0) (cl := 1) (as := [(0, a2), (0, a4)]) (st' := [(0, a4), (2, (((a0 + 4) : Nat) : Int))]) (h := 99) hT rfl sm_8 rfl ha0) ?_
        refine xbd (fun q35 => ?_)
        rw [rv_8]
        change zB P 246 100 [(2, ((a0 : Nat) : Int)), (2, ((a1 : Nat) : Int)), (0, a2), (0, a3), (0, a4), (0, q24.1)] [(0, q35.1), (0, a4), (2, (((a0 + 4) : Nat) : Int))] q35.2 = _
        refine Eq.trans (x25a (r := (a0 + 4)) (n := 6) (h := 100) hT rfl (kd_1_3 ha0) (ln_1_3 ha0) (by decide) rfl) ?_
        refine xig (fun hz36 => ?_)
        refine Eq.trans (x4 (ls' := [(2, ((a0 : Nat) : Int)), (2, ((a1 : Nat) : Int)), (0, a2), (0, a3), (0, (a4 + 1)), (0, q24.1)]) (h := 101) hT rfl rfl rfl) ?_
        refine Eq.trans (x18 (h := 102) hT rfl) ?_
        exact rfl
/-! WordLinks$Matcher.match(LWordLinks$Rows;LWordLinks$Rows;)V -/
set_option maxRecDepth 100000 in
theorem e_247 {P : zP} {d : zD P} {a0 : Nat} {a1 : Nat} {a2 : Nat} (ha0 : zkd a0 = 2) (ha1 : zkd a1 = 7) (ha2 : zkd a2 = 7) : MM P 247 [(2, ((a0 : Nat) : Int)), (2, ((a1 : Nat) : Int)), (2, ((a2 : Nat) : Int))] d = ((MM P 217 [(2, ((a0 : Nat) : Int)), (2, ((a1 : Nat) : Int)), (0, (((((d.up a0 4 ((if wr 8 < wr ((d.m a1 2)) then 8 else (d.m a1 2))))).up a0 5 ((if wr 8 < wr ((((d.up a0 4 ((if wr 8 < wr ((d.m a1 2)) then 8 else (d.m a1 2))))).m a2 2)) then 8 else (((d.up a0 4 ((if wr 8 < wr ((d.m a1 2)) then 8 else (d.m a1 2))))).m a2 2))))).m a0 4)), (2, (((a0 + 3) : Nat) : Int))] ((((d.up a0 4 ((if wr 8 < wr ((d.m a1 2)) then 8 else (d.m a1 2))))).up a0 5 ((if wr 8 < wr ((((d.up a0 4 ((if wr 8 < wr ((d.m a1 2)) then 8 else (d.m a1 2))))).m a2 2)) then 8 else (((d.up a0 4 ((if wr 8 < wr ((d.m a1 2)) then 8 else (d.m a1 2))))).m a2 2)))))).bind fun q1 => ((MM P 217 [(2, ((a0 : Nat) : Int)), (2, ((a2 : Nat) : Int)), (0, (q1.2.m a0 5)), (2, (((a0 + 4) : Nat) : Int))] q1.2).bind fun q2 => zB P 247 29 [(2, ((a0 : Nat) : Int)), (2, ((a1 : Nat) : Int)), (2, ((a2 : Nat) : Int)), (0, (q2.2.m a0 4)), (3, 0), (3, 0)] [] q2.2)) := by
  have hT := cT_247
  refine Eq.trans (MM_def sm_247 (Nat.le_of_ble_eq_true rfl)) ?_
  change zB P 247 0 [(2, ((a0 : Nat) : Int)), (2, ((a1 : Nat) : Int)), (2, ((a2 : Nat) : Int)), (3, 0), (3, 0), (3, 0)] [] d = _
  refine Eq.trans (x1 (h := 0) hT rfl rfl (by decide)) ?_
  refine Eq.trans (x1 (h := 1) hT rfl rfl (by decide)) ?_
  refine Eq.trans (x21 (r := a1) (cl := 7) (h := 2) hT rfl ha1) ?_
  refine Eq.trans (x0 (h := 3) hT rfl) ?_
  refine Eq.trans (x361 (h := 4) hT rfl rfl) ?_
  refine Eq.trans (x22 (r := a0) (cl := 2) (h := 5) hT rfl ha0 (by decide) rfl (by decide)) ?_
  refine Eq.trans (x1 (h := 6) hT rfl rfl (by decide)) ?_
  refine Eq.trans (x1 (h := 7) hT rfl rfl (by decide)) ?_
  refine Eq.trans (x21 (r := a2) (cl := 7) (h := 8) hT rfl ha2) ?_
  refine Eq.trans (x0 (h := 9) hT rfl) ?_
  refine Eq.trans (x361 (h := 10) hT rfl rfl) ?_
  refine Eq.trans (x22 (r := a0) (cl := 2) (h := 11) hT rfl ha0 (by decide) rfl (by decide)) ?_
  refine Eq.trans (x1 (h := 12) hT rfl rfl (by decide)) ?_
  refine Eq.trans (x1 (h := 13) hT rfl rfl (by decide)) ?_
  refine Eq.trans (x1 (h := 14) hT rfl rfl (by decide)) ?_
  refine Eq.trans (x21 (r := a0) (cl := 2) (h := 15) hT rfl ha0) ?_
  refine Eq.trans (x1 (h := 16) hT rfl rfl (by decide)) ?_
  refine Eq.trans (x21r (r := a0) (cl := 2) (o := 3) (h := 17) hT rfl ha0 (by decide) rfl) ?_
  refine Eq.trans (x31 (r := a0) (cl := 2) (as := [(2, ((a1 : Nat) : Int)), (0, (((((d.up a0 4 ((if wr 8 < wr ((d.m a1 2)) then 8 else (d.m a1 2))))).up a0 5 ((if wr 8 < wr ((((d.up a0 4 ((if wr 8 < wr ((d.m a1 2)) then 8 else (d.m a1 2))))).m a2 2)) then 8 else (((d.up a0 4 ((if wr 8 < wr ((d.m a1 2)) then 8 else (d.m a1 2))))).m a2 2))))).m a0 4)), (2, (((a0 + 3) : Nat) : Int))]) (st' := []) (h := 18) hT rfl sm_217 rfl ha0) ?_
  refine xbd (fun q1 => ?_)
  rw [rv_217]
  change zB P 247 19 [(2, ((a0 : Nat) : Int)), (2, ((a1 : Nat) : Int)), (2, ((a2 : Nat) : Int)), (3, 0), (3, 0), (3, 0)] [] q1.2 = _
  refine Eq.trans (x1 (h := 19) hT rfl rfl (by decide)) ?_
  refine Eq.trans (x1 (h := 20) hT rfl rfl (by decide)) ?_
  refine Eq.trans (x1 (h := 21) hT rfl rfl (by decide)) ?_
  refine Eq.trans (x21 (r := a0) (cl := 2) (h := 22) hT rfl ha0) ?_
  refine Eq.trans (x1 (h := 23) hT rfl rfl (by decide)) ?_
  refine Eq.trans (x21r (r := a0) (cl := 2) (o := 4) (h := 24) hT rfl ha0 (by decide) rfl) ?_
  refine Eq.trans (x31 (r := a0) (cl := 2) (as := [(2, ((a2 : Nat) : Int)), (0, (q1.2.m a0 5)), (2, (((a0 + 4) : Nat) : Int))]) (st' := []) (h := 25) hT rfl sm_217 rfl ha0) ?_
  refine xbd (fun q2 => ?_)
  rw [rv_217]
  change zB P 247 26 [(2, ((a0 : Nat) : Int)), (2, ((a1 : Nat) : Int)), (2, ((a2 : Nat) : Int)), (3, 0), (3, 0), (3, 0)] [] q2.2 = _
  refine Eq.trans (x1 (h := 26) hT rfl rfl (by decide)) ?_
  refine Eq.trans (x21 (r := a0) (cl := 2) (h := 27) hT rfl ha0) ?_
  refine Eq.trans (x2 (ls' := [(2, ((a0 : Nat) : Int)), (2, ((a1 : Nat) : Int)), (2, ((a2 : Nat) : Int)), (0, (q2.2.m a0 4)), (3, 0), (3, 0)]) (h := 28) hT rfl (Nat.le_of_ble_eq_true rfl) rfl) ?_
  exact rfl
set_option maxRecDepth 100000 in
theorem q_247_29 {P : zP} {d : zD P} {a0 : Nat} {g1 : zV} {g2 : zV} {a3 : Int} {g4 : zV} {g5 : zV} (ha0 : zkd a0 = 2) : zB P 247 29 [(2, ((a0 : Nat) : Int)), g1, g2, (0, a3), g4, g5] [] d = (if wr a3 < 0 then ((MM P 219 [(2, ((a0 : Nat) : Int))] d).bind fun q3 => some (0, q3.2)) else zB P 247 34 [(2, ((a0 : Nat) : Int)), g1, g2, (0, a3), (0, (d.m a0 5)), g5] [] d) := by
  have hT := cT_247
  refine Eq.trans (x1 (h := 29) hT rfl rfl (by decide)) ?_
  refine Eq.trans (x16_2 (h := 30) hT rfl) ?_
  refine xit (fun _ => ?_) (fun _ => ?_)
  · refine Eq.trans (x1 (h := 63) hT rfl rfl (by decide)) ?_
    refine Eq.trans (x31 (r := a0) (cl := 2) (as := []) (st' := []) (h := 64) hT rfl sm_219 rfl ha0) ?_
    refine xbd (fun q3 => ?_)
    rw [rv_219]
    change zB P 247 65 [(2, ((a0 : Nat) : Int)), g1, g2, (0, a3), g4, g5] [] q3.2 = _
    exact x20 (h := 65) hT rfl
  · refine Eq.trans (x1 (h := 31) hT rfl rfl (by decide)) ?_
    refine Eq.trans (x21 (r := a0) (cl := 2) (h := 32) hT rfl ha0) ?_
    refine Eq.trans (x2 (ls' := [(2, ((a0 : Nat) : Int)), g1, g2, (0, a3), (0, (d.m a0 5)), g5]) (h := 33) hT rfl (Nat.le_of_ble_eq_true rfl) rfl) ?_
    exact rfl
set_option maxRecDepth 100000 in
theorem q_247_34 {P : zP} {d : zD P} {a0 : Nat} {g1 : zV} {g2 : zV} {a3 : Int} {a4 : Int} {g5 : zV} (ha0 : zkd a0 = 2) : zB P 247 34 [(2, ((a0 : Nat) : Int)), g1, g2, (0, a3), (0, a4), g5] [] d = (if wr a4 < 0 then zB P 247 29 [(2, ((a0 : Nat) : Int)), g1, (if (g2).1 = 1 then (3, 0) else g2), (0, (a3 + (-1))), (0, a4), g5] [] d else ((MM P 173 [(2, ((a0 : Nat) : Int)), (0, a3), (0, a4)] d).bind fun q4 => (if wr q4.1 ≠ wr ((-1)) then ((MM P 101 [(2, ((a0 : Nat) : Int)), (0, q4.1), (0, a3), (0, a4)] q4.2).bind fun q5 => (if zin (((a3 * 9) + a4)) 81 then zB P 247 34 [(2, ((a0 : Nat) : Int)), g1, g2, (0, a3), (0, (a4 + (-1))), (0, q4.1)] [] ((q5.2.up ((a0 + 1)) (zix (((a3 * 9) + a4))) q5.1)) else none)) else (if zin (((a3 * 9) + a4)) 81 then zB P 247 34 [(2, ((a0 : Nat) : Int)), g1, g2, (0, a3), (0, (a4 + (-1))), (0, q4.1)] [] ((q4.2.up ((a0 + 1)) (zix (((a3 * 9) + a4))) 0)) else none)))) := by
  have hT := cT_247
  refine Eq.trans (x1 (h := 34) hT rfl rfl (by decide)) ?_
  refine Eq.trans (x16_2 (h := 35) hT rfl) ?_
  refine xit (fun _ => ?_) (fun _ => ?_)
  · refine Eq.trans (x4 (ls' := [(2, ((a0 : Nat) : Int)), g1, (if (g2).1 = 1 then (3, 0) else g2), (0, (a3 + (-1))), (0, a4), g5]) (h := 61) hT rfl rfl rfl) ?_
    refine Eq.trans (x18 (h := 62) hT rfl) ?_
    exact rfl
  · refine Eq.trans (x1 (h := 36) hT rfl rfl (by decide)) ?_
    refine Eq.trans (x1 (h := 37) hT rfl rfl (by decide)) ?_
    refine Eq.trans (x1 (h := 38) hT rfl rfl (by decide)) ?_
    refine Eq.trans (x31 (r := a0) (cl := 2) (as := [(0, a3), (0, a4)]) (st' := []) (h := 39) hT rfl sm_173 rfl ha0) ?_
    refine xbd (fun q4 => ?_)
    rw [rv_173]
    change zB P 247 40 [(2, ((a0 : Nat) : Int)), g1, g2, (0, a3), (0, a4), g5] [(0, q4.1)] q4.2 = _
    refine Eq.trans (x2 (ls' := [(2, ((a0 : Nat) : Int)), g1, g2, (0, a3), (0, a4), (0, q4.1)]) (h := 40) hT rfl (Nat.le_of_ble_eq_true rfl) rfl) ?_
    refine Eq.trans (x1 (h := 41) hT rfl rfl (by decide)) ?_
    refine Eq.trans (x21r (r := a0) (cl := 2) (o := 1) (h := 42) hT rfl ha0 (by decide) rfl) ?_
    refine Eq.trans (x1 (h := 43) hT rfl rfl (by decide)) ?_
    refine Eq.trans (x0 (h := 44) hT rfl) ?_
    refine Eq.trans (x5_2 (h := 45) hT rfl) ?_
    refine Eq.trans (x1 (h := 46) hT rfl rfl (by decide)) ?_
    refine Eq.trans (x5_0 (h := 47) hT rfl) ?_
    refine Eq.trans (x1 (h := 48) hT rfl rfl (by decide)) ?_
    refine Eq.trans (x0 (h := 49) hT rfl) ?_
    refine Eq.trans (x17_1 (h := 50) hT rfl) ?_
    refine xit (fun _ => ?_) (fun _ => ?_)
    · refine Eq.trans (x1 (h := 53) hT rfl rfl (by decide)) ?_
      refine Eq.trans (x1 (h := 54) hT rfl rfl (by decide)) ?_
      refine Eq.trans (x1 (h := 55) hT rfl rfl (by decide)) ?_
      refine Eq.trans (x1 (h := 56) hT rfl rfl (by decide)) ?_
      refine Eq.trans (x31 (r := a0) (cl := 2) (as := [(0, q4.1), (0, a3), (0, a4)]) (st' := [(0, ((a3 * 9) + a4)), (2, (((a0 + 1) : Nat) : Int))]) (h := 57) hT rfl sm_101 rfl ha0) ?_
      refine xbd (fun q5 => ?_)
      rw [rv_101]
      change zB P 247 58 [(2, ((a0 : Nat) : Int)), g1, g2, (0, a3), (0, a4), (0, q4.1)] [(0, q5.1), (0, ((a3 * 9) + a4)), (2, (((a0 + 1) : Nat) : Int))] q5.2 = _
      refine Eq.trans (x25a (r := (a0 + 1)) (n := 81) (h := 58) hT rfl (kd_2_0 ha0) (ln_2_0 ha0) (by decide) rfl) ?_
      refine xig (fun hz6 => ?_)
      refine Eq.trans (x4 (ls' := [(2, ((a0 : Nat) : Int)), g1, g2, (0, a3), (0, (a4 + (-1))), (0, q4.1)]) (h := 59) hT rfl rfl rfl) ?_
      refine Eq.trans (x18 (h := 60) hT rfl) ?_
      exact rfl
    · refine Eq.trans (x0 (h := 51) hT rfl) ?_
      refine Eq.trans (x18 (h := 52) hT rfl) ?_
      refine Eq.trans (x25a (r := (a0 + 1)) (n := 81) (h := 58) hT rfl (kd_2_0 ha0) (ln_2_0 ha0) (by decide) rfl) ?_
      refine xig (fun hz7 => ?_)
      refine Eq.trans (x4 (ls' := [(2, ((a0 : Nat) : Int)), g1, g2, (0, a3), (0, (a4 + (-1))), (0, q4.1)]) (h := 59) hT rfl rfl rfl) ?_
      refine Eq.trans (x18 (h := 60) hT rfl) ?_
      exact rfl
/-! WordLinks$Putter.put(LWordLinks$Phrases;)V -/
set_option maxRecDepth 100000 in
theorem e_248 {P : zP} {d : zD P} {a0 : Nat} {a1 : Nat} (ha0 : zkd a0 = 5) (ha1 : zkd a1 = 4) : MM P 248 [(2, ((a0 : Nat) : Int)), (2, ((a1 : Nat) : Int))] d = (if zin ((d.m a0 6)) 9 then (if zin ((((d.up ((a0 + 2)) (zix ((d.m a0 6))) 0)).m a0 6)) 9 then zB P 248 17 [(2, ((a0 : Nat) : Int)), (2, ((a1 : Nat) : Int)), (0, ((((((d.up ((a0 + 2)) (zix ((d.m a0 6))) 0)).up ((a0 + 3)) (zix ((((d.up ((a0 + 2)) (zix ((d.m a0 6))) 0)).m a0 6))) 0)).m a0 6) - 1))] [] ((((d.up ((a0 + 2)) (zix ((d.m a0 6))) 0)).up ((a0 + 3)) (zix ((((d.up ((a0 + 2)) (zix ((d.m a0 6))) 0)).m a0 6))) 0)) else none) else none) := by
  have hT := cT_248
  refine Eq.trans (MM_def sm_248 (Nat.le_of_ble_eq_true rfl)) ?_
  change zB P 248 0 [(2, ((a0 : Nat) : Int)), (2, ((a1 : Nat) : Int)), (3, 0)] [] d = _
  refine Eq.trans (x1 (h := 0) hT rfl rfl (by decide)) ?_
  refine Eq.trans (x21r (r := a0) (cl := 5) (o := 2) (h := 1) hT rfl ha0 (by decide) rfl) ?_
  refine Eq.trans (x1 (h := 2) hT rfl rfl (by decide)) ?_
  refine Eq.trans (x21 (r := a0) (cl := 5) (h := 3) hT rfl ha0) ?_
  refine Eq.trans (x0 (h := 4) hT rfl) ?_
  refine Eq.trans (x25a (r := (a0 + 2)) (n := 9) (h := 5) hT rfl (kd_5_1 ha0) (ln_5_1 ha0) (by decide) rfl) ?_
  refine xig (fun hz1 => ?_)
  refine Eq.trans (x1 (h := 6) hT rfl rfl (by decide)) ?_
  refine Eq.trans (x21r (r := a0) (cl := 5) (o := 3) (h := 7) hT rfl ha0 (by decide) rfl) ?_
  refine Eq.trans (x1 (h := 8) hT rfl rfl (by decide)) ?_
  refine Eq.trans (x21 (r := a0) (cl := 5) (h := 9) hT rfl ha0) ?_
  refine Eq.trans (x0 (h := 10) hT rfl) ?_
  refine Eq.trans (x25a (r := (a0 + 3)) (n := 9) (h := 11) hT rfl (kd_5_2 ha0) (ln_5_2 ha0) (by decide) rfl) ?_
  refine xig (fun hz2 => ?_)
  refine Eq.trans (x1 (h := 12) hT rfl rfl (by decide)) ?_
  refine Eq.trans (x21 (r := a0) (cl := 5) (h := 13) hT rfl ha0) ?_
  refine Eq.trans (x0 (h := 14) hT rfl) ?_
  refine Eq.trans (x5_1 (h := 15) hT rfl) ?_
  refine Eq.trans (x2 (ls' := [(2, ((a0 : Nat) : Int)), (2, ((a1 : Nat) : Int)), (0, ((((((d.up ((a0 + 2)) (zix ((d.m a0 6))) 0)).up ((a0 + 3)) (zix ((((d.up ((a0 + 2)) (zix ((d.m a0 6))) 0)).m a0 6))) 0)).m a0 6) - 1))]) (h := 16) hT rfl (Nat.le_of_ble_eq_true rfl) rfl) ?_
  exact rfl
set_option maxRecDepth 100000 in
theorem q_248_17 {P : zP} {d : zD P} {a0 : Nat} {a1 : Nat} {a2 : Int} (ha0 : zkd a0 = 5) (ha1 : zkd a1 = 4) : zB P 248 17 [(2, ((a0 : Nat) : Int)), (2, ((a1 : Nat) : Int)), (0, a2)] [] d = (if wr a2 < 0 then ((MM P 177 [(2, ((a0 : Nat) : Int)), (2, ((a1 : Nat) : Int))] d).bind fun q3 => some (0, q3.2)) else ((MM P 221 [(2, ((a0 : Nat) : Int)), (2, ((a1 : Nat) : Int)), (0, a2)] d).bind fun q4 => zB P 248 17 [(2, ((a0 : Nat) : Int)), (2, ((a1 : Nat) : Int)), (0, (a2 + (-1)))] [] q4.2)) := by
  have hT := cT_248
  refine Eq.trans (x1 (h := 17) hT rfl rfl (by decide)) ?_
  refine Eq.trans (x16_2 (h := 18) hT rfl) ?_
  refine xit (fun _ => ?_) (fun _ => ?_)
  · refine Eq.trans (x1 (h := 25) hT rfl rfl (by decide)) ?_
    refine Eq.trans (x1 (h := 26) hT rfl rfl (by decide)) ?_
    refine Eq.trans (x31 (r := a0) (cl := 5) (as := [(2, ((a1 : Nat) : Int))]) (st' := []) (h := 27) hT rfl sm_177 rfl ha0) ?_
    refine xbd (fun q3 => ?_)
    rw [rv_177]
    change zB P 248 28 [(2, ((a0 : Nat) : Int)), (2, ((a1 : Nat) : Int)), (0, a2)] [] q3.2 = _
    exact x20 (h := 28) hT rfl
  · refine Eq.trans (x1 (h := 19) hT rfl rfl (by decide)) ?_
    refine Eq.trans (x1 (h := 20) hT rfl rfl (by decide)) ?_
    refine Eq.trans (x1 (h := 21) hT rfl rfl (by decide)) ?_
    refine Eq.trans (x31 (r := a0) (cl := 5) (as := [(2, ((a1 : Nat) : Int)), (0, a2)]) (st' := []) (h := 22) hT rfl sm_221 rfl ha0) ?_
    refine xbd (fun q4 => ?_)
    rw [rv_221]
    change zB P 248 23 [(2, ((a0 : Nat) : Int)), (2, ((a1 : Nat) : Int)), (0, a2)] [] q4.2 = _
    refine Eq.trans (x4 (ls' := [(2, ((a0 : Nat) : Int)), (2, ((a1 : Nat) : Int)), (0, (a2 + (-1)))]) (h := 23) hT rfl rfl rfl) ?_
    refine Eq.trans (x18 (h := 24) hT rfl) ?_
    exact rfl
/-! WordLinks$Rounder.begin(LWordLinks$State;)V -/
set_option maxRecDepth 100000 in
theorem e_249 {P : zP} {d : zD P} {a0 : Nat} {a1 : Nat} (ha0 : zkd a0 = 6) (ha1 : zkd a1 = 9) : MM P 249 [(2, ((a0 : Nat) : Int)), (2, ((a1 : Nat) : Int))] d = zB P 249 2 [(2, ((a0 : Nat) : Int)), (2, ((a1 : Nat) : Int)), (0, 0), (3, 0)] [] d := by
  have hT := cT_249
  refine Eq.trans (MM_def sm_249 (Nat.le_of_ble_eq_true rfl)) ?_
  change zB P 249 0 [(2, ((a0 : Nat) : Int)), (2, ((a1 : Nat) : Int)), (3, 0), (3, 0)] [] d = _
  refine Eq.trans (x0 (h := 0) hT rfl) ?_
  refine Eq.trans (x2 (ls' := [(2, ((a0 : Nat) : Int)), (2, ((a1 : Nat) : Int)), (0, 0), (3, 0)]) (h := 1) hT rfl (Nat.le_of_ble_eq_true rfl) rfl) ?_
  exact rfl
set_option maxRecDepth 100000 in
theorem q_249_2 {P : zP} {d : zD P} {a0 : Nat} {a1 : Nat} {a2 : Int} {g3 : zV} (ha0 : zkd a0 = 6) (ha1 : zkd a1 = 9) : zB P 249 2 [(2, ((a0 : Nat) : Int)), (2, ((a1 : Nat) : Int)), (0, a2), g3] [] d = (if wr 2 ≤ wr a2 then some (0, d) else (if zin a2 2 then ((MM P 86 [(2, ((((a1 + 22) + (1 + zix a2)) : Nat) : Int)), (0, 0)] d).bind fun q2 => (if zin a2 2 then ((MM P 86 [(2, ((((a1 + 25) + (1 + zix a2)) : Nat) : Int)), (0, 12500)] q2.2).bind fun q4 => zB P 249 19 [(2, ((a0 : Nat) : Int)), (2, ((a1 : Nat) : Int)), (0, a2), (0, 0)] [] q4.2) else none)) else none)) := by
  have hT := cT_249
  refine Eq.trans (x1 (h := 2) hT rfl rfl (by decide)) ?_
  refine Eq.trans (x0 (h := 3) hT rfl) ?_
  refine Eq.trans (x17_3 (h := 4) hT rfl) ?_
  refine xit (fun _ => ?_) (fun _ => ?_)
  · exact x20 (h := 40) hT rfl
  · refine Eq.trans (x1 (h := 5) hT rfl rfl (by decide)) ?_
    refine Eq.trans (x21r (r := a1) (cl := 9) (o := 22) (h := 6) hT rfl ha1 (by decide) rfl) ?_
    refine Eq.trans (x1 (h := 7) hT rfl rfl (by decide)) ?_
    refine Eq.trans (x24r (r := (a1 + 22)) (n := 2) (h := 8) hT rfl (kd_9_3 ha1) (ln_9_3 ha1) (by decide)) ?_
    refine xig (fun hz1 => ?_)
    refine Eq.trans (x0 (h := 9) hT rfl) ?_
    refine Eq.trans (x34 (as := [(2, ((((a1 + 22) + (1 + zix a2)) : Nat) : Int)), (0, 0)]) (st' := []) (h := 10) hT rfl sm_86 rfl) ?_
    refine xbd (fun q2 => ?_)
    rw [rv_86]
    change zB P 249 11 [(2, ((a0 : Nat) : Int)), (2, ((a1 : Nat) : Int)), (0, a2), g3] [] q2.2 = _
    refine Eq.trans (x1 (h := 11) hT rfl rfl (by decide)) ?_
    refine Eq.trans (x21r (r := a1) (cl := 9) (o := 25) (h := 12) hT rfl ha1 (by decide) rfl) ?_
    refine Eq.trans (x1 (h := 13) hT rfl rfl (by decide)) ?_
    refine Eq.trans (x24r (r := (a1 + 25)) (n := 2) (h := 14) hT rfl (kd_9_4 ha1) (ln_9_4 ha1) (by decide)) ?_
    refine xig (fun hz3 => ?_)
    refine Eq.trans (x0 (h := 15) hT rfl) ?_
    refine Eq.trans (x34 (as := [(2, ((((a1 + 25) + (1 + zix a2)) : Nat) : Int)), (0, 12500)]) (st' := []) (h := 16) hT rfl sm_86 rfl) ?_
    refine xbd (fun q4 => ?_)
    rw [rv_86]
    change zB P 249 17 [(2, ((a0 : Nat) : Int)), (2, ((a1 : Nat) : Int)), (0, a2), g3] [] q4.2 = _
    refine Eq.trans (x0 (h := 17) hT rfl) ?_
    refine Eq.trans (x2 (ls' := [(2, ((a0 : Nat) : Int)), (2, ((a1 : Nat) : Int)), (0, a2), (0, 0)]) (h := 18) hT rfl (Nat.le_of_ble_eq_true rfl) rfl) ?_
    exact rfl
set_option maxRecDepth 100000 in
theorem q_249_19 {P : zP} {d : zD P} {a0 : Nat} {a1 : Nat} {a2 : Int} {a3 : Int} (ha0 : zkd a0 = 6) (ha1 : zkd a1 = 9) : zB P 249 19 [(2, ((a0 : Nat) : Int)), (2, ((a1 : Nat) : Int)), (0, a2), (0, a3)] [] d = (if zin a2 2 then (if wr ((d.m (((a1 + 1) + 1)) (zix a2))) ≤ wr a3 then zB P 249 2 [(2, ((a0 : Nat) : Int)), (2, ((a1 : Nat) : Int)), (0, (a2 + 1)), (0, a3)] [] d else ((MM P 223 [(2, ((a0 : Nat) : Int)), (2, ((a1 : Nat) : Int)), (0, a2), (0, a3)] d).bind fun q6 => ((MM P 181 [(2, ((a0 : Nat) : Int)), (2, ((a1 : Nat) : Int)), (0, a2), (0, a3)] q6.2).bind fun q7 => zB P 249 19 [(2, ((a0 : Nat) : Int)), (2, ((a1 : Nat) : Int)), (0, a2), (0, (a3 + 1))] [] q7.2))) else none) := by
  have hT := cT_249
  refine Eq.trans (x1 (h := 19) hT rfl rfl (by decide)) ?_
  refine Eq.trans (x1 (h := 20) hT rfl rfl (by decide)) ?_
  refine Eq.trans (x21r (r := a1) (cl := 9) (o := 1) (h := 21) hT rfl ha1 (by decide) rfl) ?_
  refine Eq.trans (x21r (r := (a1 + 1)) (cl := 0) (o := 1) (h := 22) hT rfl (kd_9_0 ha1) (by decide) rfl) ?_
  refine Eq.trans (x1 (h := 23) hT rfl rfl (by decide)) ?_
  refine Eq.trans (x24 (r := ((a1 + 1) + 1)) (n := 2) (h := 24) hT rfl (Or.inl (kd_0_0 (kd_9_0 ha1))) (ln_0_0 (kd_9_0 ha1))) ?_
  refine xig (fun hz5 => ?_)
  refine Eq.trans (x17_3 (h := 25) hT rfl) ?_
  refine xit (fun _ => ?_) (fun _ => ?_)
  · refine Eq.trans (x4 (ls' := [(2, ((a0 : Nat) : Int)), (2, ((a1 : Nat) : Int)), (0, (a2 + 1)), (0, a3)]) (h := 38) hT rfl rfl rfl) ?_
    refine Eq.trans (x18 (h := 39) hT rfl) ?_
    exact rfl
  · refine Eq.trans (x1 (h := 26) hT rfl rfl (by decide)) ?_
    refine Eq.trans (x1 (h := 27) hT rfl rfl (by decide)) ?_
    refine Eq.trans (x1 (h := 28) hT rfl rfl (by decide)) ?_
    refine Eq.trans (x1 (h := 29) hT rfl rfl (by decide)) ?_
    refine Eq.trans (x31 (r := a0) (cl := 6) (as := [(2, ((a1 : Nat) : Int)), (0, a2), (0, a3)]) (st' := []) (h := 30) hT rfl sm_223 rfl ha0) ?_
    refine xbd (fun q6 => ?_)
    rw [rv_223]
    change zB P 249 31 [(2, ((a0 : Nat) : Int)), (2, ((a1 : Nat) : Int)), (0, a2), (0, a3)] [] q6.2 = _
    refine Eq.trans (x1 (h := 31) hT rfl rfl (by decide)) ?_
    refine Eq.trans (x1 (h := 32) hT rfl rfl (by decide)) ?_
    refine Eq.trans (x1 (h := 33) hT rfl rfl (by decide)) ?_
    refine Eq.trans (x1 (h := 34) hT rfl rfl (by decide)) ?_
    refine Eq.trans (x31 (r := a0) (cl := 6) (as := [(2, ((a1 : Nat) : Int)), (0, a2), (0, a3)]) (st' := []) (h := 35) hT rfl sm_181 rfl ha0) ?_
    refine xbd (fun q7 => ?_)
    rw [rv_181]
    change zB P 249 36 [(2, ((a0 : Nat) : Int)), (2, ((a1 : Nat) : Int)), (0, a2), (0, a3)] [] q7.2 = _
    refine Eq.trans (x4 (ls' := [(2, ((a0 : Nat) : Int)), (2, ((a1 : Nat) : Int)), (0, a2), (0, (a3 + 1))]) (h := 36) hT rfl rfl rfl) ?_
    refine Eq.trans (x18 (h := 37) hT rfl) ?_
    exact rfl
/-! WordLinks$Rounder.countAll(LWordLinks$State;I)V -/
set_option maxRecDepth 100000 in
theorem e_250 {P : zP} {d : zD P} {a0 : Nat} {a1 : Nat} {a2 : Int} (ha0 : zkd a0 = 6) (ha1 : zkd a1 = 9) : MM P 250 [(2, ((a0 : Nat) : Int)), (2, ((a1 : Nat) : Int)), (0, a2)] d = ((MM P 86 [(2, (((a0 + 5) : Nat) : Int)), (0, 0)] d).bind fun q1 => ((MM P 86 [(2, (((a0 + 6) : Nat) : Int)), (0, 0)] q1.2).bind fun q2 => zB P 250 10 [(2, ((a0 : Nat) : Int)), (2, ((a1 : Nat) : Int)), (0, a2), (0, 0), (3, 0)] [] q2.2)) := by
  have hT := cT_250
  refine Eq.trans (MM_def sm_250 (Nat.le_of_ble_eq_true rfl)) ?_
  change zB P 250 0 [(2, ((a0 : Nat) : Int)), (2, ((a1 : Nat) : Int)), (0, a2), (3, 0), (3, 0)] [] d = _
  refine Eq.trans (x1 (h := 0) hT rfl rfl (by decide)) ?_
  refine Eq.trans (x21r (r := a0) (cl := 6) (o := 5) (h := 1) hT rfl ha0 (by decide) rfl) ?_
  refine Eq.trans (x0 (h := 2) hT rfl) ?_
  refine Eq.trans (x34 (as := [(2, (((a0 + 5) : Nat) : Int)), (0, 0)]) (st' := []) (h := 3) hT rfl sm_86 rfl) ?_
  refine xbd (fun q1 => ?_)
  rw [rv_86]
  change zB P 250 4 [(2, ((a0 : Nat) : Int)), (2, ((a1 : Nat) : Int)), (0, a2), (3, 0), (3, 0)] [] q1.2 = _
  refine Eq.trans (x1 (h := 4) hT rfl rfl (by decide)) ?_
  refine Eq.trans (x21r (r := a0) (cl := 6) (o := 6) (h := 5) hT rfl ha0 (by decide) rfl) ?_
  refine Eq.trans (x0 (h := 6) hT rfl) ?_
  refine Eq.trans (x34 (as := [(2, (((a0 + 6) : Nat) : Int)), (0, 0)]) (st' := []) (h := 7) hT rfl sm_86 rfl) ?_
  refine xbd (fun q2 => ?_)
  rw [rv_86]
  change zB P 250 8 [(2, ((a0 : Nat) : Int)), (2, ((a1 : Nat) : Int)), (0, a2), (3, 0), (3, 0)] [] q2.2 = _
  refine Eq.trans (x0 (h := 8) hT rfl) ?_
  refine Eq.trans (x2 (ls' := [(2, ((a0 : Nat) : Int)), (2, ((a1 : Nat) : Int)), (0, a2), (0, 0), (3, 0)]) (h := 9) hT rfl (Nat.le_of_ble_eq_true rfl) rfl) ?_
  exact rfl
set_option maxRecDepth 100000 in
theorem q_250_10 {P : zP} {d : zD P} {a0 : Nat} {a1 : Nat} {a2 : Int} {a3 : Int} {g4 : zV} (ha0 : zkd a0 = 6) (ha1 : zkd a1 = 9) : zB P 250 10 [(2, ((a0 : Nat) : Int)), (2, ((a1 : Nat) : Int)), (0, a2), (0, a3), g4] [] d = (if wr ((d.m ((a1 + 1)) 6)) ≤ wr a3 then some (0, d) else zB P 250 17 [(2, ((a0 : Nat) : Int)), (2, ((a1 : Nat) : Int)), (0, a2), (0, a3), (0, 0)] [] d) := by
  have hT := cT_250
  refine Eq.trans (x1 (h := 10) hT rfl rfl (by decide)) ?_
  refine Eq.trans (x1 (h := 11) hT rfl rfl (by decide)) ?_
  refine Eq.trans (x21r (r := a1) (cl := 9) (o := 1) (h := 12) hT rfl ha1 (by decide) rfl) ?_
  refine Eq.trans (x21 (r := (a1 + 1)) (cl := 0) (h := 13) hT rfl (kd_9_0 ha1)) ?_
  refine Eq.trans (x17_3 (h := 14) hT rfl) ?_
  refine xit (fun _ => ?_) (fun _ => ?_)
  · exact x20 (h := 44) hT rfl
  · refine Eq.trans (x0 (h := 15) hT rfl) ?_
    refine Eq.trans (x2 (ls' := [(2, ((a0 : Nat) : Int)), (2, ((a1 : Nat) : Int)), (0, a2), (0, a3), (0, 0)]) (h := 16) hT rfl (Nat.le_of_ble_eq_true rfl) rfl) ?_
    exact rfl
set_option maxRecDepth 100000 in
theorem q_250_17 {P : zP} {d : zD P} {a0 : Nat} {a1 : Nat} {a2 : Int} {a3 : Int} {a4 : Int} (ha0 : zkd a0 = 6) (ha1 : zkd a1 = 9) : zB P 250 17 [(2, ((a0 : Nat) : Int)), (2, ((a1 : Nat) : Int)), (0, a2), (0, a3), (0, a4)] [] d = (if zin ((1 - a2)) 2 then (if zin a3 24 then (if wr ((d.m ((((a1 + 1) + 8) + (1 + zix ((1 - a2))))) (zix a3))) ≤ wr a4 then zB P 250 10 [(2, ((a0 : Nat) : Int)), (2, ((a1 : Nat) : Int)), (0, a2), (0, (a3 + 1)), (0, a4)] [] d else ((MM P 222 [(2, ((a0 : Nat) : Int)), (2, ((a1 : Nat) : Int)), (0, a2), (0, a3), (0, a4)] d).bind fun q5 => ((MM P 179 [(2, ((a0 : Nat) : Int)), (2, ((a1 : Nat) : Int)), (0, a2), (0, a3), (0, a4)] q5.2).bind fun q6 => zB P 250 17 [(2, ((a0 : Nat) : Int)), (2, ((a1 : Nat) : Int)), (0, a2), (0, a3), (0, (a4 + 1))] [] q6.2))) else none) else none) := by
  have hT := cT_250
  refine Eq.trans (x1 (h := 17) hT rfl rfl (by decide)) ?_
  refine Eq.trans (x1 (h := 18) hT rfl rfl (by decide)) ?_
  refine Eq.trans (x21r (r := a1) (cl := 9) (o := 1) (h := 19) hT rfl ha1 (by decide) rfl) ?_
  refine Eq.trans (x21r (r := (a1 + 1)) (cl := 0) (o := 8) (h := 20) hT rfl (kd_9_0 ha1) (by decide) rfl) ?_
  refine Eq.trans (x0 (h := 21) hT rfl) ?_
  refine Eq.trans (x1 (h := 22) hT rfl rfl (by decide)) ?_
  refine Eq.trans (x5_1 (h := 23) hT rfl) ?_
  refine Eq.trans (x24r (r := ((a1 + 1) + 8)) (n := 2) (h := 24) hT rfl (kd_0_3 (kd_9_0 ha1)) (ln_0_3 (kd_9_0 ha1)) (by decide)) ?_
  refine xig (fun hz3 => ?_)
  refine Eq.trans (x1 (h := 25) hT rfl rfl (by decide)) ?_
  refine Eq.trans (x24 (r := (((a1 + 1) + 8) + (1 + zix ((1 - a2))))) (n := 24) (h := 26) hT rfl (Or.inl (kq_0_3 (kd_9_0 ha1) (zix_lt hz3))) (lq_0_3 (kd_9_0 ha1) (zix_lt hz3))) ?_
  refine xig (fun hz4 => ?_)
  refine Eq.trans (x17_3 (h := 27) hT rfl) ?_
  refine xit (fun _ => ?_) (fun _ => ?_)
  · refine Eq.trans (x4 (ls' := [(2, ((a0 : Nat) : Int)), (2, ((a1 : Nat) : Int)), (0, a2), (0, (a3 + 1)), (0, a4)]) (h := 42) hT rfl rfl rfl) ?_
    refine Eq.trans (x18 (h := 43) hT rfl) ?_
    exact rfl
  · refine Eq.trans (x1 (h := 28) hT rfl rfl (by decide)) ?_
    refine Eq.trans (x1 (h := 29) hT rfl rfl (by decide)) ?_
    refine Eq.trans (x1 (h := 30) hT rfl rfl (by decide)) ?_
    refine Eq.trans (x1 (h := 31) hT rfl rfl (by decide)) ?_
    refine Eq.trans (x1 (h := 32) hT rfl rfl (by decide)) ?_
    refine Eq.trans (x31 (r := a0) (cl := 6) (as := [(2, ((a1 : Nat) : Int)), (0, a2), (0, a3), (0, a4)]) (st' := []) (h := 33) hT rfl sm_222 rfl ha0) ?_
    refine xbd (fun q5 => ?_)
    rw [rv_222]
    change zB P 250 34 [(2, ((a0 : Nat) : Int)), (2, ((a1 : Nat) : Int)), (0, a2), (0, a3), (0, a4)] [] q5.2 = _
    refine Eq.trans (x1 (h := 34) hT rfl rfl (by decide)) ?_
    refine Eq.trans (x1 (h := 35) hT rfl rfl (by decide)) ?_
    refine Eq.trans (x1 (h := 36) hT rfl rfl (by decide)) ?_
    refine Eq.trans (x1 (h := 37) hT rfl rfl (by decide)) ?_
    refine Eq.trans (x1 (h := 38) hT rfl rfl (by decide)) ?_
    refine Eq.trans (x31 (r := a0) (cl := 6) (as := [(2, ((a1 : Nat) : Int)), (0, a2), (0, a3), (0, a4)]) (st' := []) (h := 39) hT rfl sm_179 rfl ha0) ?_
    refine xbd (fun q6 => ?_)
    rw [rv_179]
    change zB P 250 40 [(2, ((a0 : Nat) : Int)), (2, ((a1 : Nat) : Int)), (0, a2), (0, a3), (0, a4)] [] q6.2 = _
    refine Eq.trans (x4 (ls' := [(2, ((a0 : Nat) : Int)), (2, ((a1 : Nat) : Int)), (0, a2), (0, a3), (0, (a4 + 1))]) (h := 40) hT rfl rfl rfl) ?_
    refine Eq.trans (x18 (h := 41) hT rfl) ?_
    exact rfl
/-! WordLinks$Shape.waysApart(LWordLinks$Linker;)J -/
set_option maxRecDepth 100000 in
theorem e_251 {P : zP} {d : zD P} {a0 : Nat} {a1 : Nat} (ha0 : zkd a0 = 8) (ha1 : zkd a1 = 1) : MM P 251 [(2, ((a0 : Nat) : Int)), (2, ((a1 : Nat) : Int))] d = zB P 251 2 [(2, ((a0 : Nat) : Int)), (2, ((a1 : Nat) : Int)), (0, 1), (3, 0)] [] d := by
  have hT := cT_251
  refine Eq.trans (MM_def sm_251 (Nat.le_of_ble_eq_true rfl)) ?_
  change zB P 251 0 [(2, ((a0 : Nat) : Int)), (2, ((a1 : Nat) : Int)), (3, 0), (3, 0)] [] d = _
  refine Eq.trans (x0 (h := 0) hT rfl) ?_
  refine Eq.trans (x2 (ls' := [(2, ((a0 : Nat) : Int)), (2, ((a1 : Nat) : Int)), (0, 1), (3, 0)]) (h := 1) hT rfl (Nat.le_of_ble_eq_true rfl) rfl) ?_
  exact rfl
set_option maxRecDepth 100000 in
theorem q_251_2 {P : zP} {d : zD P} {a0 : Nat} {a1 : Nat} {a2 : Int} {g3 : zV} (ha0 : zkd a0 = 8) (ha1 : zkd a1 = 1) : zB P 251 2 [(2, ((a0 : Nat) : Int)), (2, ((a1 : Nat) : Int)), (0, a2), g3] [] d = (if wr ((d.m a1 4)) < wr a2 then ((MM P 28 [(0, 0), (0, (d.m a1 4)), (0, 0), (0, (d.m a1 5))] d).bind fun q1 => (if zin q1.1 2401 then some ((q1.2.m ((a0 + 1)) (zix q1.1)), q1.2) else none)) else zB P 251 8 [(2, ((a0 : Nat) : Int)), (2, ((a1 : Nat) : Int)), (0, a2), (0, 1)] [] d) := by
  have hT := cT_251
  refine Eq.trans (x1 (h := 2) hT rfl rfl (by decide)) ?_
  refine Eq.trans (x1 (h := 3) hT rfl rfl (by decide)) ?_
  refine Eq.trans (x21 (r := a1) (cl := 1) (h := 4) hT rfl ha1) ?_
  refine Eq.trans (x17_4 (h := 5) hT rfl) ?_
  refine xit (fun _ => ?_) (fun _ => ?_)
  · refine Eq.trans (x1 (h := 21) hT rfl rfl (by decide)) ?_
    refine Eq.trans (x21r (r := a0) (cl := 8) (o := 1) (h := 22) hT rfl ha0 (by decide) rfl) ?_
    refine Eq.trans (x0 (h := 23) hT rfl) ?_
    refine Eq.trans (x1 (h := 24) hT rfl rfl (by decide)) ?_
    refine Eq.trans (x21 (r := a1) (cl := 1) (h := 25) hT rfl ha1) ?_
    refine Eq.trans (x0 (h := 26) hT rfl) ?_
    refine Eq.trans (x1 (h := 27) hT rfl rfl (by decide)) ?_
    refine Eq.trans (x21 (r := a1) (cl := 1) (h := 28) hT rfl ha1) ?_
    refine Eq.trans (x34 (as := [(0, 0), (0, (d.m a1 4)), (0, 0), (0, (d.m a1 5))]) (st' := [(2, (((a0 + 1) : Nat) : Int))]) (h := 29) hT rfl sm_28 rfl) ?_
    refine xbd (fun q1 => ?_)
    rw [rv_28]
    change zB P 251 30 [(2, ((a0 : Nat) : Int)), (2, ((a1 : Nat) : Int)), (0, a2), g3] [(0, q1.1), (2, (((a0 + 1) : Nat) : Int))] q1.2 = _
    refine Eq.trans (x24 (r := (a0 + 1)) (n := 2401) (h := 30) hT rfl (Or.inl (kd_8_0 ha0)) (ln_8_0 ha0)) ?_
    refine xig (fun hz2 => ?_)
    exact x202 (h := 31) hT rfl
  · refine Eq.trans (x0 (h := 6) hT rfl) ?_
    refine Eq.trans (x2 (ls' := [(2, ((a0 : Nat) : Int)), (2, ((a1 : Nat) : Int)), (0, a2), (0, 1)]) (h := 7) hT rfl (Nat.le_of_ble_eq_true rfl) rfl) ?_
    exact rfl
set_option maxRecDepth 100000 in
theorem q_251_8 {P : zP} {d : zD P} {a0 : Nat} {a1 : Nat} {a2 : Int} {a3 : Int} (ha0 : zkd a0 = 8) (ha1 : zkd a1 = 1) : zB P 251 8 [(2, ((a0 : Nat) : Int)), (2, ((a1 : Nat) : Int)), (0, a2), (0, a3)] [] d = (if wr ((d.m a1 5)) < wr a3 then zB P 251 2 [(2, ((a0 : Nat) : Int)), (2, ((a1 : Nat) : Int)), (0, (a2 + 1)), (0, a3)] [] d else ((MM P 224 [(2, ((a0 : Nat) : Int)), (2, ((a1 : Nat) : Int)), (0, a2), (0, a3)] d).bind fun q3 => zB P 251 8 [(2, ((a0 : Nat) : Int)), (2, ((a1 : Nat) : Int)), (0, a2), (0, (a3 + 1))] [] q3.2)) := by
  have hT := cT_251
  refine Eq.trans (x1 (h := 8) hT rfl rfl (by decide)) ?_
  refine Eq.trans (x1 (h := 9) hT rfl rfl (by decide)) ?_
  refine Eq.trans (x21 (r := a1) (cl := 1) (h := 10) hT rfl ha1) ?_
  refine Eq.trans (x17_4 (h := 11) hT rfl) ?_
  refine xit (fun _ => ?_) (fun _ => ?_)
  · refine Eq.trans (x4 (ls' := [(2, ((a0 : Nat) : Int)), (2, ((a1 : Nat) : Int)), (0, (a2 + 1)), (0, a3)]) (h := 19) hT rfl rfl rfl) ?_
    refine Eq.trans (x18 (h := 20) hT rfl) ?_
    exact rfl
  · refine Eq.trans (x1 (h := 12) hT rfl rfl (by decide)) ?_
    refine Eq.trans (x1 (h := 13) hT rfl rfl (by decide)) ?_
    refine Eq.trans (x1 (h := 14) hT rfl rfl (by decide)) ?_
    refine Eq.trans (x1 (h := 15) hT rfl rfl (by decide)) ?_
    refine Eq.trans (x31 (r := a0) (cl := 8) (as := [(2, ((a1 : Nat) : Int)), (0, a2), (0, a3)]) (st' := []) (h := 16) hT rfl sm_224 rfl ha0) ?_
    refine xbd (fun q3 => ?_)
    rw [rv_224]
    change zB P 251 17 [(2, ((a0 : Nat) : Int)), (2, ((a1 : Nat) : Int)), (0, a2), (0, a3)] [] q3.2 = _
    refine Eq.trans (x4 (ls' := [(2, ((a0 : Nat) : Int)), (2, ((a1 : Nat) : Int)), (0, a2), (0, (a3 + 1))]) (h := 17) hT rfl rfl rfl) ?_
    refine Eq.trans (x18 (h := 18) hT rfl) ?_
    exact rfl
/-! WordLinks$Tape.readPairs(ILWordLinks$Rows;LWordLinks$Rows;)Z -/
set_option maxRecDepth 100000 in
theorem e_252 {P : zP} {d : zD P} {a0 : Nat} {a1 : Int} {a2 : Nat} {a3 : Nat} (ha0 : zkd a0 = 10) (ha2 : zkd a2 = 7) (ha3 : zkd a3 = 7) : MM P 252 [(2, ((a0 : Nat) : Int)), (0, a1), (2, ((a2 : Nat) : Int)), (2, ((a3 : Nat) : Int))] d = ((MM P 34 [(2, ((a0 : Nat) : Int)), (0, a1)] d).bind fun q1 => ((MM P 24 [(2, ((a2 : Nat) : Int))] q1.2).bind fun q2 => ((MM P 24 [(2, ((a3 : Nat) : Int))] q2.2).bind fun q3 => zB P 252 9 [(2, ((a0 : Nat) : Int)), (0, a1), (2, ((a2 : Nat) : Int)), (2, ((a3 : Nat) : Int)), (0, 0)] [] q3.2))) := by
  have hT := cT_252
  refine Eq.trans (MM_def sm_252 (Nat.le_of_ble_eq_true rfl)) ?_
  change zB P 252 0 [(2, ((a0 : Nat) : Int)), (0, a1), (2, ((a2 : Nat) : Int)), (2, ((a3 : Nat) : Int)), (3, 0)] [] d = _
  refine Eq.trans (x1 (h := 0) hT rfl rfl (by decide)) ?_
  refine Eq.trans (x1 (h := 1) hT rfl rfl (by decide)) ?_
  refine Eq.trans (x31 (r := a0) (cl := 10) (as := [(0, a1)]) (st' := []) (h := 2) hT rfl sm_34 rfl ha0) ?_
  refine xbd (fun q1 => ?_)
  rw [rv_34]
  change zB P 252 3 [(2, ((a0 : Nat) : Int)), (0, a1), (2, ((a2 : Nat) : Int)), (2, ((a3 : Nat) : Int)), (3, 0)] [] q1.2 = _
  refine Eq.trans (x1 (h := 3) hT rfl rfl (by decide)) ?_
  refine Eq.trans (x31 (r := a2) (cl := 7) (as := []) (st' := []) (h := 4) hT rfl sm_24 rfl ha2) ?_
  refine xbd (fun q2 => ?_)
  rw [rv_24]
  change zB P 252 5 [(2, ((a0 : Nat) : Int)), (0, a1), (2, ((a2 : Nat) : Int)), (2, ((a3 : Nat) : Int)), (3, 0)] [] q2.2 = _
  refine Eq.trans (x1 (h := 5) hT rfl rfl (by decide)) ?_
  refine Eq.trans (x31 (r := a3) (cl := 7) (as := []) (st' := []) (h := 6) hT rfl sm_24 rfl ha3) ?_
  refine xbd (fun q3 => ?_)
  rw [rv_24]
  change zB P 252 7 [(2, ((a0 : Nat) : Int)), (0, a1), (2, ((a2 : Nat) : Int)), (2, ((a3 : Nat) : Int)), (3, 0)] [] q3.2 = _
  refine Eq.trans (x0 (h := 7) hT rfl) ?_
  refine Eq.trans (x2 (ls' := [(2, ((a0 : Nat) : Int)), (0, a1), (2, ((a2 : Nat) : Int)), (2, ((a3 : Nat) : Int)), (0, 0)]) (h := 8) hT rfl (Nat.le_of_ble_eq_true rfl) rfl) ?_
  exact rfl
set_option maxRecDepth 100000 in
theorem q_252_9 {P : zP} {d : zD P} {a0 : Nat} {g1 : zV} {a2 : Nat} {a3 : Nat} {a4 : Int} (ha0 : zkd a0 = 10) (ha2 : zkd a2 = 7) (ha3 : zkd a3 = 7) : zB P 252 9 [(2, ((a0 : Nat) : Int)), g1, (2, ((a2 : Nat) : Int)), (2, ((a3 : Nat) : Int)), (0, a4)] [] d = (if wr 12 ≤ wr a4 then ((MM P 37 [(2, ((a0 : Nat) : Int)), (0, 4)] d).bind fun q4 => (if q4.1 = 0 ∨ q4.1 = 1 then some (q4.1, q4.2) else none)) else ((MM P 228 [(2, ((a0 : Nat) : Int)), (2, ((a2 : Nat) : Int)), (0, 6)] d).bind fun q5 => (if wr q5.1 = 0 then some (0, q5.2) else ((MM P 122 [(2, ((a0 : Nat) : Int)), (0, 61)] q5.2).bind fun q6 => (if wr q6.1 = 0 then some (0, q6.2) else ((MM P 228 [(2, ((a0 : Nat) : Int)), (2, ((a3 : Nat) : Int)), (0, 6)] q6.2).bind fun q7 => (if wr q7.1 ≠ 0 then (if wr ((q7.2.m a0 3)) ≠ wr ((q7.2.m a0 2)) then ((MM P 122 [(2, ((a0 : Nat) : Int)), (0, 59)] q7.2).bind fun q8 => (if wr q8.1 ≠ 0 then zB P 252 9 [(2, ((a0 : Nat) : Int)), g1, (2, ((a2 : Nat) : Int)), (2, ((a3 : Nat) : Int)), (0, (a4 + 1))] [] q8.2 else some (0, q8.2))) else some (1, q7.2)) else some (0, q7.2)))))))) := by
  have hT := cT_252
  refine Eq.trans (x1 (h := 9) hT rfl rfl (by decide)) ?_
  refine Eq.trans (x0 (h := 10) hT rfl) ?_
  refine Eq.trans (x17_3 (h := 11) hT rfl) ?_
  refine xit (fun _ => ?_) (fun _ => ?_)
  · refine Eq.trans (x1 (h := 43) hT rfl rfl (by decide)) ?_
    refine Eq.trans (x0 (h := 44) hT rfl) ?_
    refine Eq.trans (x31 (r := a0) (cl := 10) (as := [(0, 4)]) (st' := []) (h := 45) hT rfl sm_37 rfl ha0) ?_
    refine xbd (fun q4 => ?_)
    rw [rv_37]
    change zB P 252 46 [(2, ((a0 : Nat) : Int)), g1, (2, ((a2 : Nat) : Int)), (2, ((a3 : Nat) : Int)), (0, a4)] [(0, q4.1)] q4.2 = _
    exact x203 (h := 46) hT rfl
  · refine Eq.trans (x1 (h := 12) hT rfl rfl (by decide)) ?_
    refine Eq.trans (x1 (h := 13) hT rfl rfl (by decide)) ?_
    refine Eq.trans (x0 (h := 14) hT rfl) ?_
    refine Eq.trans (x31 (r := a0) (cl := 10) (as := [(2, ((a2 : Nat) : Int)), (0, 6)]) (st' := []) (h := 15) hT rfl sm_228 rfl ha0) ?_
    refine xbd (fun q5 => ?_)
    rw [rv_228]
    change zB P 252 16 [(2, ((a0 : Nat) : Int)), g1, (2, ((a2 : Nat) : Int)), (2, ((a3 : Nat) : Int)), (0, a4)] [(0, q5.1)] q5.2 = _
    refine Eq.trans (x16_0 (h := 16) hT rfl) ?_
    refine xit (fun _ => ?_) (fun _ => ?_)
    · refine Eq.trans (x0 (h := 26) hT rfl) ?_
      exact x203c (h := 27) hT rfl (by decide)
    · refine Eq.trans (x1 (h := 17) hT rfl rfl (by decide)) ?_
      refine Eq.trans (x0 (h := 18) hT rfl) ?_
      refine Eq.trans (x31 (r := a0) (cl := 10) (as := [(0, 61)]) (st' := []) (h := 19) hT rfl sm_122 rfl ha0) ?_
      refine xbd (fun q6 => ?_)
      rw [rv_122]
      change zB P 252 20 [(2, ((a0 : Nat) : Int)), g1, (2, ((a2 : Nat) : Int)), (2, ((a3 : Nat) : Int)), (0, a4)] [(0, q6.1)] q6.2 = _
      refine Eq.trans (x16_0 (h := 20) hT rfl) ?_
      refine xit (fun _ => ?_) (fun _ => ?_)
      · refine Eq.trans (x0 (h := 26) hT rfl) ?_
        exact x203c (h := 27) hT rfl (by decide)
      · refine Eq.trans (x1 (h := 21) hT rfl rfl (by decide)) ?_
        refine Eq.trans (x1 (h := 22) hT rfl rfl (by decide)) ?_
        refine Eq.trans (x0 (h := 23) hT rfl) ?_
        refine Eq.trans (x31 (r := a0) (cl := 10) (as := [(2, ((a3 : Nat) : Int)), (0, 6)]) (st' := []) (h := 24) hT rfl sm_228 rfl ha0) ?_
        refine xbd (fun q7 => ?_)
        rw [rv_228]
        change zB P 252 25 [(2, ((a0 : Nat) : Int)), g1, (2, ((a2 : Nat) : Int)), (2, ((a3 : Nat) : Int)), (0, a4)] [(0, q7.1)] q7.2 = _
        refine Eq.trans (x16_1 (h := 25) hT rfl) ?_
        refine xit (fun _ => ?_) (fun _ => ?_)
        · refine Eq.trans (x1 (h := 28) hT rfl rfl (by decide)) ?_
          refine Eq.trans (x21 (r := a0) (cl := 10) (h := 29) hT rfl ha0) ?_
          refine Eq.trans (x1 (h := 30) hT rfl rfl (by decide)) ?_
          refine Eq.trans (x21 (r := a0) (cl := 10) (h := 31) hT rfl ha0) ?_
          refine Eq.trans (x17_1 (h := 32) hT rfl) ?_
          refine xit (fun _ => ?_) (fun _ => ?_)
          · refine Eq.trans (x1 (h := 35) hT rfl rfl (by decide)) ?_
            refine Eq.trans (x0 (h := 36) hT rfl) ?_
            refine Eq.trans (x31 (r := a0) (cl := 10) (as := [(0, 59)]) (st' := []) (h := 37) hT rfl sm_122 rfl ha0) ?_
            refine xbd (fun q8 => ?_)
            rw [rv_122]
            change zB P 252 38 [(2, ((a0 : Nat) : Int)), g1, (2, ((a2 : Nat) : Int)), (2, ((a3 : Nat) : Int)), (0, a4)] [(0, q8.1)] q8.2 = _
            refine Eq.trans (x16_1 (h := 38) hT rfl) ?_
            refine xit (fun _ => ?_) (fun _ => ?_)
            · refine Eq.trans (x4 (ls' := [(2, ((a0 : Nat) : Int)), g1, (2, ((a2 : Nat) : Int)), (2, ((a3 : Nat) : Int)), (0, (a4 + 1))]) (h := 41) hT rfl rfl rfl) ?_
              refine Eq.trans (x18 (h := 42) hT rfl) ?_
              exact rfl
            · refine Eq.trans (x0 (h := 39) hT rfl) ?_
              exact x203c (h := 40) hT rfl (by decide)
          · refine Eq.trans (x0 (h := 33) hT rfl) ?_
            exact x203c (h := 34) hT rfl (by decide)
        · refine Eq.trans (x0 (h := 26) hT rfl) ?_
          exact x203c (h := 27) hT rfl (by decide)
/-! WordLinks$Tape.readRow(ILWordLinks$Rows;)Z -/
set_option maxRecDepth 100000 in
theorem e_253 {P : zP} {d : zD P} {a0 : Nat} {a1 : Int} {a2 : Nat} (ha0 : zkd a0 = 10) (ha2 : zkd a2 = 7) : MM P 253 [(2, ((a0 : Nat) : Int)), (0, a1), (2, ((a2 : Nat) : Int))] d = ((MM P 34 [(2, ((a0 : Nat) : Int)), (0, a1)] d).bind fun q1 => ((MM P 24 [(2, ((a2 : Nat) : Int))] q1.2).bind fun q2 => ((MM P 228 [(2, ((a0 : Nat) : Int)), (2, ((a2 : Nat) : Int)), (0, 8)] q2.2).bind fun q3 => (if wr q3.1 = 0 then some (0, q3.2) else (if wr ((q3.2.m a0 3)) ≠ wr ((q3.2.m a0 2)) then some (0, q3.2) else some (1, q3.2)))))) := by
  have hT := cT_253
  refine Eq.trans (MM_def sm_253 (Nat.le_of_ble_eq_true rfl)) ?_
  change zB P 253 0 [(2, ((a0 : Nat) : Int)), (0, a1), (2, ((a2 : Nat) : Int))] [] d = _
  refine Eq.trans (x1 (h := 0) hT rfl rfl (by decide)) ?_
  refine Eq.trans (x1 (h := 1) hT rfl rfl (by decide)) ?_
  refine Eq.trans (x31 (r := a0) (cl := 10) (as := [(0, a1)]) (st' := []) (h := 2) hT rfl sm_34 rfl ha0) ?_
  refine xbd (fun q1 => ?_)
  rw [rv_34]
  change zB P 253 3 [(2, ((a0 : Nat) : Int)), (0, a1), (2, ((a2 : Nat) : Int))] [] q1.2 = _
  refine Eq.trans (x1 (h := 3) hT rfl rfl (by decide)) ?_
  refine Eq.trans (x31 (r := a2) (cl := 7) (as := []) (st' := []) (h := 4) hT rfl sm_24 rfl ha2) ?_
  refine xbd (fun q2 => ?_)
  rw [rv_24]
  change zB P 253 5 [(2, ((a0 : Nat) : Int)), (0, a1), (2, ((a2 : Nat) : Int))] [] q2.2 = _
  refine Eq.trans (x1 (h := 5) hT rfl rfl (by decide)) ?_
  refine Eq.trans (x1 (h := 6) hT rfl rfl (by decide)) ?_
  refine Eq.trans (x0 (h := 7) hT rfl) ?_
  refine Eq.trans (x31 (r := a0) (cl := 10) (as := [(2, ((a2 : Nat) : Int)), (0, 8)]) (st' := []) (h := 8) hT rfl sm_228 rfl ha0) ?_
  refine xbd (fun q3 => ?_)
  rw [rv_228]
  change zB P 253 9 [(2, ((a0 : Nat) : Int)), (0, a1), (2, ((a2 : Nat) : Int))] [(0, q3.1)] q3.2 = _
  refine Eq.trans (x16_0 (h := 9) hT rfl) ?_
  refine xit (fun _ => ?_) (fun _ => ?_)
  · refine Eq.trans (x0 (h := 17) hT rfl) ?_
    exact x203c (h := 18) hT rfl (by decide)
  · refine Eq.trans (x1 (h := 10) hT rfl rfl (by decide)) ?_
    refine Eq.trans (x21 (r := a0) (cl := 10) (h := 11) hT rfl ha0) ?_
    refine Eq.trans (x1 (h := 12) hT rfl rfl (by decide)) ?_
    refine Eq.trans (x21 (r := a0) (cl := 10) (h := 13) hT rfl ha0) ?_
    refine Eq.trans (x17_1 (h := 14) hT rfl) ?_
    refine xit (fun _ => ?_) (fun _ => ?_)
    · refine Eq.trans (x0 (h := 17) hT rfl) ?_
      exact x203c (h := 18) hT rfl (by decide)
    · refine Eq.trans (x0 (h := 15) hT rfl) ?_
      refine Eq.trans (x18 (h := 16) hT rfl) ?_
      exact x203c (h := 18) hT rfl (by decide)
/-! WordLinks$Tape.readSheet(LWordLinks$Rows;)Z -/
set_option maxRecDepth 100000 in
theorem e_254 {P : zP} {d : zD P} {a0 : Nat} {a1 : Nat} (ha0 : zkd a0 = 10) (ha1 : zkd a1 = 7) : MM P 254 [(2, ((a0 : Nat) : Int)), (2, ((a1 : Nat) : Int))] d = ((MM P 24 [(2, ((a1 : Nat) : Int))] d).bind fun q1 => zB P 254 4 [(2, ((a0 : Nat) : Int)), (2, ((a1 : Nat) : Int)), (0, 0)] [] q1.2) := by
  have hT := cT_254
  refine Eq.trans (MM_def sm_254 (Nat.le_of_ble_eq_true rfl)) ?_
  change zB P 254 0 [(2, ((a0 : Nat) : Int)), (2, ((a1 : Nat) : Int)), (3, 0)] [] d = _
  refine Eq.trans (x1 (h := 0) hT rfl rfl (by decide)) ?_
  refine Eq.trans (x31 (r := a1) (cl := 7) (as := []) (st' := []) (h := 1) hT rfl sm_24 rfl ha1) ?_
  refine xbd (fun q1 => ?_)
  rw [rv_24]
  change zB P 254 2 [(2, ((a0 : Nat) : Int)), (2, ((a1 : Nat) : Int)), (3, 0)] [] q1.2 = _
  refine Eq.trans (x0 (h := 2) hT rfl) ?_
  refine Eq.trans (x2 (ls' := [(2, ((a0 : Nat) : Int)), (2, ((a1 : Nat) : Int)), (0, 0)]) (h := 3) hT rfl (Nat.le_of_ble_eq_true rfl) rfl) ?_
  exact rfl
set_option maxRecDepth 100000 in
theorem q_254_4 {P : zP} {d : zD P} {a0 : Nat} {a1 : Nat} {a2 : Int} (ha0 : zkd a0 = 10) (ha1 : zkd a1 = 7) : zB P 254 4 [(2, ((a0 : Nat) : Int)), (2, ((a1 : Nat) : Int)), (0, a2)] [] d = (if wr 8 ≤ wr a2 then ((MM P 37 [(2, ((a0 : Nat) : Int)), (0, 4)] d).bind fun q2 => (if q2.1 = 0 ∨ q2.1 = 1 then some (q2.1, q2.2) else none)) else ((MM P 228 [(2, ((a0 : Nat) : Int)), (2, ((a1 : Nat) : Int)), (0, 6)] d).bind fun q3 => (if wr q3.1 ≠ 0 then ((MM P 40 [(2, ((a0 : Nat) : Int))] q3.2).bind fun q4 => (if wr q4.1 = wr 44 then zB P 254 4 [(2, ((a0 : Nat) : Int)), (2, ((a1 : Nat) : Int)), (0, (a2 + 1))] [] ((q4.2.up a0 3 (((q4.2.m a0 3) + 1)))) else some (1, q4.2))) else some (0, q3.2)))) := by
  have hT := cT_254
  refine Eq.trans (x1 (h := 4) hT rfl rfl (by decide)) ?_
  refine Eq.trans (x0 (h := 5) hT rfl) ?_
  refine Eq.trans (x17_3 (h := 6) hT rfl) ?_
  refine xit (fun _ => ?_) (fun _ => ?_)
  · refine Eq.trans (x1 (h := 28) hT rfl rfl (by decide)) ?_
    refine Eq.trans (x0 (h := 29) hT rfl) ?_
    refine Eq.trans (x31 (r := a0) (cl := 10) (as := [(0, 4)]) (st' := []) (h := 30) hT rfl sm_37 rfl ha0) ?_
    refine xbd (fun q2 => ?_)
    rw [rv_37]
    change zB P 254 31 [(2, ((a0 : Nat) : Int)), (2, ((a1 : Nat) : Int)), (0, a2)] [(0, q2.1)] q2.2 = _
    exact x203 (h := 31) hT rfl
  · refine Eq.trans (x1 (h := 7) hT rfl rfl (by decide)) ?_
    refine Eq.trans (x1 (h := 8) hT rfl rfl (by decide)) ?_
    refine Eq.trans (x0 (h := 9) hT rfl) ?_
    refine Eq.trans (x31 (r := a0) (cl := 10) (as := [(2, ((a1 : Nat) : Int)), (0, 6)]) (st' := []) (h := 10) hT rfl sm_228 rfl ha0) ?_
    refine xbd (fun q3 => ?_)
    rw [rv_228]
    change zB P 254 11 [(2, ((a0 : Nat) : Int)), (2, ((a1 : Nat) : Int)), (0, a2)] [(0, q3.1)] q3.2 = _
    refine Eq.trans (x16_1 (h := 11) hT rfl) ?_
    refine xit (fun _ => ?_) (fun _ => ?_)
    · refine Eq.trans (x1 (h := 14) hT rfl rfl (by decide)) ?_
      refine Eq.trans (x31 (r := a0) (cl := 10) (as := []) (st' := []) (h := 15) hT rfl sm_40 rfl ha0) ?_
      refine xbd (fun q4 => ?_)
      rw [rv_40]
      change zB P 254 16 [(2, ((a0 : Nat) : Int)), (2, ((a1 : Nat) : Int)), (0, a2)] [(0, q4.1)] q4.2 = _
      refine Eq.trans (x0 (h := 16) hT rfl) ?_
      refine Eq.trans (x17_0 (h := 17) hT rfl) ?_
      refine xit (fun _ => ?_) (fun _ => ?_)
      · refine Eq.trans (x1 (h := 20) hT rfl rfl (by decide)) ?_
        refine Eq.trans (x13 (h := 21) hT rfl (by decide)) ?_
        refine Eq.trans (x21 (r := a0) (cl := 10) (h := 22) hT rfl ha0) ?_
        refine Eq.trans (x0 (h := 23) hT rfl) ?_
        refine Eq.trans (x5_0 (h := 24) hT rfl) ?_
        refine Eq.trans (x22 (r := a0) (cl := 10) (h := 25) hT rfl ha0 (by decide) rfl (by decide)) ?_
        refine Eq.trans (x4 (ls' := [(2, ((a0 : Nat) : Int)), (2, ((a1 : Nat) : Int)), (0, (a2 + 1))]) (h := 26) hT rfl rfl rfl) ?_
        refine Eq.trans (x18 (h := 27) hT rfl) ?_
        exact rfl
      · refine Eq.trans (x0 (h := 18) hT rfl) ?_
        exact x203c (h := 19) hT rfl (by decide)
    · refine Eq.trans (x0 (h := 12) hT rfl) ?_
      exact x203c (h := 13) hT rfl (by decide)
/-! WordLinks.allTwins()I -/
set_option maxRecDepth 100000 in
theorem e_255 {P : zP} {d : zD P} {a0 : Nat} (ha0 : zkd a0 = 11) : MM P 255 [(2, ((a0 : Nat) : Int))] d = zB P 255 4 [(2, ((a0 : Nat) : Int)), (0, 0), (0, 0)] [] d := by
  have hT := cT_255
  refine Eq.trans (MM_def sm_255 (Nat.le_of_ble_eq_true rfl)) ?_
  change zB P 255 0 [(2, ((a0 : Nat) : Int)), (3, 0), (3, 0)] [] d = _
  refine Eq.trans (x0 (h := 0) hT rfl) ?_
  refine Eq.trans (x2 (ls' := [(2, ((a0 : Nat) : Int)), (0, 0), (3, 0)]) (h := 1) hT rfl (Nat.le_of_ble_eq_true rfl) rfl) ?_
  refine Eq.trans (x0 (h := 2) hT rfl) ?_
  refine Eq.trans (x2 (ls' := [(2, ((a0 : Nat) : Int)), (0, 0), (0, 0)]) (h := 3) hT rfl (Nat.le_of_ble_eq_true rfl) rfl) ?_
  exact rfl
set_option maxRecDepth 100000 in
theorem q_255_4 {P : zP} {d : zD P} {a0 : Nat} {a1 : Int} {a2 : Int} (ha0 : zkd a0 = 11) : zB P 255 4 [(2, ((a0 : Nat) : Int)), (0, a1), (0, a2)] [] d = (if zin 0 2 then (if wr ((d.m ((((a0 + 3) + 1) + 1)) (zix 0))) ≤ wr a2 then some (a1, d) else ((MM P 226 [(2, (((a0 + 3) : Nat) : Int)), (0, a2)] d).bind fun q2 => (if wr q2.1 < 0 then zB P 255 4 [(2, ((a0 : Nat) : Int)), (0, a1), (0, (a2 + 1))] [] q2.2 else zB P 255 4 [(2, ((a0 : Nat) : Int)), (0, (a1 + 1)), (0, (a2 + 1))] [] q2.2))) else none) := by
  have hT := cT_255
  refine Eq.trans (x1 (h := 4) hT rfl rfl (by decide)) ?_
  refine Eq.trans (x1 (h := 5) hT rfl rfl (by decide)) ?_
  refine Eq.trans (x21r (r := a0) (cl := 11) (o := 3) (h := 6) hT rfl ha0 (by decide) rfl) ?_
  refine Eq.trans (x21r (r := (a0 + 3)) (cl := 9) (o := 1) (h := 7) hT rfl (kd_11_1 ha0) (by decide) rfl) ?_
  refine Eq.trans (x21r (r := ((a0 + 3) + 1)) (cl := 0) (o := 1) (h := 8) hT rfl (kd_9_0 (kd_11_1 ha0)) (by decide) rfl) ?_
  refine Eq.trans (x0 (h := 9) hT rfl) ?_
  refine Eq.trans (x24 (r := (((a0 + 3) + 1) + 1)) (n := 2) (h := 10) hT rfl (Or.inl (kd_0_0 (kd_9_0 (kd_11_1 ha0)))) (ln_0_0 (kd_9_0 (kd_11_1 ha0)))) ?_
  refine xig (fun hz1 => ?_)
  refine Eq.trans (x17_3 (h := 11) hT rfl) ?_
  refine xit (fun _ => ?_) (fun _ => ?_)
  · refine Eq.trans (x1 (h := 20) hT rfl rfl (by decide)) ?_
    exact x201 (h := 21) hT rfl
  · refine Eq.trans (x1 (h := 12) hT rfl rfl (by decide)) ?_
    refine Eq.trans (x21r (r := a0) (cl := 11) (o := 3) (h := 13) hT rfl ha0 (by decide) rfl) ?_
    refine Eq.trans (x1 (h := 14) hT rfl rfl (by decide)) ?_
    refine Eq.trans (x31 (r := (a0 + 3)) (cl := 9) (as := [(0, a2)]) (st' := []) (h := 15) hT rfl sm_226 rfl (kd_11_1 ha0)) ?_
    refine xbd (fun q2 => ?_)
    rw [rv_226]
    change zB P 255 16 [(2, ((a0 : Nat) : Int)), (0, a1), (0, a2)] [(0, q2.1)] q2.2 = _
    refine Eq.trans (x16_2 (h := 16) hT rfl) ?_
    refine xit (fun _ => ?_) (fun _ => ?_)
    · refine Eq.trans (x4 (ls' := [(2, ((a0 : Nat) : Int)), (0, a1), (0, (a2 + 1))]) (h := 18) hT rfl rfl rfl) ?_
      refine Eq.trans (x18 (h := 19) hT rfl) ?_
      exact rfl
    · refine Eq.trans (x4 (ls' := [(2, ((a0 : Nat) : Int)), (0, (a1 + 1)), (0, a2)]) (h := 17) hT rfl rfl rfl) ?_
      refine Eq.trans (x4 (ls' := [(2, ((a0 : Nat) : Int)), (0, (a1 + 1)), (0, (a2 + 1))]) (h := 18) hT rfl rfl rfl) ?_
      refine Eq.trans (x18 (h := 19) hT rfl) ?_
      exact rfl
/-! WordLinks.find(II)I -/
set_option maxRecDepth 100000 in
theorem e_256 {P : zP} {d : zD P} {a0 : Nat} {a1 : Int} {a2 : Int} (ha0 : zkd a0 = 11) : MM P 256 [(2, ((a0 : Nat) : Int)), (0, a1), (0, a2)] d = ((MM P 45 [(0, a1)] d).bind fun q1 => (if wr q1.1 = 0 then some ((-1), q1.2) else (if wr a2 < wr 1 then some ((-1), q1.2) else (if wr 7 < wr a2 then some ((-1), q1.2) else ((MM P 41 [(2, (((a0 + 1) : Nat) : Int)), (0, a2)] q1.2).bind fun q2 => (if wr q2.1 ≠ 0 then ((MM P 227 [(2, (((a0 + 1) : Nat) : Int)), (0, a2)] q2.2).bind fun q3 => ((MM P 36 [(2, (((a0 + 1) : Nat) : Int))] q3.2).bind fun q4 => (if zin a1 2 then ((MM P 3 [(2, ((((a0 + 3) + 1) : Nat) : Int)), (0, a1), (1, q3.1), (0, (q4.2.m ((((a0 + 3) + 1) + 1)) (zix a1)))] q4.2).bind fun q6 => (if 0 ≤ wr q6.1 then some (q6.1, q6.2) else some ((-2), q6.2))) else none))) else some ((-1), q2.2))))))) := by
  have hT := cT_256
  refine Eq.trans (MM_def sm_256 (Nat.le_of_ble_eq_true rfl)) ?_
  change zB P 256 0 [(2, ((a0 : Nat) : Int)), (0, a1), (0, a2), (3, 0), (3, 0), (3, 0)] [] d = _
  refine Eq.trans (x1 (h := 0) hT rfl rfl (by decide)) ?_
  refine Eq.trans (x34 (as := [(0, a1)]) (st' := []) (h := 1) hT rfl sm_45 rfl) ?_
  refine xbd (fun q1 => ?_)
  rw [rv_45]
  change zB P 256 2 [(2, ((a0 : Nat) : Int)), (0, a1), (0, a2), (3, 0), (3, 0), (3, 0)] [(0, q1.1)] q1.2 = _
  refine Eq.trans (x16_0 (h := 2) hT rfl) ?_
  refine xit (fun _ => ?_) (fun _ => ?_)
  · refine Eq.trans (x0 (h := 14) hT rfl) ?_
    exact x201 (h := 15) hT rfl
  · refine Eq.trans (x1 (h := 3) hT rfl rfl (by decide)) ?_
    refine Eq.trans (x0 (h := 4) hT rfl) ?_
    refine Eq.trans (x17_2 (h := 5) hT rfl) ?_
    refine xit (fun _ => ?_) (fun _ => ?_)
    · refine Eq.trans (x0 (h := 14) hT rfl) ?_
      exact x201 (h := 15) hT rfl
    · refine Eq.trans (x1 (h := 6) hT rfl rfl (by decide)) ?_
      refine Eq.trans (x0 (h := 7) hT rfl) ?_
      refine Eq.trans (x17_4 (h := 8) hT rfl) ?_
      refine xit (fun _ => ?_) (fun _ => ?_)
      · refine Eq.trans (x0 (h := 14) hT rfl) ?_
        exact x201 (h := 15) hT rfl
      · refine Eq.trans (x1 (h := 9) hT rfl rfl (by decide)) ?_
        refine Eq.trans (x21r (r := a0) (cl := 11) (o := 1) (h := 10) hT rfl ha0 (by decide) rfl) ?_
        refine Eq.trans (x1 (h := 11) hT rfl rfl (by decide)) ?_
        refine Eq.trans (x31 (r := (a0 + 1)) (cl := 10) (as := [(0, a2)]) (st' := []) (h := 12) hT rfl sm_41 rfl (kd_11_0 ha0)) ?_
        refine xbd (fun q2 => ?_)
        rw [rv_41]
        change zB P 256 13 [(2, ((a0 : Nat) : Int)), (0, a1), (0, a2), (3, 0), (3, 0), (3, 0)] [(0, q2.1)] q2.2 = _
        refine Eq.trans (x16_1 (h := 13) hT rfl) ?_
        refine xit (fun _ => ?_) (fun _ => ?_)
        · refine Eq.trans (x1 (h := 16) hT rfl rfl (by decide)) ?_
          refine Eq.trans (x21r (r := a0) (cl := 11) (o := 1) (h := 17) hT rfl ha0 (by decide) rfl) ?_
          refine Eq.trans (x1 (h := 18) hT rfl rfl (by decide)) ?_
          refine Eq.trans (x31 (r := (a0 + 1)) (cl := 10) (as := [(0, a2)]) (st' := []) (h := 19) hT rfl sm_227 rfl (kd_11_0 ha0)) ?_
          refine xbd (fun q3 => ?_)
          rw [rv_227]
          change zB P 256 20 [(2, ((a0 : Nat) : Int)), (0, a1), (0, a2), (3, 0), (3, 0), (3, 0)] [(1, q3.1)] q3.2 = _
          refine Eq.trans (x3 (ls' := [(2, ((a0 : Nat) : Int)), (0, a1), (0, a2), (1, q3.1), (3, 0), (3, 0)]) (h := 20) hT rfl (Nat.le_of_ble_eq_true rfl) rfl) ?_
          refine Eq.trans (x1 (h := 21) hT rfl rfl (by decide)) ?_
          refine Eq.trans (x21r (r := a0) (cl := 11) (o := 1) (h := 22) hT rfl ha0 (by decide) rfl) ?_
          refine Eq.trans (x31 (r := (a0 + 1)) (cl := 10) (as := []) (st' := []) (h := 23) hT rfl sm_36 rfl (kd_11_0 ha0)) ?_
          refine xbd (fun q4 => ?_)
          rw [rv_36]
          change zB P 256 24 [(2, ((a0 : Nat) : Int)), (0, a1), (0, a2), (1, q3.1), (3, 0), (3, 0)] [] q4.2 = _
          refine Eq.trans (x1 (h := 24) hT rfl rfl (by decide)) ?_
          refine Eq.trans (x21r (r := a0) (cl := 11) (o := 3) (h := 25) hT rfl ha0 (by decide) rfl) ?_
          refine Eq.trans (x21r (r := (a0 + 3)) (cl := 9) (o := 1) (h := 26) hT rfl (kd_11_1 ha0) (by decide) rfl) ?_
          refine Eq.trans (x1 (h := 27) hT rfl rfl (by decide)) ?_
          refine Eq.trans (x1 (h := 28) hT rfl rfl (by decide)) ?_
          refine Eq.trans (x1 (h := 29) hT rfl rfl (by decide)) ?_
          refine Eq.trans (x21r (r := a0) (cl := 11) (o := 3) (h := 30) hT rfl ha0 (by decide) rfl) ?_
          refine Eq.trans (x21r (r := (a0 + 3)) (cl := 9) (o := 1) (h := 31) hT rfl (kd_11_1 ha0) (by decide) rfl) ?_
          refine Eq.trans (x21r (r := ((a0 + 3) + 1)) (cl := 0) (o := 1) (h := 32) hT rfl (kd_9_0 (kd_11_1 ha0)) (by decide) rfl) ?_
          refine Eq.trans (x1 (h := 33) hT rfl rfl (by decide)) ?_
          refine Eq.trans (x24 (r := (((a0 + 3) + 1) + 1)) (n := 2) (h := 34) hT rfl (Or.inl (kd_0_0 (kd_9_0 (kd_11_1 ha0)))) (ln_0_0 (kd_9_0 (kd_11_1 ha0)))) ?_
          refine xig (fun hz5 => ?_)
          refine Eq.trans (x31 (r := ((a0 + 3) + 1)) (cl := 0) (as := [(0, a1), (1, q3.1), (0, (q4.2.m ((((a0 + 3) + 1) + 1)) (zix a1)))]) (st' := []) (h := 35) hT rfl sm_3 rfl (kd_9_0 (kd_11_1 ha0))) ?_
          refine xbd (fun q6 => ?_)
          rw [rv_3]
          change zB P 256 36 [(2, ((a0 : Nat) : Int)), (0, a1), (0, a2), (1, q3.1), (3, 0), (3, 0)] [(0, q6.1)] q6.2 = _
          refine Eq.trans (x2 (ls' := [(2, ((a0 : Nat) : Int)), (0, a1), (0, a2), (1, q3.1), (3, 0), (0, q6.1)]) (h := 36) hT rfl (Nat.le_of_ble_eq_true rfl) rfl) ?_
          refine Eq.trans (x1 (h := 37) hT rfl rfl (by decide)) ?_
          refine Eq.trans (x16_3 (h := 38) hT rfl) ?_
          refine xit (fun _ => ?_) (fun _ => ?_)
          · refine Eq.trans (x1 (h := 41) hT rfl rfl (by decide)) ?_
            exact x201 (h := 42) hT rfl
          · refine Eq.trans (x0 (h := 39) hT rfl) ?_
            refine Eq.trans (x18 (h := 40) hT rfl) ?_
            exact x201 (h := 42) hT rfl
        · refine Eq.trans (x0 (h := 14) hT rfl) ?_
          exact x201 (h := 15) hT rfl
/-! WordLinks.isRightLink(II)Z -/
set_option maxRecDepth 100000 in
theorem e_257 {P : zP} {d : zD P} {a0 : Nat} {a1 : Int} {a2 : Int} (ha0 : zkd a0 = 11) : MM P 257 [(2, ((a0 : Nat) : Int)), (0, a1), (0, a2)] d = ((MM P 125 [(2, ((a0 : Nat) : Int)), (0, 0), (0, 1), (0, a1)] d).bind fun q1 => (if wr q1.1 ≠ 0 then ((MM P 215 [(2, (((a0 + 105) : Nat) : Int)), (2, (((a0 + 3) : Nat) : Int)), (0, 0), (0, 0), (0, a1)] q1.2).bind fun q2 => (if wr q2.1 ≠ wr ((-1)) then (if wr a2 ≠ wr q2.1 then some (0, q2.2) else some (1, q2.2)) else (if wr a2 ≠ wr 255 then some (0, q2.2) else some (1, q2.2)))) else some (0, q1.2))) := by
  have hT := cT_257
  refine Eq.trans (MM_def sm_257 (Nat.le_of_ble_eq_true rfl)) ?_
  change zB P 257 0 [(2, ((a0 : Nat) : Int)), (0, a1), (0, a2), (3, 0)] [] d = _
  refine Eq.trans (x1 (h := 0) hT rfl rfl (by decide)) ?_
  refine Eq.trans (x0 (h := 1) hT rfl) ?_
  refine Eq.trans (x0 (h := 2) hT rfl) ?_
  refine Eq.trans (x1 (h := 3) hT rfl rfl (by decide)) ?_
  refine Eq.trans (x31 (r := a0) (cl := 11) (as := [(0, 0), (0, 1), (0, a1)]) (st' := []) (h := 4) hT rfl sm_125 rfl ha0) ?_
  refine xbd (fun q1 => ?_)
  rw [rv_125]
  change zB P 257 5 [(2, ((a0 : Nat) : Int)), (0, a1), (0, a2), (3, 0)] [(0, q1.1)] q1.2 = _
  refine Eq.trans (x16_1 (h := 5) hT rfl) ?_
  refine xit (fun _ => ?_) (fun _ => ?_)
  · refine Eq.trans (x1 (h := 8) hT rfl rfl (by decide)) ?_
    refine Eq.trans (x21r (r := a0) (cl := 11) (o := 105) (h := 9) hT rfl ha0 (by decide) rfl) ?_
    refine Eq.trans (x1 (h := 10) hT rfl rfl (by decide)) ?_
    refine Eq.trans (x21r (r := a0) (cl := 11) (o := 3) (h := 11) hT rfl ha0 (by decide) rfl) ?_
    refine Eq.trans (x0 (h := 12) hT rfl) ?_
    refine Eq.trans (x0 (h := 13) hT rfl) ?_
    refine Eq.trans (x1 (h := 14) hT rfl rfl (by decide)) ?_
    refine Eq.trans (x31 (r := (a0 + 105)) (cl := 1) (as := [(2, (((a0 + 3) : Nat) : Int)), (0, 0), (0, 0), (0, a1)]) (st' := []) (h := 15) hT rfl sm_215 rfl (kd_11_8 ha0)) ?_
    refine xbd (fun q2 => ?_)
    rw [rv_215]
    change zB P 257 16 [(2, ((a0 : Nat) : Int)), (0, a1), (0, a2), (3, 0)] [(0, q2.1)] q2.2 = _
    refine Eq.trans (x2 (ls' := [(2, ((a0 : Nat) : Int)), (0, a1), (0, a2), (0, q2.1)]) (h := 16) hT rfl (Nat.le_of_ble_eq_true rfl) rfl) ?_
    refine Eq.trans (x1 (h := 17) hT rfl rfl (by decide)) ?_
    refine Eq.trans (x1 (h := 18) hT rfl rfl (by decide)) ?_
    refine Eq.trans (x0 (h := 19) hT rfl) ?_
    refine Eq.trans (x17_1 (h := 20) hT rfl) ?_
    refine xit (fun _ => ?_) (fun _ => ?_)
    · refine Eq.trans (x1 (h := 23) hT rfl rfl (by decide)) ?_
      refine Eq.trans (x17_1 (h := 24) hT rfl) ?_
      refine xit (fun _ => ?_) (fun _ => ?_)
      · refine Eq.trans (x0 (h := 27) hT rfl) ?_
        exact x203c (h := 28) hT rfl (by decide)
      · refine Eq.trans (x0 (h := 25) hT rfl) ?_
        refine Eq.trans (x18 (h := 26) hT rfl) ?_
        exact x203c (h := 28) hT rfl (by decide)
    · refine Eq.trans (x0 (h := 21) hT rfl) ?_
      refine Eq.trans (x18 (h := 22) hT rfl) ?_
      refine Eq.trans (x17_1 (h := 24) hT rfl) ?_
      refine xit (fun _ => ?_) (fun _ => ?_)
      · refine Eq.trans (x0 (h := 27) hT rfl) ?_
        exact x203c (h := 28) hT rfl (by decide)
      · refine Eq.trans (x0 (h := 25) hT rfl) ?_
        refine Eq.trans (x18 (h := 26) hT rfl) ?_
        exact x203c (h := 28) hT rfl (by decide)
  · refine Eq.trans (x0 (h := 6) hT rfl) ?_
    exact x203c (h := 7) hT rfl (by decide)
/-! WordLinks.keep()I -/
set_option maxRecDepth 100000 in
theorem e_258 {P : zP} {d : zD P} {a0 : Nat} (ha0 : zkd a0 = 11) : MM P 258 [(2, ((a0 : Nat) : Int))] d = ((MM P 225 [(2, (((a0 + 31) : Nat) : Int)), (2, (((a0 + 3) : Nat) : Int))] d).bind fun q1 => some ((((q1.2.up a0 12 1)).m (((a0 + 3) + 1)) 6), (q1.2.up a0 12 1))) := by
  have hT := cT_258
  refine Eq.trans (MM_def sm_258 (Nat.le_of_ble_eq_true rfl)) ?_
  change zB P 258 0 [(2, ((a0 : Nat) : Int))] [] d = _
  refine Eq.trans (x1 (h := 0) hT rfl rfl (by decide)) ?_
  refine Eq.trans (x21r (r := a0) (cl := 11) (o := 31) (h := 1) hT rfl ha0 (by decide) rfl) ?_
  refine Eq.trans (x1 (h := 2) hT rfl rfl (by decide)) ?_
  refine Eq.trans (x21r (r := a0) (cl := 11) (o := 3) (h := 3) hT rfl ha0 (by decide) rfl) ?_
  refine Eq.trans (x31 (r := (a0 + 31)) (cl := 9) (as := [(2, (((a0 + 3) : Nat) : Int))]) (st' := []) (h := 4) hT rfl sm_225 rfl (kd_11_2 ha0)) ?_
  refine xbd (fun q1 => ?_)
  rw [rv_225]
  change zB P 258 5 [(2, ((a0 : Nat) : Int))] [] q1.2 = _
  refine Eq.trans (x1 (h := 5) hT rfl rfl (by decide)) ?_
  refine Eq.trans (x0 (h := 6) hT rfl) ?_
  refine Eq.trans (x22b (r := a0) (cl := 11) (h := 7) hT rfl ha0 (by decide) rfl) ?_
  refine Eq.trans (if_pos (by decide)) ?_
  refine Eq.trans (x1 (h := 8) hT rfl rfl (by decide)) ?_
  refine Eq.trans (x21r (r := a0) (cl := 11) (o := 3) (h := 9) hT rfl ha0 (by decide) rfl) ?_
  refine Eq.trans (x21r (r := (a0 + 3)) (cl := 9) (o := 1) (h := 10) hT rfl (kd_11_1 ha0) (by decide) rfl) ?_
  refine Eq.trans (x21 (r := ((a0 + 3) + 1)) (cl := 0) (h := 11) hT rfl (kd_9_0 (kd_11_1 ha0))) ?_
  exact x201 (h := 12) hT rfl
/-! WordLinks.part(IIII)I -/
set_option maxRecDepth 100000 in
theorem e_259 {P : zP} {d : zD P} {a0 : Nat} {a1 : Int} {a2 : Int} {a3 : Int} {a4 : Int} (ha0 : zkd a0 = 11) : MM P 259 [(2, ((a0 : Nat) : Int)), (0, a1), (0, a2), (0, a3), (0, a4)] d = ((MM P 45 [(0, a1)] d).bind fun q1 => (if wr q1.1 = 0 then some ((-1), q1.2) else ((MM P 125 [(2, ((a0 : Nat) : Int)), (0, a2), (0, a1), (0, a3)] q1.2).bind fun q2 => (if wr q2.1 = 0 then some ((-1), q2.2) else ((MM P 125 [(2, ((a0 : Nat) : Int)), (0, a2), (0, (1 - a1)), (0, a4)] q2.2).bind fun q3 => (if wr q3.1 ≠ 0 then ((MM P 222 [(2, (((a0 + 98) : Nat) : Int)), (2, (((a0 + 3) : Nat) : Int)), (0, a1), (0, a2), (0, a4)] q3.2).bind fun q4 => ((MM P 16 [(2, ((((a0 + 98) + 1) : Nat) : Int)), (0, a3)] q4.2).bind fun q5 => some (q5.1, q5.2))) else some ((-1), q3.2))))))) := by
  have hT := cT_259
  refine Eq.trans (MM_def sm_259 (Nat.le_of_ble_eq_true rfl)) ?_
  change zB P 259 0 [(2, ((a0 : Nat) : Int)), (0, a1), (0, a2), (0, a3), (0, a4)] [] d = _
  refine Eq.trans (x1 (h := 0) hT rfl rfl (by decide)) ?_
  refine Eq.trans (x34 (as := [(0, a1)]) (st' := []) (h := 1) hT rfl sm_45 rfl) ?_
  refine xbd (fun q1 => ?_)
  rw [rv_45]
  change zB P 259 2 [(2, ((a0 : Nat) : Int)), (0, a1), (0, a2), (0, a3), (0, a4)] [(0, q1.1)] q1.2 = _
  refine Eq.trans (x16_0 (h := 2) hT rfl) ?_
  refine xit (fun _ => ?_) (fun _ => ?_)
  · refine Eq.trans (x0 (h := 17) hT rfl) ?_
    exact x201 (h := 18) hT rfl
  · refine Eq.trans (x1 (h := 3) hT rfl rfl (by decide)) ?_
    refine Eq.trans (x1 (h := 4) hT rfl rfl (by decide)) ?_
    refine Eq.trans (x1 (h := 5) hT rfl rfl (by decide)) ?_
    refine Eq.trans (x1 (h := 6) hT rfl rfl (by decide)) ?_
    refine Eq.trans (x31 (r := a0) (cl := 11) (as := [(0, a2), (0, a1), (0, a3)]) (st' := []) (h := 7) hT rfl sm_125 rfl ha0) ?_
    refine xbd (fun q2 => ?_)
    rw [rv_125]
    change zB P 259 8 [(2, ((a0 : Nat) : Int)), (0, a1), (0, a2), (0, a3), (0, a4)] [(0, q2.1)] q2.2 = _
    refine Eq.trans (x16_0 (h := 8) hT rfl) ?_
    refine xit (fun _ => ?_) (fun _ => ?_)
    · refine Eq.trans (x0 (h := 17) hT rfl) ?_
      exact x201 (h := 18) hT rfl
    · refine Eq.trans (x1 (h := 9) hT rfl rfl (by decide)) ?_
      refine Eq.trans (x1 (h := 10) hT rfl rfl (by decide)) ?_
      refine Eq.trans (x0 (h := 11) hT rfl) ?_
      refine Eq.trans (x1 (h := 12) hT rfl rfl (by decide)) ?_
      refine Eq.trans (x5_1 (h := 13) hT rfl) ?_
      refine Eq.trans (x1 (h := 14) hT rfl rfl (by decide)) ?_
      refine Eq.trans (x31 (r := a0) (cl := 11) (as := [(0, a2), (0, (1 - a1)), (0, a4)]) (st' := []) (h := 15) hT rfl sm_125 rfl ha0) ?_
      refine xbd (fun q3 => ?_)
      rw [rv_125]
      change zB P 259 16 [(2, ((a0 : Nat) : Int)), (0, a1), (0, a2), (0, a3), (0, a4)] [(0, q3.1)] q3.2 = _
      refine Eq.trans (x16_1 (h := 16) hT rfl) ?_
      refine xit (fun _ => ?_) (fun _ => ?_)
      · refine Eq.trans (x1 (h := 19) hT rfl rfl (by decide)) ?_
        refine Eq.trans (x21r (r := a0) (cl := 11) (o := 98) (h := 20) hT rfl ha0 (by decide) rfl) ?_
        refine Eq.trans (x1 (h := 21) hT rfl rfl (by decide)) ?_
        refine Eq.trans (x21r (r := a0) (cl := 11) (o := 3) (h := 22) hT rfl ha0 (by decide) rfl) ?_
        refine Eq.trans (x1 (h := 23) hT rfl rfl (by decide)) ?_
        refine Eq.trans (x1 (h := 24) hT rfl rfl (by decide)) ?_
        refine Eq.trans (x1 (h := 25) hT rfl rfl (by decide)) ?_
        refine Eq.trans (x31 (r := (a0 + 98)) (cl := 6) (as := [(2, (((a0 + 3) : Nat) : Int)), (0, a1), (0, a2), (0, a4)]) (st' := []) (h := 26) hT rfl sm_222 rfl (kd_11_7 ha0)) ?_
        refine xbd (fun q4 => ?_)
        rw [rv_222]
        change zB P 259 27 [(2, ((a0 : Nat) : Int)), (0, a1), (0, a2), (0, a3), (0, a4)] [] q4.2 = _
        refine Eq.trans (x1 (h := 27) hT rfl rfl (by decide)) ?_
        refine Eq.trans (x21r (r := a0) (cl := 11) (o := 98) (h := 28) hT rfl ha0 (by decide) rfl) ?_
        refine Eq.trans (x21r (r := (a0 + 98)) (cl := 6) (o := 1) (h := 29) hT rfl (kd_11_7 ha0) (by decide) rfl) ?_
        refine Eq.trans (x1 (h := 30) hT rfl rfl (by decide)) ?_
        refine Eq.trans (x31 (r := ((a0 + 98) + 1)) (cl := 3) (as := [(0, a3)]) (st' := []) (h := 31) hT rfl sm_16 rfl (kd_6_0 (kd_11_7 ha0))) ?_
        refine xbd (fun q5 => ?_)
        rw [rv_16]
        change zB P 259 32 [(2, ((a0 : Nat) : Int)), (0, a1), (0, a2), (0, a3), (0, a4)] [(0, q5.1)] q5.2 = _
        exact x201 (h := 32) hT rfl
      · refine Eq.trans (x0 (h := 17) hT rfl) ?_
        exact x201 (h := 18) hT rfl
/-! WordLinks.undo()Z -/
set_option maxRecDepth 100000 in
theorem e_260 {P : zP} {d : zD P} {a0 : Nat} (ha0 : zkd a0 = 11) : MM P 260 [(2, ((a0 : Nat) : Int))] d = (if wr ((d.m a0 12)) ≠ 0 then ((MM P 225 [(2, (((a0 + 3) : Nat) : Int)), (2, (((a0 + 31) : Nat) : Int))] d).bind fun q1 => some (1, q1.2)) else some (0, d)) := by
  have hT := cT_260
  refine Eq.trans (MM_def sm_260 (Nat.le_of_ble_eq_true rfl)) ?_
  change zB P 260 0 [(2, ((a0 : Nat) : Int))] [] d = _
  refine Eq.trans (x1 (h := 0) hT rfl rfl (by decide)) ?_
  refine Eq.trans (x21 (r := a0) (cl := 11) (h := 1) hT rfl ha0) ?_
  refine Eq.trans (x16_1 (h := 2) hT rfl) ?_
  refine xit (fun _ => ?_) (fun _ => ?_)
  · refine Eq.trans (x1 (h := 5) hT rfl rfl (by decide)) ?_
    refine Eq.trans (x21r (r := a0) (cl := 11) (o := 3) (h := 6) hT rfl ha0 (by decide) rfl) ?_
    refine Eq.trans (x1 (h := 7) hT rfl rfl (by decide)) ?_
    refine Eq.trans (x21r (r := a0) (cl := 11) (o := 31) (h := 8) hT rfl ha0 (by decide) rfl) ?_
    refine Eq.trans (x31 (r := (a0 + 3)) (cl := 9) (as := [(2, (((a0 + 31) : Nat) : Int))]) (st' := []) (h := 9) hT rfl sm_225 rfl (kd_11_1 ha0)) ?_
    refine xbd (fun q1 => ?_)
    rw [rv_225]
    change zB P 260 10 [(2, ((a0 : Nat) : Int))] [] q1.2 = _
    refine Eq.trans (x0 (h := 10) hT rfl) ?_
    exact x203c (h := 11) hT rfl (by decide)
  · refine Eq.trans (x0 (h := 3) hT rfl) ?_
    exact x203c (h := 4) hT rfl (by decide)
/-! WordLinksModel.counts(I)V -/
set_option maxRecDepth 100000 in
theorem e_261 {P : zP} {d : zD P} {a0 : Nat} {a1 : Int} (ha0 : zkd a0 = 12) : MM P 261 [(2, ((a0 : Nat) : Int)), (0, a1)] d = zB P 261 2 [(2, ((a0 : Nat) : Int)), (0, a1), (0, 0), (3, 0), (3, 0), (3, 0), (3, 0)] [] d := by
  have hT := cT_261
  refine Eq.trans (MM_def sm_261 (Nat.le_of_ble_eq_true rfl)) ?_
  change zB P 261 0 [(2, ((a0 : Nat) : Int)), (0, a1), (3, 0), (3, 0), (3, 0), (3, 0), (3, 0)] [] d = _
  refine Eq.trans (x0 (h := 0) hT rfl) ?_
  refine Eq.trans (x2 (ls' := [(2, ((a0 : Nat) : Int)), (0, a1), (0, 0), (3, 0), (3, 0), (3, 0), (3, 0)]) (h := 1) hT rfl (Nat.le_of_ble_eq_true rfl) rfl) ?_
  exact rfl
set_option maxRecDepth 100000 in
theorem q_261_2 {P : zP} {d : zD P} {a0 : Nat} {a1 : Int} {a2 : Int} {g3 : zV} {g4 : zV} {g5 : zV} {g6 : zV} (ha0 : zkd a0 = 12) : zB P 261 2 [(2, ((a0 : Nat) : Int)), (0, a1), (0, a2), g3, g4, g5, g6] [] d = (if wr 1600 ≤ wr a2 then zB P 261 14 [(2, ((a0 : Nat) : Int)), (0, a1), (0, 0), g3, g4, g5, g6] [] d else (if zin a2 1600 then zB P 261 2 [(2, ((a0 : Nat) : Int)), (0, a1), (0, (a2 + 1)), g3, g4, g5, g6] [] ((d.up ((a0 + 15)) (zix a2) 0)) else none)) := by
  have hT := cT_261
  refine Eq.trans (x1 (h := 2) hT rfl rfl (by decide)) ?_
  refine Eq.trans (x0 (h := 3) hT rfl) ?_
  refine Eq.trans (x17_3 (h := 4) hT rfl) ?_
  refine xit (fun _ => ?_) (fun _ => ?_)
  · refine Eq.trans (x0 (h := 12) hT rfl) ?_
    refine Eq.trans (x2 (ls' := [(2, ((a0 : Nat) : Int)), (0, a1), (0, 0), g3, g4, g5, g6]) (h := 13) hT rfl (Nat.le_of_ble_eq_true rfl) rfl) ?_
    exact rfl
  · refine Eq.trans (x1 (h := 5) hT rfl rfl (by decide)) ?_
    refine Eq.trans (x21r (r := a0) (cl := 12) (o := 15) (h := 6) hT rfl ha0 (by decide) rfl) ?_
    refine Eq.trans (x1 (h := 7) hT rfl rfl (by decide)) ?_
    refine Eq.trans (x0 (h := 8) hT rfl) ?_
    refine Eq.trans (x25a (r := (a0 + 15)) (n := 1600) (h := 9) hT rfl (kd_12_22 ha0) (ln_12_22 ha0) (by decide) rfl) ?_
    refine xig (fun hz1 => ?_)
    refine Eq.trans (x4 (ls' := [(2, ((a0 : Nat) : Int)), (0, a1), (0, (a2 + 1)), g3, g4, g5, g6]) (h := 10) hT rfl rfl rfl) ?_
    refine Eq.trans (x18 (h := 11) hT rfl) ?_
    exact rfl
set_option maxRecDepth 100000 in
theorem q_261_14 {P : zP} {d : zD P} {a0 : Nat} {a1 : Int} {a2 : Int} {g3 : zV} {g4 : zV} {g5 : zV} {g6 : zV} (ha0 : zkd a0 = 12) : zB P 261 14 [(2, ((a0 : Nat) : Int)), (0, a1), (0, a2), g3, g4, g5, g6] [] d = (if wr 8 ≤ wr a2 then zB P 261 26 [(2, ((a0 : Nat) : Int)), (0, a1), (0, 0), g3, g4, g5, g6] [] d else (if zin a2 8 then zB P 261 14 [(2, ((a0 : Nat) : Int)), (0, a1), (0, (a2 + 1)), g3, g4, g5, g6] [] ((d.up ((a0 + 16)) (zix a2) 0)) else none)) := by
  have hT := cT_261
  refine Eq.trans (x1 (h := 14) hT rfl rfl (by decide)) ?_
  refine Eq.trans (x0 (h := 15) hT rfl) ?_
  refine Eq.trans (x17_3 (h := 16) hT rfl) ?_
  refine xit (fun _ => ?_) (fun _ => ?_)
  · refine Eq.trans (x0 (h := 24) hT rfl) ?_
    refine Eq.trans (x2 (ls' := [(2, ((a0 : Nat) : Int)), (0, a1), (0, 0), g3, g4, g5, g6]) (h := 25) hT rfl (Nat.le_of_ble_eq_true rfl) rfl) ?_
    exact rfl
  · refine Eq.trans (x1 (h := 17) hT rfl rfl (by decide)) ?_
    refine Eq.trans (x21r (r := a0) (cl := 12) (o := 16) (h := 18) hT rfl ha0 (by decide) rfl) ?_
    refine Eq.trans (x1 (h := 19) hT rfl rfl (by decide)) ?_
    refine Eq.trans (x0 (h := 20) hT rfl) ?_
    refine Eq.trans (x25a (r := (a0 + 16)) (n := 8) (h := 21) hT rfl (kd_12_23 ha0) (ln_12_23 ha0) (by decide) rfl) ?_
    refine xig (fun hz2 => ?_)
    refine Eq.trans (x4 (ls' := [(2, ((a0 : Nat) : Int)), (0, a1), (0, (a2 + 1)), g3, g4, g5, g6]) (h := 22) hT rfl rfl rfl) ?_
    refine Eq.trans (x18 (h := 23) hT rfl) ?_
    exact rfl
set_option maxRecDepth 100000 in
theorem q_261_26 {P : zP} {d : zD P} {a0 : Nat} {a1 : Int} {a2 : Int} {g3 : zV} {g4 : zV} {g5 : zV} {g6 : zV} (ha0 : zkd a0 = 12) : zB P 261 26 [(2, ((a0 : Nat) : Int)), (0, a1), (0, a2), g3, g4, g5, g6] [] d = (if zin 0 18180 then (if wr ((d.m ((a0 + 1)) (zix 0))) ≤ wr a2 then some (0, d) else zB P 261 34 [(2, ((a0 : Nat) : Int)), (0, a1), (0, a2), (0, 0), g4, g5, g6] [] d) else none) := by
  have hT := cT_261
  refine Eq.trans (x1 (h := 26) hT rfl rfl (by decide)) ?_
  refine Eq.trans (x1 (h := 27) hT rfl rfl (by decide)) ?_
  refine Eq.trans (x21r (r := a0) (cl := 12) (o := 1) (h := 28) hT rfl ha0 (by decide) rfl) ?_
  refine Eq.trans (x0 (h := 29) hT rfl) ?_
  refine Eq.trans (x24 (r := (a0 + 1)) (n := 18180) (h := 30) hT rfl (Or.inl (kd_12_0 ha0)) (ln_12_0 ha0)) ?_
  refine xig (fun hz3 => ?_)
  refine Eq.trans (x17_3 (h := 31) hT rfl) ?_
  refine xit (fun _ => ?_) (fun _ => ?_)
  · exact x20 (h := 110) hT rfl
  · refine Eq.trans (x0 (h := 32) hT rfl) ?_
    refine Eq.trans (x2 (ls' := [(2, ((a0 : Nat) : Int)), (0, a1), (0, a2), (0, 0), g4, g5, g6]) (h := 33) hT rfl (Nat.le_of_ble_eq_true rfl) rfl) ?_
    exact rfl
set_option maxRecDepth 100000 in
theorem q_261_34 {P : zP} {d : zD P} {a0 : Nat} {a1 : Int} {a2 : Int} {a3 : Int} {g4 : zV} {g5 : zV} {g6 : zV} (ha0 : zkd a0 = 12) : zB P 261 34 [(2, ((a0 : Nat) : Int)), (0, a1), (0, a2), (0, a3), g4, g5, g6] [] d = ((MM P 60 [(2, ((a0 : Nat) : Int)), (0, a2), (0, (1 - a1))] d).bind fun q4 => (if wr q4.1 ≤ wr a3 then zB P 261 26 [(2, ((a0 : Nat) : Int)), (0, a1), (0, (a2 + 1)), (0, a3), g4, g5, g6] [] q4.2 else ((MM P 239 [(2, ((a0 : Nat) : Int)), (0, a1), (0, a2), (0, a3)] q4.2).bind fun q5 => zB P 261 49 [(2, ((a0 : Nat) : Int)), (0, a1), (0, a2), (0, a3), (0, 0), g5, g6] [] q5.2))) := by
  have hT := cT_261
  refine Eq.trans (x1 (h := 34) hT rfl rfl (by decide)) ?_
  refine Eq.trans (x1 (h := 35) hT rfl rfl (by decide)) ?_
  refine Eq.trans (x1 (h := 36) hT rfl rfl (by decide)) ?_
  refine Eq.trans (x0 (h := 37) hT rfl) ?_
  refine Eq.trans (x1 (h := 38) hT rfl rfl (by decide)) ?_
  refine Eq.trans (x5_1 (h := 39) hT rfl) ?_
  refine Eq.trans (x31 (r := a0) (cl := 12) (as := [(0, a2), (0, (1 - a1))]) (st' := [(0, a3)]) (h := 40) hT rfl sm_60 rfl ha0) ?_
  refine xbd (fun q4 => ?_)
  rw [rv_60]
  change zB P 261 41 [(2, ((a0 : Nat) : Int)), (0, a1), (0, a2), (0, a3), g4, g5, g6] [(0, q4.1), (0, a3)] q4.2 = _
  refine Eq.trans (x17_3 (h := 41) hT rfl) ?_
  refine xit (fun _ => ?_) (fun _ => ?_)
  · refine Eq.trans (x4 (ls' := [(2, ((a0 : Nat) : Int)), (0, a1), (0, (a2 + 1)), (0, a3), g4, g5, g6]) (h := 108) hT rfl rfl rfl) ?_
    refine Eq.trans (x18 (h := 109) hT rfl) ?_
    exact rfl
  · refine Eq.trans (x1 (h := 42) hT rfl rfl (by decide)) ?_
    refine Eq.trans (x1 (h := 43) hT rfl rfl (by decide)) ?_
    refine Eq.trans (x1 (h := 44) hT rfl rfl (by decide)) ?_
    refine Eq.trans (x1 (h := 45) hT rfl rfl (by decide)) ?_
    refine Eq.trans (x31 (r := a0) (cl := 12) (as := [(0, a1), (0, a2), (0, a3)]) (st' := []) (h := 46) hT rfl sm_239 rfl ha0) ?_
    refine xbd (fun q5 => ?_)
    rw [rv_239]
    change zB P 261 47 [(2, ((a0 : Nat) : Int)), (0, a1), (0, a2), (0, a3), g4, g5, g6] [] q5.2 = _
    refine Eq.trans (x0 (h := 47) hT rfl) ?_
    refine Eq.trans (x2 (ls' := [(2, ((a0 : Nat) : Int)), (0, a1), (0, a2), (0, a3), (0, 0), g5, g6]) (h := 48) hT rfl (Nat.le_of_ble_eq_true rfl) rfl) ?_
    exact rfl
set_option maxRecDepth 100000 in
theorem q_261_49 {P : zP} {d : zD P} {a0 : Nat} {a1 : Int} {a2 : Int} {a3 : Int} {a4 : Int} {g5 : zV} {g6 : zV} (ha0 : zkd a0 = 12) : zB P 261 49 [(2, ((a0 : Nat) : Int)), (0, a1), (0, a2), (0, a3), (0, a4), g5, g6] [] d = ((MM P 60 [(2, ((a0 : Nat) : Int)), (0, a2), (0, a1)] d).bind fun q6 => (if wr q6.1 ≤ wr a4 then zB P 261 34 [(2, ((a0 : Nat) : Int)), (0, a1), (0, a2), (0, (a3 + 1)), (0, a4), g5, g6] [] q6.2 else ((MM P 80 [(2, ((a0 : Nat) : Int)), (0, a2), (0, a1), (0, a4)] q6.2).bind fun q7 => ((MM P 80 [(2, ((a0 : Nat) : Int)), (0, a2), (0, (1 - a1)), (0, a3)] q7.2).bind fun q8 => ((MM P 156 [(2, ((a0 : Nat) : Int)), (0, a1), (0, a2), (0, a4), (0, a3)] q8.2).bind fun q9 => (if zin (((40 * q7.1) + q8.1)) 1600 then (if zin a4 40 then (if zin (((40 * q7.1) + q8.1)) 1600 then (if zin q9.1 8 then (if zin a4 40 then (if zin q9.1 8 then zB P 261 49 [(2, ((a0 : Nat) : Int)), (0, a1), (0, a2), (0, a3), (0, (a4 + 1)), (0, ((40 * q7.1) + q8.1)), (0, q9.1)] [] ((((q9.2.up ((a0 + 15)) (zix (((40 * q7.1) + q8.1))) (((q9.2.m ((a0 + 15)) (zix (((40 * q7.1) + q8.1)))) + (q9.2.m ((a0 + 13)) (zix a4)))))).up ((a0 + 16)) (zix q9.1) (((((q9.2.up ((a0 + 15)) (zix (((40 * q7.1) + q8.1))) (((q9.2.m ((a0 + 15)) (zix (((40 * q7.1) + q8.1)))) + (q9.2.m ((a0 + 13)) (zix a4)))))).m ((a0 + 16)) (zix q9.1)) + (((q9.2.up ((a0 + 15)) (zix (((40 * q7.1) + q8.1))) (((q9.2.m ((a0 + 15)) (zix (((40 * q7.1) + q8.1)))) + (q9.2.m ((a0 + 13)) (zix a4)))))).m ((a0 + 13)) (zix a4)))))) else none) else none) else none) else none) else none) else none)))))) := by
  have hT := cT_261
  refine Eq.trans (x1 (h := 49) hT rfl rfl (by decide)) ?_
  refine Eq.trans (x1 (h := 50) hT rfl rfl (by decide)) ?_
  refine Eq.trans (x1 (h := 51) hT rfl rfl (by decide)) ?_
  refine Eq.trans (x1 (h := 52) hT rfl rfl (by decide)) ?_
  refine Eq.trans (x31 (r := a0) (cl := 12) (as := [(0, a2), (0, a1)]) (st' := [(0, a4)]) (h := 53) hT rfl sm_60 rfl ha0) ?_
  refine xbd (fun q6 => ?_)
  rw [rv_60]
  change zB P 261 54 [(2, ((a0 : Nat) : Int)), (0, a1), (0, a2), (0, a3), (0, a4), g5, g6] [(0, q6.1), (0, a4)] q6.2 = _
  refine Eq.trans (x17_3 (h := 54) hT rfl) ?_
  refine xit (fun _ => ?_) (fun _ => ?_)
  · refine Eq.trans (x4 (ls' := [(2, ((a0 : Nat) : Int)), (0, a1), (0, a2), (0, (a3 + 1)), (0, a4), g5, g6]) (h := 106) hT rfl rfl rfl) ?_
    refine Eq.trans (x18 (h := 107) hT rfl) ?_
    exact rfl
  · refine Eq.trans (x0 (h := 55) hT rfl) ?_
    refine Eq.trans (x1 (h := 56) hT rfl rfl (by decide)) ?_
    refine Eq.trans (x1 (h := 57) hT rfl rfl (by decide)) ?_
    refine Eq.trans (x1 (h := 58) hT rfl rfl (by decide)) ?_
    refine Eq.trans (x1 (h := 59) hT rfl rfl (by decide)) ?_
    refine Eq.trans (x31 (r := a0) (cl := 12) (as := [(0, a2), (0, a1), (0, a4)]) (st' := [(0, 40)]) (h := 60) hT rfl sm_80 rfl ha0) ?_
    refine xbd (fun q7 => ?_)
    rw [rv_80]
    change zB P 261 61 [(2, ((a0 : Nat) : Int)), (0, a1), (0, a2), (0, a3), (0, a4), g5, g6] [(0, q7.1), (0, 40)] q7.2 = _
    refine Eq.trans (x5_2 (h := 61) hT rfl) ?_
    refine Eq.trans (x1 (h := 62) hT rfl rfl (by decide)) ?_
    refine Eq.trans (x1 (h := 63) hT rfl rfl (by decide)) ?_
    refine Eq.trans (x0 (h := 64) hT rfl) ?_
    refine Eq.trans (x1 (h := 65) hT rfl rfl (by decide)) ?_
    refine Eq.trans (x5_1 (h := 66) hT rfl) ?_
    refine Eq.trans (x1 (h := 67) hT rfl rfl (by decide)) ?_
    refine Eq.trans (x31 (r := a0) (cl := 12) (as := [(0, a2), (0, (1 - a1)), (0, a3)]) (st' := [(0, (40 * q7.1))]) (h := 68) hT rfl sm_80 rfl ha0) ?_
    refine xbd (fun q8 => ?_)
    rw [rv_80]
    change zB P 261 69 [(2, ((a0 : Nat) : Int)), (0, a1), (0, a2), (0, a3), (0, a4), g5, g6] [(0, q8.1), (0, (40 * q7.1))] q8.2 = _
    refine Eq.trans (x5_0 (h := 69) hT rfl) ?_
    refine Eq.trans (x2 (ls' := [(2, ((a0 : Nat) : Int)), (0, a1), (0, a2), (0, a3), (0, a4), (0, ((40 * q7.1) + q8.1)), g6]) (h := 70) hT rfl (Nat.le_of_ble_eq_true rfl) rfl) ?_
    refine Eq.trans (x1 (h := 71) hT rfl rfl (by decide)) ?_
    refine Eq.trans (x1 (h := 72) hT rfl rfl (by decide)) ?_
    refine Eq.trans (x1 (h := 73) hT rfl rfl (by decide)) ?_
    refine Eq.trans (x1 (h := 74) hT rfl rfl (by decide)) ?_
    refine Eq.trans (x1 (h := 75) hT rfl rfl (by decide)) ?_
    refine Eq.trans (x31 (r := a0) (cl := 12) (as := [(0, a1), (0, a2), (0, a4), (0, a3)]) (st' := []) (h := 76) hT rfl sm_156 rfl ha0) ?_
    refine xbd (fun q9 => ?_)
    rw [rv_156]
    change zB P 261 77 [(2, ((a0 : Nat) : Int)), (0, a1), (0, a2), (0, a3), (0, a4), (0, ((40 * q7.1) + q8.1)), g6] [(0, q9.1)] q9.2 = _
    refine Eq.trans (x2 (ls' := [(2, ((a0 : Nat) : Int)), (0, a1), (0, a2), (0, a3), (0, a4), (0, ((40 * q7.1) + q8.1)), (0, q9.1)]) (h := 77) hT rfl (Nat.le_of_ble_eq_true rfl) rfl) ?_
    refine Eq.trans (x1 (h := 78) hT rfl rfl (by decide)) ?_
    refine Eq.trans (x21r (r := a0) (cl := 12) (o := 15) (h := 79) hT rfl ha0 (by decide) rfl) ?_
    refine Eq.trans (x1 (h := 80) hT rfl rfl (by decide)) ?_
    refine Eq.trans (x1 (h := 81) hT rfl rfl (by decide)) ?_
    refine Eq.trans (x21r (r := a0) (cl := 12) (o := 15) (h := 82) hT rfl ha0 (by decide) rfl) ?_
    refine Eq.trans (x1 (h := 83) hT rfl rfl (by decide)) ?_
    refine Eq.trans (x24 (r := (a0 + 15)) (n := 1600) (h := 84) hT rfl (Or.inl (kd_12_22 ha0)) (ln_12_22 ha0)) ?_
    refine xig (fun hz10 => ?_)
    refine Eq.trans (x1 (h := 85) hT rfl rfl (by decide)) ?_
    refine Eq.trans (x21r (r := a0) (cl := 12) (o := 13) (h := 86) hT rfl ha0 (by decide) rfl) ?_
    refine Eq.trans (x1 (h := 87) hT rfl rfl (by decide)) ?_
    refine Eq.trans (x24 (r := (a0 + 13)) (n := 40) (h := 88) hT rfl (Or.inl (kd_12_20 ha0)) (ln_12_20 ha0)) ?_
    refine xig (fun hz11 => ?_)
    refine Eq.trans (x5_0 (h := 89) hT rfl) ?_
    refine Eq.trans (x25a (r := (a0 + 15)) (n := 1600) (h := 90) hT rfl (kd_12_22 ha0) (ln_12_22 ha0) (by decide) rfl) ?_
    refine xig (fun hz12 => ?_)
    refine Eq.trans (x1 (h := 91) hT rfl rfl (by decide)) ?_
    refine Eq.trans (x21r (r := a0) (cl := 12) (o := 16) (h := 92) hT rfl ha0 (by decide) rfl) ?_
    refine Eq.trans (x1 (h := 93) hT rfl rfl (by decide)) ?_
    refine Eq.trans (x1 (h := 94) hT rfl rfl (by decide)) ?_
    refine Eq.trans (x21r (r := a0) (cl := 12) (o := 16) (h := 95) hT rfl ha0 (by decide) rfl) ?_
    refine Eq.trans (x1 (h := 96) hT rfl rfl (by decide)) ?_
    refine Eq.trans (x24 (r := (a0 + 16)) (n := 8) (h := 97) hT rfl (Or.inl (kd_12_23 ha0)) (ln_12_23 ha0)) ?_
    refine xig (fun hz13 => ?_)
    refine Eq.trans (x1 (h := 98) hT rfl rfl (by decide)) ?_
    refine Eq.trans (x21r (r := a0) (cl := 12) (o := 13) (h := 99) hT rfl ha0 (by decide) rfl) ?_
    refine Eq.trans (x1 (h := 100) hT rfl rfl (by decide)) ?_
    refine Eq.trans (x24 (r := (a0 + 13)) (n := 40) (h := 101) hT rfl (Or.inl (kd_12_20 ha0)) (ln_12_20 ha0)) ?_
    refine xig (fun hz14 => ?_)
    refine Eq.trans (x5_0 (h := 102) hT rfl) ?_
    refine Eq.trans (x25a (r := (a0 + 16)) (n := 8) (h := 103) hT rfl (kd_12_23 ha0) (ln_12_23 ha0) (by decide) rfl) ?_
    refine xig (fun hz15 => ?_)
    refine Eq.trans (x4 (ls' := [(2, ((a0 : Nat) : Int)), (0, a1), (0, a2), (0, a3), (0, (a4 + 1)), (0, ((40 * q7.1) + q8.1)), (0, q9.1)]) (h := 104) hT rfl rfl rfl) ?_
    refine Eq.trans (x18 (h := 105) hT rfl) ?_
    exact rfl
/-! WordLinksModel.joinsSide(III)V -/
set_option maxRecDepth 100000 in
theorem e_262 {P : zP} {d : zD P} {a0 : Nat} {a1 : Int} {a2 : Int} {a3 : Int} (ha0 : zkd a0 = 12) : MM P 262 [(2, ((a0 : Nat) : Int)), (0, a1), (0, a2), (0, a3)] d = zB P 262 4 [(2, ((a0 : Nat) : Int)), (0, a1), (0, a2), (0, a3), (0, 0), (0, a2), (3, 0), (3, 0)] [] d := by
  have hT := cT_262
  refine Eq.trans (MM_def sm_262 (Nat.le_of_ble_eq_true rfl)) ?_
  change zB P 262 0 [(2, ((a0 : Nat) : Int)), (0, a1), (0, a2), (0, a3), (3, 0), (3, 0), (3, 0), (3, 0)] [] d = _
  refine Eq.trans (x0 (h := 0) hT rfl) ?_
  refine Eq.trans (x2 (ls' := [(2, ((a0 : Nat) : Int)), (0, a1), (0, a2), (0, a3), (0, 0), (3, 0), (3, 0), (3, 0)]) (h := 1) hT rfl (Nat.le_of_ble_eq_true rfl) rfl) ?_
  refine Eq.trans (x1 (h := 2) hT rfl rfl (by decide)) ?_
  refine Eq.trans (x2 (ls' := [(2, ((a0 : Nat) : Int)), (0, a1), (0, a2), (0, a3), (0, 0), (0, a2), (3, 0), (3, 0)]) (h := 3) hT rfl (Nat.le_of_ble_eq_true rfl) rfl) ?_
  exact rfl
set_option maxRecDepth 100000 in
theorem q_262_4 {P : zP} {d : zD P} {a0 : Nat} {a1 : Int} {a2 : Int} {a3 : Int} {a4 : Int} {a5 : Int} {g6 : zV} {g7 : zV} (ha0 : zkd a0 = 12) : zB P 262 4 [(2, ((a0 : Nat) : Int)), (0, a1), (0, a2), (0, a3), (0, a4), (0, a5), g6, g7] [] d = (if wr ((a2 + a3)) ≤ wr a5 then some (0, d) else (if zin a5 16 then (if zin a5 16 then zB P 262 23 [(2, ((a0 : Nat) : Int)), (0, a1), (0, a2), (0, a3), (0, a4), (0, a5), (0, 0), g7] [] ((((d.up a0 4 ((d.m ((a0 + 4)) (zix a5))))).up a0 5 ((((d.up a0 4 ((d.m ((a0 + 4)) (zix a5))))).m ((a0 + 5)) (zix a5))))) else none) else none)) := by
  have hT := cT_262
  refine Eq.trans (x1 (h := 4) hT rfl rfl (by decide)) ?_
  refine Eq.trans (x1 (h := 5) hT rfl rfl (by decide)) ?_
  refine Eq.trans (x1 (h := 6) hT rfl rfl (by decide)) ?_
  refine Eq.trans (x5_0 (h := 7) hT rfl) ?_
  refine Eq.trans (x17_3 (h := 8) hT rfl) ?_
  refine xit (fun _ => ?_) (fun _ => ?_)
  · exact x20 (h := 57) hT rfl
  · refine Eq.trans (x1 (h := 9) hT rfl rfl (by decide)) ?_
    refine Eq.trans (x1 (h := 10) hT rfl rfl (by decide)) ?_
    refine Eq.trans (x21r (r := a0) (cl := 12) (o := 4) (h := 11) hT rfl ha0 (by decide) rfl) ?_
    refine Eq.trans (x1 (h := 12) hT rfl rfl (by decide)) ?_
    refine Eq.trans (x24 (r := (a0 + 4)) (n := 16) (h := 13) hT rfl (Or.inl (kd_12_11 ha0)) (ln_12_11 ha0)) ?_
    refine xig (fun hz1 => ?_)
    refine Eq.trans (x22 (r := a0) (cl := 12) (h := 14) hT rfl ha0 (by decide) rfl (by decide)) ?_
    refine Eq.trans (x1 (h := 15) hT rfl rfl (by decide)) ?_
    refine Eq.trans (x1 (h := 16) hT rfl rfl (by decide)) ?_
    refine Eq.trans (x21r (r := a0) (cl := 12) (o := 5) (h := 17) hT rfl ha0 (by decide) rfl) ?_
    refine Eq.trans (x1 (h := 18) hT rfl rfl (by decide)) ?_
    refine Eq.trans (x24 (r := (a0 + 5)) (n := 16) (h := 19) hT rfl (Or.inl (kd_12_12 ha0)) (ln_12_12 ha0)) ?_
    refine xig (fun hz2 => ?_)
    refine Eq.trans (x22 (r := a0) (cl := 12) (h := 20) hT rfl ha0 (by decide) rfl (by decide)) ?_
    refine Eq.trans (x0 (h := 21) hT rfl) ?_
    refine Eq.trans (x2 (ls' := [(2, ((a0 : Nat) : Int)), (0, a1), (0, a2), (0, a3), (0, a4), (0, a5), (0, 0), g7]) (h := 22) hT rfl (Nat.le_of_ble_eq_true rfl) rfl) ?_
    exact rfl
set_option maxRecDepth 100000 in
theorem q_262_23 {P : zP} {d : zD P} {a0 : Nat} {a1 : Int} {a2 : Int} {a3 : Int} {a4 : Int} {a5 : Int} {a6 : Int} {g7 : zV} (ha0 : zkd a0 = 12) : zB P 262 23 [(2, ((a0 : Nat) : Int)), (0, a1), (0, a2), (0, a3), (0, a4), (0, a5), (0, a6), g7] [] d = (if zin a5 16 then (if wr ((d.m ((a0 + 7)) (zix a5))) ≤ wr a6 then zB P 262 4 [(2, ((a0 : Nat) : Int)), (0, a1), (0, a2), (0, a3), (0, a4), (0, (a5 + 1)), (0, a6), g7] [] d else ((MM P 158 [(2, ((a0 : Nat) : Int))] d).bind fun q4 => (if wr q4.1 = 0 then zB P 262 23 [(2, ((a0 : Nat) : Int)), (0, a1), (0, a2), (0, a3), (0, (a4 + 1)), (0, a5), (0, (a6 + 1)), (0, q4.1)] [] ((q4.2.up a0 4 (((q4.2.m a0 4) + 1)))) else (if wr ((q4.2.m a0 10)) = 0 then zB P 262 23 [(2, ((a0 : Nat) : Int)), (0, a1), (0, a2), (0, a3), (0, (a4 + 1)), (0, a5), (0, (a6 + 1)), (0, q4.1)] [] ((q4.2.up a0 4 (((q4.2.m a0 4) + 1)))) else ((MM P 238 [(2, ((a0 : Nat) : Int)), (0, a1), (0, a4)] q4.2).bind fun q5 => (if q5.1 = 0 ∨ q5.1 = 1 then zB P 262 23 [(2, ((a0 : Nat) : Int)), (0, a1), (0, a2), (0, a3), (0, (a4 + 1)), (0, a5), (0, (a6 + 1)), (0, q4.1)] [] ((((q5.2.up a0 10 q5.1)).up a0 4 (((((q5.2.up a0 10 q5.1)).m a0 4) + 1)))) else none)))))) else none) := by
  have hT := cT_262
  refine Eq.trans (x1 (h := 23) hT rfl rfl (by decide)) ?_
  refine Eq.trans (x1 (h := 24) hT rfl rfl (by decide)) ?_
  refine Eq.trans (x21r (r := a0) (cl := 12) (o := 7) (h := 25) hT rfl ha0 (by decide) rfl) ?_
  refine Eq.trans (x1 (h := 26) hT rfl rfl (by decide)) ?_
  refine Eq.trans (x24 (r := (a0 + 7)) (n := 16) (h := 27) hT rfl (Or.inl (kd_12_14 ha0)) (ln_12_14 ha0)) ?_
  refine xig (fun hz3 => ?_)
  refine Eq.trans (x17_3 (h := 28) hT rfl) ?_
  refine xit (fun _ => ?_) (fun _ => ?_)
  · refine Eq.trans (x4 (ls' := [(2, ((a0 : Nat) : Int)), (0, a1), (0, a2), (0, a3), (0, a4), (0, (a5 + 1)), (0, a6), g7]) (h := 55) hT rfl rfl rfl) ?_
    refine Eq.trans (x18 (h := 56) hT rfl) ?_
    exact rfl
  · refine Eq.trans (x1 (h := 29) hT rfl rfl (by decide)) ?_
    refine Eq.trans (x31 (r := a0) (cl := 12) (as := []) (st' := []) (h := 30) hT rfl sm_158 rfl ha0) ?_
    refine xbd (fun q4 => ?_)
    rw [rv_158]
    change zB P 262 31 [(2, ((a0 : Nat) : Int)), (0, a1), (0, a2), (0, a3), (0, a4), (0, a5), (0, a6), g7] [(0, q4.1)] q4.2 = _
    refine Eq.trans (x2 (ls' := [(2, ((a0 : Nat) : Int)), (0, a1), (0, a2), (0, a3), (0, a4), (0, a5), (0, a6), (0, q4.1)]) (h := 31) hT rfl (Nat.le_of_ble_eq_true rfl) rfl) ?_
    refine Eq.trans (x1 (h := 32) hT rfl rfl (by decide)) ?_
    refine Eq.trans (x16_0 (h := 33) hT rfl) ?_
    refine xit (fun _ => ?_) (fun _ => ?_)
    · refine Eq.trans (x1 (h := 43) hT rfl rfl (by decide)) ?_
      refine Eq.trans (x0 (h := 44) hT rfl) ?_
      refine Eq.trans (x5_0 (h := 45) hT rfl) ?_
      refine Eq.trans (x2 (ls' := [(2, ((a0 : Nat) : Int)), (0, a1), (0, a2), (0, a3), (0, (a4 + 1)), (0, a5), (0, a6), (0, q4.1)]) (h := 46) hT rfl (Nat.le_of_ble_eq_true rfl) rfl) ?_
      refine Eq.trans (x1 (h := 47) hT rfl rfl (by decide)) ?_
      refine Eq.trans (x1 (h := 48) hT rfl rfl (by decide)) ?_
      refine Eq.trans (x21 (r := a0) (cl := 12) (h := 49) hT rfl ha0) ?_
      refine Eq.trans (x0 (h := 50) hT rfl) ?_
      refine Eq.trans (x5_0 (h := 51) hT rfl) ?_
      refine Eq.trans (x22 (r := a0) (cl := 12) (h := 52) hT rfl ha0 (by decide) rfl (by decide)) ?_
      refine Eq.trans (x4 (ls' := [(2, ((a0 : Nat) : Int)), (0, a1), (0, a2), (0, a3), (0, (a4 + 1)), (0, a5), (0, (a6 + 1)), (0, q4.1)]) (h := 53) hT rfl rfl rfl) ?_
      refine Eq.trans (x18 (h := 54) hT rfl) ?_
      exact rfl
    · refine Eq.trans (x1 (h := 34) hT rfl rfl (by decide)) ?_
      refine Eq.trans (x21 (r := a0) (cl := 12) (h := 35) hT rfl ha0) ?_
      refine Eq.trans (x16_0 (h := 36) hT rfl) ?_
      refine xit (fun _ => ?_) (fun _ => ?_)
      · refine Eq.trans (x1 (h := 43) hT rfl rfl (by decide)) ?_
        refine Eq.trans (x0 (h := 44) hT rfl) ?_
        refine Eq.trans (x5_0 (h := 45) hT rfl) ?_
        refine Eq.trans (x2 (ls' := [(2, ((a0 : Nat) : Int)), (0, a1), (0, a2), (0, a3), (0, (a4 + 1)), (0, a5), (0, a6), (0, q4.1)]) (h := 46) hT rfl (Nat.le_of_ble_eq_true rfl) rfl) ?_
        refine Eq.trans (x1 (h := 47) hT rfl rfl (by decide)) ?_
        refine Eq.trans (x1 (h := 48) hT rfl rfl (by decide)) ?_
        refine Eq.trans (x21 (r := a0) (cl := 12) (h := 49) hT rfl ha0) ?_
        refine Eq.trans (x0 (h := 50) hT rfl) ?_
        refine Eq.trans (x5_0 (h := 51) hT rfl) ?_
        refine Eq.trans (x22 (r := a0) (cl := 12) (h := 52) hT rfl ha0 (by decide) rfl (by decide)) ?_
        refine Eq.trans (x4 (ls' := [(2, ((a0 : Nat) : Int)), (0, a1), (0, a2), (0, a3), (0, (a4 + 1)), (0, a5), (0, (a6 + 1)), (0, q4.1)]) (h := 53) hT rfl rfl rfl) ?_
        refine Eq.trans (x18 (h := 54) hT rfl) ?_
        exact rfl
      · refine Eq.trans (x1 (h := 37) hT rfl rfl (by decide)) ?_
        refine Eq.trans (x1 (h := 38) hT rfl rfl (by decide)) ?_
        refine Eq.trans (x1 (h := 39) hT rfl rfl (by decide)) ?_
        refine Eq.trans (x1 (h := 40) hT rfl rfl (by decide)) ?_
        refine Eq.trans (x31 (r := a0) (cl := 12) (as := [(0, a1), (0, a4)]) (st' := [(2, ((a0 : Nat) : Int))]) (h := 41) hT rfl sm_238 rfl ha0) ?_
        refine xbd (fun q5 => ?_)
        rw [rv_238]
        change zB P 262 42 [(2, ((a0 : Nat) : Int)), (0, a1), (0, a2), (0, a3), (0, a4), (0, a5), (0, a6), (0, q4.1)] [(0, q5.1), (2, ((a0 : Nat) : Int))] q5.2 = _
        refine Eq.trans (x22b (r := a0) (cl := 12) (h := 42) hT rfl ha0 (by decide) rfl) ?_
        refine xig (fun hz6 => ?_)
        refine Eq.trans (x1 (h := 43) hT rfl rfl (by decide)) ?_
        refine Eq.trans (x0 (h := 44) hT rfl) ?_
        refine Eq.trans (x5_0 (h := 45) hT rfl) ?_
        refine Eq.trans (x2 (ls' := [(2, ((a0 : Nat) : Int)), (0, a1), (0, a2), (0, a3), (0, (a4 + 1)), (0, a5), (0, a6), (0, q4.1)]) (h := 46) hT rfl (Nat.le_of_ble_eq_true rfl) rfl) ?_
        refine Eq.trans (x1 (h := 47) hT rfl rfl (by decide)) ?_
        refine Eq.trans (x1 (h := 48) hT rfl rfl (by decide)) ?_
        refine Eq.trans (x21 (r := a0) (cl := 12) (h := 49) hT rfl ha0) ?_
        refine Eq.trans (x0 (h := 50) hT rfl) ?_
        refine Eq.trans (x5_0 (h := 51) hT rfl) ?_
        refine Eq.trans (x22 (r := a0) (cl := 12) (h := 52) hT rfl ha0 (by decide) rfl (by decide)) ?_
        refine Eq.trans (x4 (ls' := [(2, ((a0 : Nat) : Int)), (0, a1), (0, a2), (0, a3), (0, (a4 + 1)), (0, a5), (0, (a6 + 1)), (0, q4.1)]) (h := 53) hT rfl rfl rfl) ?_
        refine Eq.trans (x18 (h := 54) hT rfl) ?_
        exact rfl
/-! WordLinksModel.linksBack(I[I)V -/
set_option maxRecDepth 100000 in
theorem e_263 {P : zP} {d : zD P} {a0 : Nat} {a1 : Int} {a2 : Nat} {na2 : Nat} (ha0 : zkd a0 = 12) (ha2 : zkd a2 = 20) (la2 : zln P a2 = na2) : MM P 263 [(2, ((a0 : Nat) : Int)), (0, a1), (2, ((a2 : Nat) : Int))] d = ((MM P 52 [(2, ((a2 : Nat) : Int))] d).bind fun q1 => zB P 263 4 [(2, ((a0 : Nat) : Int)), (0, a1), (2, ((a2 : Nat) : Int)), (0, 0), (3, 0), (3, 0)] [] q1.2) := by
  have hT := cT_263
  refine Eq.trans (MM_def sm_263 (Nat.le_of_ble_eq_true rfl)) ?_
  change zB P 263 0 [(2, ((a0 : Nat) : Int)), (0, a1), (2, ((a2 : Nat) : Int)), (3, 0), (3, 0), (3, 0)] [] d = _
  refine Eq.trans (x1 (h := 0) hT rfl rfl (by decide)) ?_
  refine Eq.trans (x34 (as := [(2, ((a2 : Nat) : Int))]) (st' := []) (h := 1) hT rfl sm_52 rfl) ?_
  refine xbd (fun q1 => ?_)
  rw [rv_52]
  change zB P 263 2 [(2, ((a0 : Nat) : Int)), (0, a1), (2, ((a2 : Nat) : Int)), (3, 0), (3, 0), (3, 0)] [] q1.2 = _
  refine Eq.trans (x0 (h := 2) hT rfl) ?_
  refine Eq.trans (x2 (ls' := [(2, ((a0 : Nat) : Int)), (0, a1), (2, ((a2 : Nat) : Int)), (0, 0), (3, 0), (3, 0)]) (h := 3) hT rfl (Nat.le_of_ble_eq_true rfl) rfl) ?_
  exact rfl
set_option maxRecDepth 100000 in
theorem q_263_4 {P : zP} {d : zD P} {a0 : Nat} {a1 : Int} {a2 : Nat} {na2 : Nat} {a3 : Int} {g4 : zV} {g5 : zV} (ha0 : zkd a0 = 12) (ha2 : zkd a2 = 20) (la2 : zln P a2 = na2) : zB P 263 4 [(2, ((a0 : Nat) : Int)), (0, a1), (2, ((a2 : Nat) : Int)), (0, a3), g4, g5] [] d = ((MM P 60 [(2, ((a0 : Nat) : Int)), (0, a1), (0, 0)] d).bind fun q2 => (if wr q2.1 ≤ wr a3 then some (0, q2.2) else zB P 263 14 [(2, ((a0 : Nat) : Int)), (0, a1), (2, ((a2 : Nat) : Int)), (0, a3), (0, 0), (0, 1)] [] q2.2)) := by
  have hT := cT_263
  refine Eq.trans (x1 (h := 4) hT rfl rfl (by decide)) ?_
  refine Eq.trans (x1 (h := 5) hT rfl rfl (by decide)) ?_
  refine Eq.trans (x1 (h := 6) hT rfl rfl (by decide)) ?_
  refine Eq.trans (x0 (h := 7) hT rfl) ?_
  refine Eq.trans (x31 (r := a0) (cl := 12) (as := [(0, a1), (0, 0)]) (st' := [(0, a3)]) (h := 8) hT rfl sm_60 rfl ha0) ?_
  refine xbd (fun q2 => ?_)
  rw [rv_60]
  change zB P 263 9 [(2, ((a0 : Nat) : Int)), (0, a1), (2, ((a2 : Nat) : Int)), (0, a3), g4, g5] [(0, q2.1), (0, a3)] q2.2 = _
  refine Eq.trans (x17_3 (h := 9) hT rfl) ?_
  refine xit (fun _ => ?_) (fun _ => ?_)
  · exact x20 (h := 48) hT rfl
  · refine Eq.trans (x0 (h := 10) hT rfl) ?_
    refine Eq.trans (x2 (ls' := [(2, ((a0 : Nat) : Int)), (0, a1), (2, ((a2 : Nat) : Int)), (0, a3), (0, 0), g5]) (h := 11) hT rfl (Nat.le_of_ble_eq_true rfl) rfl) ?_
    refine Eq.trans (x0 (h := 12) hT rfl) ?_
    refine Eq.trans (x2 (ls' := [(2, ((a0 : Nat) : Int)), (0, a1), (2, ((a2 : Nat) : Int)), (0, a3), (0, 0), (0, 1)]) (h := 13) hT rfl (Nat.le_of_ble_eq_true rfl) rfl) ?_
    exact rfl
set_option maxRecDepth 100000 in
theorem q_263_14 {P : zP} {d : zD P} {a0 : Nat} {a1 : Int} {a2 : Nat} {na2 : Nat} {a3 : Int} {a4 : Int} {a5 : Int} (ha0 : zkd a0 = 12) (ha2 : zkd a2 = 20) (la2 : zln P a2 = na2) : zB P 263 14 [(2, ((a0 : Nat) : Int)), (0, a1), (2, ((a2 : Nat) : Int)), (0, a3), (0, a4), (0, a5)] [] d = ((MM P 60 [(2, ((a0 : Nat) : Int)), (0, a1), (0, 1)] d).bind fun q3 => (if wr q3.1 ≤ wr a5 then ((MM P 141 [(2, ((a0 : Nat) : Int)), (0, 1), (0, a1), (0, a3), (0, a4)] q3.2).bind fun q4 => (if wr q4.1 = 0 then zB P 263 4 [(2, ((a0 : Nat) : Int)), (0, a1), (2, ((a2 : Nat) : Int)), (0, (a3 + 1)), (0, a4), (0, a5)] [] q4.2 else (if zin a3 na2 then zB P 263 4 [(2, ((a0 : Nat) : Int)), (0, a1), (2, ((a2 : Nat) : Int)), (0, (a3 + 1)), (0, a4), (0, a5)] [] ((q4.2.up a2 (zix a3) ((zbin 6 1 a4)))) else none))) else ((MM P 237 [(2, ((a0 : Nat) : Int)), (0, 1), (0, a1), (0, a3), (0, a5), (0, a3), (0, a4)] q3.2).bind fun q6 => (if wr q6.1 = 0 then zB P 263 14 [(2, ((a0 : Nat) : Int)), (0, a1), (2, ((a2 : Nat) : Int)), (0, a3), (0, a4), (0, (a5 + 1))] [] q6.2 else zB P 263 14 [(2, ((a0 : Nat) : Int)), (0, a1), (2, ((a2 : Nat) : Int)), (0, a3), (0, a5), (0, (a5 + 1))] [] q6.2)))) := by
  have hT := cT_263
  refine Eq.trans (x1 (h := 14) hT rfl rfl (by decide)) ?_
  refine Eq.trans (x1 (h := 15) hT rfl rfl (by decide)) ?_
  refine Eq.trans (x1 (h := 16) hT rfl rfl (by decide)) ?_
  refine Eq.trans (x0 (h := 17) hT rfl) ?_
  refine Eq.trans (x31 (r := a0) (cl := 12) (as := [(0, a1), (0, 1)]) (st' := [(0, a5)]) (h := 18) hT rfl sm_60 rfl ha0) ?_
  refine xbd (fun q3 => ?_)
  rw [rv_60]
  change zB P 263 19 [(2, ((a0 : Nat) : Int)), (0, a1), (2, ((a2 : Nat) : Int)), (0, a3), (0, a4), (0, a5)] [(0, q3.1), (0, a5)] q3.2 = _
  refine Eq.trans (x17_3 (h := 19) hT rfl) ?_
  refine xit (fun _ => ?_) (fun _ => ?_)
  · refine Eq.trans (x1 (h := 33) hT rfl rfl (by decide)) ?_
    refine Eq.trans (x0 (h := 34) hT rfl) ?_
    refine Eq.trans (x1 (h := 35) hT rfl rfl (by decide)) ?_
    refine Eq.trans (x1 (h := 36) hT rfl rfl (by decide)) ?_
    refine Eq.trans (x1 (h := 37) hT rfl rfl (by decide)) ?_
    refine Eq.trans (x31 (r := a0) (cl := 12) (as := [(0, 1), (0, a1), (0, a3), (0, a4)]) (st' := []) (h := 38) hT rfl sm_141 rfl ha0) ?_
    refine xbd (fun q4 => ?_)
    rw [rv_141]
    change zB P 263 39 [(2, ((a0 : Nat) : Int)), (0, a1), (2, ((a2 : Nat) : Int)), (0, a3), (0, a4), (0, a5)] [(0, q4.1)] q4.2 = _
    refine Eq.trans (x16_0 (h := 39) hT rfl) ?_
    refine xit (fun _ => ?_) (fun _ => ?_)
    · refine Eq.trans (x4 (ls' := [(2, ((a0 : Nat) : Int)), (0, a1), (2, ((a2 : Nat) : Int)), (0, (a3 + 1)), (0, a4), (0, a5)]) (h := 46) hT rfl rfl rfl) ?_
      refine Eq.trans (x18 (h := 47) hT rfl) ?_
      exact rfl
    · refine Eq.trans (x1 (h := 40) hT rfl rfl (by decide)) ?_
      refine Eq.trans (x1 (h := 41) hT rfl rfl (by decide)) ?_
      refine Eq.trans (x0 (h := 42) hT rfl) ?_
      refine Eq.trans (x1 (h := 43) hT rfl rfl (by decide)) ?_
      refine Eq.trans (x5n (h := 44) hT rfl) ?_
      refine Eq.trans (x25a (r := a2) (n := na2) (h := 45) hT rfl ha2 la2 (by decide) rfl) ?_
      refine xig (fun hz5 => ?_)
      refine Eq.trans (x4 (ls' := [(2, ((a0 : Nat) : Int)), (0, a1), (2, ((a2 : Nat) : Int)), (0, (a3 + 1)), (0, a4), (0, a5)]) (h := 46) hT rfl rfl rfl) ?_
      refine Eq.trans (x18 (h := 47) hT rfl) ?_
      exact rfl
  · refine Eq.trans (x1 (h := 20) hT rfl rfl (by decide)) ?_
    refine Eq.trans (x0 (h := 21) hT rfl) ?_
    refine Eq.trans (x1 (h := 22) hT rfl rfl (by decide)) ?_
    refine Eq.trans (x1 (h := 23) hT rfl rfl (by decide)) ?_
    refine Eq.trans (x1 (h := 24) hT rfl rfl (by decide)) ?_
    refine Eq.trans (x1 (h := 25) hT rfl rfl (by decide)) ?_
    refine Eq.trans (x1 (h := 26) hT rfl rfl (by decide)) ?_
    refine Eq.trans (x31 (r := a0) (cl := 12) (as := [(0, 1), (0, a1), (0, a3), (0, a5), (0, a3), (0, a4)]) (st' := []) (h := 27) hT rfl sm_237 rfl ha0) ?_
    refine xbd (fun q6 => ?_)
    rw [rv_237]
    change zB P 263 28 [(2, ((a0 : Nat) : Int)), (0, a1), (2, ((a2 : Nat) : Int)), (0, a3), (0, a4), (0, a5)] [(0, q6.1)] q6.2 = _
    refine Eq.trans (x16_0 (h := 28) hT rfl) ?_
    refine xit (fun _ => ?_) (fun _ => ?_)
    · refine Eq.trans (x4 (ls' := [(2, ((a0 : Nat) : Int)), (0, a1), (2, ((a2 : Nat) : Int)), (0, a3), (0, a4), (0, (a5 + 1))]) (h := 31) hT rfl rfl rfl) ?_
      refine Eq.trans (x18 (h := 32) hT rfl) ?_
      exact rfl
    · refine Eq.trans (x1 (h := 29) hT rfl rfl (by decide)) ?_
      refine Eq.trans (x2 (ls' := [(2, ((a0 : Nat) : Int)), (0, a1), (2, ((a2 : Nat) : Int)), (0, a3), (0, a5), (0, a5)]) (h := 30) hT rfl (Nat.le_of_ble_eq_true rfl) rfl) ?_
      refine Eq.trans (x4 (ls' := [(2, ((a0 : Nat) : Int)), (0, a1), (2, ((a2 : Nat) : Int)), (0, a3), (0, a5), (0, (a5 + 1))]) (h := 31) hT rfl rfl rfl) ?_
      refine Eq.trans (x18 (h := 32) hT rfl) ?_
      exact rfl
/-! WordLinksModel.linksForth(I[I)V -/
set_option maxRecDepth 100000 in
theorem e_264 {P : zP} {d : zD P} {a0 : Nat} {a1 : Int} {a2 : Nat} {na2 : Nat} (ha0 : zkd a0 = 12) (ha2 : zkd a2 = 20) (la2 : zln P a2 = na2) : MM P 264 [(2, ((a0 : Nat) : Int)), (0, a1), (2, ((a2 : Nat) : Int))] d = ((MM P 52 [(2, ((a2 : Nat) : Int))] d).bind fun q1 => zB P 264 4 [(2, ((a0 : Nat) : Int)), (0, a1), (2, ((a2 : Nat) : Int)), (0, 0), (3, 0), (3, 0)] [] q1.2) := by
  have hT := cT_264
  refine Eq.trans (MM_def sm_264 (Nat.le_of_ble_eq_true rfl)) ?_
  change zB P 264 0 [(2, ((a0 : Nat) : Int)), (0, a1), (2, ((a2 : Nat) : Int)), (3, 0), (3, 0), (3, 0)] [] d = _
  refine Eq.trans (x1 (h := 0) hT rfl rfl (by decide)) ?_
  refine Eq.trans (x34 (as := [(2, ((a2 : Nat) : Int))]) (st' := []) (h := 1) hT rfl sm_52 rfl) ?_
  refine xbd (fun q1 => ?_)
  rw [rv_52]
  change zB P 264 2 [(2, ((a0 : Nat) : Int)), (0, a1), (2, ((a2 : Nat) : Int)), (3, 0), (3, 0), (3, 0)] [] q1.2 = _
  refine Eq.trans (x0 (h := 2) hT rfl) ?_
  refine Eq.trans (x2 (ls' := [(2, ((a0 : Nat) : Int)), (0, a1), (2, ((a2 : Nat) : Int)), (0, 0), (3, 0), (3, 0)]) (h := 3) hT rfl (Nat.le_of_ble_eq_true rfl) rfl) ?_
  exact rfl
set_option maxRecDepth 100000 in
theorem q_264_4 {P : zP} {d : zD P} {a0 : Nat} {a1 : Int} {a2 : Nat} {na2 : Nat} {a3 : Int} {g4 : zV} {g5 : zV} (ha0 : zkd a0 = 12) (ha2 : zkd a2 = 20) (la2 : zln P a2 = na2) : zB P 264 4 [(2, ((a0 : Nat) : Int)), (0, a1), (2, ((a2 : Nat) : Int)), (0, a3), g4, g5] [] d = ((MM P 60 [(2, ((a0 : Nat) : Int)), (0, a1), (0, 1)] d).bind fun q2 => (if wr q2.1 ≤ wr a3 then some (0, q2.2) else zB P 264 14 [(2, ((a0 : Nat) : Int)), (0, a1), (2, ((a2 : Nat) : Int)), (0, a3), (0, 0), (0, 1)] [] q2.2)) := by
  have hT := cT_264
  refine Eq.trans (x1 (h := 4) hT rfl rfl (by decide)) ?_
  refine Eq.trans (x1 (h := 5) hT rfl rfl (by decide)) ?_
  refine Eq.trans (x1 (h := 6) hT rfl rfl (by decide)) ?_
  refine Eq.trans (x0 (h := 7) hT rfl) ?_
  refine Eq.trans (x31 (r := a0) (cl := 12) (as := [(0, a1), (0, 1)]) (st' := [(0, a3)]) (h := 8) hT rfl sm_60 rfl ha0) ?_
  refine xbd (fun q2 => ?_)
  rw [rv_60]
  change zB P 264 9 [(2, ((a0 : Nat) : Int)), (0, a1), (2, ((a2 : Nat) : Int)), (0, a3), g4, g5] [(0, q2.1), (0, a3)] q2.2 = _
  refine Eq.trans (x17_3 (h := 9) hT rfl) ?_
  refine xit (fun _ => ?_) (fun _ => ?_)
  · exact x20 (h := 52) hT rfl
  · refine Eq.trans (x0 (h := 10) hT rfl) ?_
    refine Eq.trans (x2 (ls' := [(2, ((a0 : Nat) : Int)), (0, a1), (2, ((a2 : Nat) : Int)), (0, a3), (0, 0), g5]) (h := 11) hT rfl (Nat.le_of_ble_eq_true rfl) rfl) ?_
    refine Eq.trans (x0 (h := 12) hT rfl) ?_
    refine Eq.trans (x2 (ls' := [(2, ((a0 : Nat) : Int)), (0, a1), (2, ((a2 : Nat) : Int)), (0, a3), (0, 0), (0, 1)]) (h := 13) hT rfl (Nat.le_of_ble_eq_true rfl) rfl) ?_
    exact rfl
set_option maxRecDepth 100000 in
theorem q_264_14 {P : zP} {d : zD P} {a0 : Nat} {a1 : Int} {a2 : Nat} {na2 : Nat} {a3 : Int} {a4 : Int} {a5 : Int} (ha0 : zkd a0 = 12) (ha2 : zkd a2 = 20) (la2 : zln P a2 = na2) : zB P 264 14 [(2, ((a0 : Nat) : Int)), (0, a1), (2, ((a2 : Nat) : Int)), (0, a3), (0, a4), (0, a5)] [] d = ((MM P 60 [(2, ((a0 : Nat) : Int)), (0, a1), (0, 0)] d).bind fun q3 => (if wr q3.1 ≤ wr a5 then ((MM P 141 [(2, ((a0 : Nat) : Int)), (0, 0), (0, a1), (0, a4), (0, a3)] q3.2).bind fun q4 => (if wr q4.1 = 0 then zB P 264 4 [(2, ((a0 : Nat) : Int)), (0, a1), (2, ((a2 : Nat) : Int)), (0, (a3 + 1)), (0, a4), (0, a5)] [] q4.2 else (if zin a4 na2 then (if zin a4 na2 then zB P 264 4 [(2, ((a0 : Nat) : Int)), (0, a1), (2, ((a2 : Nat) : Int)), (0, (a3 + 1)), (0, a4), (0, a5)] [] ((q4.2.up a2 (zix a4) ((zbin 4 ((q4.2.m a2 (zix a4))) ((zbin 6 1 a3)))))) else none) else none))) else ((MM P 237 [(2, ((a0 : Nat) : Int)), (0, 0), (0, a1), (0, a5), (0, a3), (0, a4), (0, a3)] q3.2).bind fun q7 => (if wr q7.1 = 0 then zB P 264 14 [(2, ((a0 : Nat) : Int)), (0, a1), (2, ((a2 : Nat) : Int)), (0, a3), (0, a4), (0, (a5 + 1))] [] q7.2 else zB P 264 14 [(2, ((a0 : Nat) : Int)), (0, a1), (2, ((a2 : Nat) : Int)), (0, a3), (0, a5), (0, (a5 + 1))] [] q7.2)))) := by
  have hT := cT_264
  refine Eq.trans (x1 (h := 14) hT rfl rfl (by decide)) ?_
  refine Eq.trans (x1 (h := 15) hT rfl rfl (by decide)) ?_
  refine Eq.trans (x1 (h := 16) hT rfl rfl (by decide)) ?_
  refine Eq.trans (x0 (h := 17) hT rfl) ?_
  refine Eq.trans (x31 (r := a0) (cl := 12) (as := [(0, a1), (0, 0)]) (st' := [(0, a5)]) (h := 18) hT rfl sm_60 rfl ha0) ?_
  refine xbd (fun q3 => ?_)
  rw [rv_60]
  change zB P 264 19 [(2, ((a0 : Nat) : Int)), (0, a1), (2, ((a2 : Nat) : Int)), (0, a3), (0, a4), (0, a5)] [(0, q3.1), (0, a5)] q3.2 = _
  refine Eq.trans (x17_3 (h := 19) hT rfl) ?_
  refine xit (fun _ => ?_) (fun _ => ?_)
  · refine Eq.trans (x1 (h := 33) hT rfl rfl (by decide)) ?_
    refine Eq.trans (x0 (h := 34) hT rfl) ?_
    refine Eq.trans (x1 (h := 35) hT rfl rfl (by decide)) ?_
    refine Eq.trans (x1 (h := 36) hT rfl rfl (by decide)) ?_
    refine Eq.trans (x1 (h := 37) hT rfl rfl (by decide)) ?_
    refine Eq.trans (x31 (r := a0) (cl := 12) (as := [(0, 0), (0, a1), (0, a4), (0, a3)]) (st' := []) (h := 38) hT rfl sm_141 rfl ha0) ?_
    refine xbd (fun q4 => ?_)
    rw [rv_141]
    change zB P 264 39 [(2, ((a0 : Nat) : Int)), (0, a1), (2, ((a2 : Nat) : Int)), (0, a3), (0, a4), (0, a5)] [(0, q4.1)] q4.2 = _
    refine Eq.trans (x16_0 (h := 39) hT rfl) ?_
    refine xit (fun _ => ?_) (fun _ => ?_)
    · refine Eq.trans (x4 (ls' := [(2, ((a0 : Nat) : Int)), (0, a1), (2, ((a2 : Nat) : Int)), (0, (a3 + 1)), (0, a4), (0, a5)]) (h := 50) hT rfl rfl rfl) ?_
      refine Eq.trans (x18 (h := 51) hT rfl) ?_
      exact rfl
    · refine Eq.trans (x1 (h := 40) hT rfl rfl (by decide)) ?_
      refine Eq.trans (x1 (h := 41) hT rfl rfl (by decide)) ?_
      refine Eq.trans (x1 (h := 42) hT rfl rfl (by decide)) ?_
      refine Eq.trans (x1 (h := 43) hT rfl rfl (by decide)) ?_
      refine Eq.trans (x24 (r := a2) (n := na2) (h := 44) hT rfl (Or.inl ha2) la2) ?_
      refine xig (fun hz5 => ?_)
      refine Eq.trans (x0 (h := 45) hT rfl) ?_
      refine Eq.trans (x1 (h := 46) hT rfl rfl (by decide)) ?_
      refine Eq.trans (x5n (h := 47) hT rfl) ?_
      refine Eq.trans (x5n (h := 48) hT rfl) ?_
      refine Eq.trans (x25a (r := a2) (n := na2) (h := 49) hT rfl ha2 la2 (by decide) rfl) ?_
      refine xig (fun hz6 => ?_)
      refine Eq.trans (x4 (ls' := [(2, ((a0 : Nat) : Int)), (0, a1), (2, ((a2 : Nat) : Int)), (0, (a3 + 1)), (0, a4), (0, a5)]) (h := 50) hT rfl rfl rfl) ?_
      refine Eq.trans (x18 (h := 51) hT rfl) ?_
      exact rfl
  · refine Eq.trans (x1 (h := 20) hT rfl rfl (by decide)) ?_
    refine Eq.trans (x0 (h := 21) hT rfl) ?_
    refine Eq.trans (x1 (h := 22) hT rfl rfl (by decide)) ?_
    refine Eq.trans (x1 (h := 23) hT rfl rfl (by decide)) ?_
    refine Eq.trans (x1 (h := 24) hT rfl rfl (by decide)) ?_
    refine Eq.trans (x1 (h := 25) hT rfl rfl (by decide)) ?_
    refine Eq.trans (x1 (h := 26) hT rfl rfl (by decide)) ?_
    refine Eq.trans (x31 (r := a0) (cl := 12) (as := [(0, 0), (0, a1), (0, a5), (0, a3), (0, a4), (0, a3)]) (st' := []) (h := 27) hT rfl sm_237 rfl ha0) ?_
    refine xbd (fun q7 => ?_)
    rw [rv_237]
    change zB P 264 28 [(2, ((a0 : Nat) : Int)), (0, a1), (2, ((a2 : Nat) : Int)), (0, a3), (0, a4), (0, a5)] [(0, q7.1)] q7.2 = _
    refine Eq.trans (x16_0 (h := 28) hT rfl) ?_
    refine xit (fun _ => ?_) (fun _ => ?_)
    · refine Eq.trans (x4 (ls' := [(2, ((a0 : Nat) : Int)), (0, a1), (2, ((a2 : Nat) : Int)), (0, a3), (0, a4), (0, (a5 + 1))]) (h := 31) hT rfl rfl rfl) ?_
      refine Eq.trans (x18 (h := 32) hT rfl) ?_
      exact rfl
    · refine Eq.trans (x1 (h := 29) hT rfl rfl (by decide)) ?_
      refine Eq.trans (x2 (ls' := [(2, ((a0 : Nat) : Int)), (0, a1), (2, ((a2 : Nat) : Int)), (0, a3), (0, a5), (0, a5)]) (h := 30) hT rfl (Nat.le_of_ble_eq_true rfl) rfl) ?_
      refine Eq.trans (x4 (ls' := [(2, ((a0 : Nat) : Int)), (0, a1), (2, ((a2 : Nat) : Int)), (0, a3), (0, a5), (0, (a5 + 1))]) (h := 31) hT rfl rfl rfl) ?_
      refine Eq.trans (x18 (h := 32) hT rfl) ?_
      exact rfl
/-! WordLinksModel.makesNew()V -/
set_option maxRecDepth 100000 in
theorem e_265 {P : zP} {d : zD P} {a0 : Nat} (ha0 : zkd a0 = 12) : MM P 265 [(2, ((a0 : Nat) : Int))] d = zB P 265 2 [(2, ((a0 : Nat) : Int)), (0, 0), (3, 0), (3, 0)] [] d := by
  have hT := cT_265
  refine Eq.trans (MM_def sm_265 (Nat.le_of_ble_eq_true rfl)) ?_
  change zB P 265 0 [(2, ((a0 : Nat) : Int)), (3, 0), (3, 0), (3, 0)] [] d = _
  refine Eq.trans (x0 (h := 0) hT rfl) ?_
  refine Eq.trans (x2 (ls' := [(2, ((a0 : Nat) : Int)), (0, 0), (3, 0), (3, 0)]) (h := 1) hT rfl (Nat.le_of_ble_eq_true rfl) rfl) ?_
  exact rfl
set_option maxRecDepth 100000 in
theorem q_265_2 {P : zP} {d : zD P} {a0 : Nat} {a1 : Int} {g2 : zV} {g3 : zV} (ha0 : zkd a0 = 12) : zB P 265 2 [(2, ((a0 : Nat) : Int)), (0, a1), g2, g3] [] d = (if wr 3200 ≤ wr a1 then zB P 265 16 [(2, ((a0 : Nat) : Int)), (0, 0), g2, g3] [] d else (if zin ((1144 + a1)) 18180 then zB P 265 2 [(2, ((a0 : Nat) : Int)), (0, (a1 + 1)), g2, g3] [] ((d.up ((a0 + 1)) (zix ((1144 + a1))) ((-1)))) else none)) := by
  have hT := cT_265
  refine Eq.trans (x1 (h := 2) hT rfl rfl (by decide)) ?_
  refine Eq.trans (x0 (h := 3) hT rfl) ?_
  refine Eq.trans (x17_3 (h := 4) hT rfl) ?_
  refine xit (fun _ => ?_) (fun _ => ?_)
  · refine Eq.trans (x0 (h := 14) hT rfl) ?_
    refine Eq.trans (x2 (ls' := [(2, ((a0 : Nat) : Int)), (0, 0), g2, g3]) (h := 15) hT rfl (Nat.le_of_ble_eq_true rfl) rfl) ?_
    exact rfl
  · refine Eq.trans (x1 (h := 5) hT rfl rfl (by decide)) ?_
    refine Eq.trans (x21r (r := a0) (cl := 12) (o := 1) (h := 6) hT rfl ha0 (by decide) rfl) ?_
    refine Eq.trans (x0 (h := 7) hT rfl) ?_
    refine Eq.trans (x1 (h := 8) hT rfl rfl (by decide)) ?_
    refine Eq.trans (x5_0 (h := 9) hT rfl) ?_
    refine Eq.trans (x0 (h := 10) hT rfl) ?_
    refine Eq.trans (x25a (r := (a0 + 1)) (n := 18180) (h := 11) hT rfl (kd_12_0 ha0) (ln_12_0 ha0) (by decide) rfl) ?_
    refine xig (fun hz1 => ?_)
    refine Eq.trans (x4 (ls' := [(2, ((a0 : Nat) : Int)), (0, (a1 + 1)), g2, g3]) (h := 12) hT rfl rfl rfl) ?_
    refine Eq.trans (x18 (h := 13) hT rfl) ?_
    exact rfl
set_option maxRecDepth 100000 in
theorem q_265_16 {P : zP} {d : zD P} {a0 : Nat} {a1 : Int} {g2 : zV} {g3 : zV} (ha0 : zkd a0 = 12) : zB P 265 16 [(2, ((a0 : Nat) : Int)), (0, a1), g2, g3] [] d = (if wr 16 ≤ wr a1 then zB P 265 30 [(2, ((a0 : Nat) : Int)), (0, 0), g2, g3] [] d else (if zin ((8 + a1)) 18180 then zB P 265 16 [(2, ((a0 : Nat) : Int)), (0, (a1 + 1)), g2, g3] [] ((d.up ((a0 + 1)) (zix ((8 + a1))) 12500)) else none)) := by
  have hT := cT_265
  refine Eq.trans (x1 (h := 16) hT rfl rfl (by decide)) ?_
  refine Eq.trans (x0 (h := 17) hT rfl) ?_
  refine Eq.trans (x17_3 (h := 18) hT rfl) ?_
  refine xit (fun _ => ?_) (fun _ => ?_)
  · refine Eq.trans (x0 (h := 28) hT rfl) ?_
    refine Eq.trans (x2 (ls' := [(2, ((a0 : Nat) : Int)), (0, 0), g2, g3]) (h := 29) hT rfl (Nat.le_of_ble_eq_true rfl) rfl) ?_
    exact rfl
  · refine Eq.trans (x1 (h := 19) hT rfl rfl (by decide)) ?_
    refine Eq.trans (x21r (r := a0) (cl := 12) (o := 1) (h := 20) hT rfl ha0 (by decide) rfl) ?_
    refine Eq.trans (x0 (h := 21) hT rfl) ?_
    refine Eq.trans (x1 (h := 22) hT rfl rfl (by decide)) ?_
    refine Eq.trans (x5_0 (h := 23) hT rfl) ?_
    refine Eq.trans (x0 (h := 24) hT rfl) ?_
    refine Eq.trans (x25a (r := (a0 + 1)) (n := 18180) (h := 25) hT rfl (kd_12_0 ha0) (ln_12_0 ha0) (by decide) rfl) ?_
    refine xig (fun hz2 => ?_)
    refine Eq.trans (x4 (ls' := [(2, ((a0 : Nat) : Int)), (0, (a1 + 1)), g2, g3]) (h := 26) hT rfl rfl rfl) ?_
    refine Eq.trans (x18 (h := 27) hT rfl) ?_
    exact rfl
set_option maxRecDepth 100000 in
theorem q_265_30 {P : zP} {d : zD P} {a0 : Nat} {a1 : Int} {g2 : zV} {g3 : zV} (ha0 : zkd a0 = 12) : zB P 265 30 [(2, ((a0 : Nat) : Int)), (0, a1), g2, g3] [] d = (if zin 0 18180 then (if wr ((d.m ((a0 + 1)) (zix 0))) ≤ wr a1 then zB P 265 88 [(2, ((a0 : Nat) : Int)), (0, 0), g2, g3] [] d else zB P 265 38 [(2, ((a0 : Nat) : Int)), (0, a1), (0, 0), g3] [] d) else none) := by
  have hT := cT_265
  refine Eq.trans (x1 (h := 30) hT rfl rfl (by decide)) ?_
  refine Eq.trans (x1 (h := 31) hT rfl rfl (by decide)) ?_
  refine Eq.trans (x21r (r := a0) (cl := 12) (o := 1) (h := 32) hT rfl ha0 (by decide) rfl) ?_
  refine Eq.trans (x0 (h := 33) hT rfl) ?_
  refine Eq.trans (x24 (r := (a0 + 1)) (n := 18180) (h := 34) hT rfl (Or.inl (kd_12_0 ha0)) (ln_12_0 ha0)) ?_
  refine xig (fun hz3 => ?_)
  refine Eq.trans (x17_3 (h := 35) hT rfl) ?_
  refine xit (fun _ => ?_) (fun _ => ?_)
  · refine Eq.trans (x0 (h := 86) hT rfl) ?_
    refine Eq.trans (x2 (ls' := [(2, ((a0 : Nat) : Int)), (0, 0), g2, g3]) (h := 87) hT rfl (Nat.le_of_ble_eq_true rfl) rfl) ?_
    exact rfl
  · refine Eq.trans (x0 (h := 36) hT rfl) ?_
    refine Eq.trans (x2 (ls' := [(2, ((a0 : Nat) : Int)), (0, a1), (0, 0), g3]) (h := 37) hT rfl (Nat.le_of_ble_eq_true rfl) rfl) ?_
    exact rfl
set_option maxRecDepth 100000 in
theorem q_265_88 {P : zP} {d : zD P} {a0 : Nat} {a1 : Int} {g2 : zV} {g3 : zV} (ha0 : zkd a0 = 12) : zB P 265 88 [(2, ((a0 : Nat) : Int)), (0, a1), g2, g3] [] d = (if wr 2 ≤ wr a1 then some (0, d) else zB P 265 93 [(2, ((a0 : Nat) : Int)), (0, a1), (0, 0), g3] [] d) := by
  have hT := cT_265
  refine Eq.trans (x1 (h := 88) hT rfl rfl (by decide)) ?_
  refine Eq.trans (x0 (h := 89) hT rfl) ?_
  refine Eq.trans (x17_3 (h := 90) hT rfl) ?_
  refine xit (fun _ => ?_) (fun _ => ?_)
  · exact x20 (h := 107) hT rfl
  · refine Eq.trans (x0 (h := 91) hT rfl) ?_
    refine Eq.trans (x2 (ls' := [(2, ((a0 : Nat) : Int)), (0, a1), (0, 0), g3]) (h := 92) hT rfl (Nat.le_of_ble_eq_true rfl) rfl) ?_
    exact rfl
set_option maxRecDepth 100000 in
theorem q_265_38 {P : zP} {d : zD P} {a0 : Nat} {a1 : Int} {a2 : Int} {g3 : zV} (ha0 : zkd a0 = 12) : zB P 265 38 [(2, ((a0 : Nat) : Int)), (0, a1), (0, a2), g3] [] d = ((MM P 60 [(2, ((a0 : Nat) : Int)), (0, a1), (0, 0)] d).bind fun q4 => (if wr q4.1 ≤ wr a2 then zB P 265 30 [(2, ((a0 : Nat) : Int)), (0, (a1 + 1)), (0, a2), g3] [] q4.2 else zB P 265 46 [(2, ((a0 : Nat) : Int)), (0, a1), (0, a2), (0, 0)] [] q4.2)) := by
  have hT := cT_265
  refine Eq.trans (x1 (h := 38) hT rfl rfl (by decide)) ?_
  refine Eq.trans (x1 (h := 39) hT rfl rfl (by decide)) ?_
  refine Eq.trans (x1 (h := 40) hT rfl rfl (by decide)) ?_
  refine Eq.trans (x0 (h := 41) hT rfl) ?_
  refine Eq.trans (x31 (r := a0) (cl := 12) (as := [(0, a1), (0, 0)]) (st' := [(0, a2)]) (h := 42) hT rfl sm_60 rfl ha0) ?_
  refine xbd (fun q4 => ?_)
  rw [rv_60]
  change zB P 265 43 [(2, ((a0 : Nat) : Int)), (0, a1), (0, a2), g3] [(0, q4.1), (0, a2)] q4.2 = _
  refine Eq.trans (x17_3 (h := 43) hT rfl) ?_
  refine xit (fun _ => ?_) (fun _ => ?_)
  · refine Eq.trans (x4 (ls' := [(2, ((a0 : Nat) : Int)), (0, (a1 + 1)), (0, a2), g3]) (h := 84) hT rfl rfl rfl) ?_
    refine Eq.trans (x18 (h := 85) hT rfl) ?_
    exact rfl
  · refine Eq.trans (x0 (h := 44) hT rfl) ?_
    refine Eq.trans (x2 (ls' := [(2, ((a0 : Nat) : Int)), (0, a1), (0, a2), (0, 0)]) (h := 45) hT rfl (Nat.le_of_ble_eq_true rfl) rfl) ?_
    exact rfl
set_option maxRecDepth 100000 in
theorem q_265_93 {P : zP} {d : zD P} {a0 : Nat} {a1 : Int} {a2 : Int} {g3 : zV} (ha0 : zkd a0 = 12) : zB P 265 93 [(2, ((a0 : Nat) : Int)), (0, a1), (0, a2), g3] [] d = ((MM P 81 [(2, ((a0 : Nat) : Int)), (0, a1)] d).bind fun q5 => (if wr q5.1 ≤ wr a2 then zB P 265 88 [(2, ((a0 : Nat) : Int)), (0, (a1 + 1)), (0, a2), g3] [] q5.2 else ((MM P 240 [(2, ((a0 : Nat) : Int)), (0, a1), (0, a2), (0, 1)] q5.2).bind fun q6 => zB P 265 93 [(2, ((a0 : Nat) : Int)), (0, a1), (0, (a2 + 1)), g3] [] q6.2))) := by
  have hT := cT_265
  refine Eq.trans (x1 (h := 93) hT rfl rfl (by decide)) ?_
  refine Eq.trans (x1 (h := 94) hT rfl rfl (by decide)) ?_
  refine Eq.trans (x1 (h := 95) hT rfl rfl (by decide)) ?_
  refine Eq.trans (x31 (r := a0) (cl := 12) (as := [(0, a1)]) (st' := [(0, a2)]) (h := 96) hT rfl sm_81 rfl ha0) ?_
  refine xbd (fun q5 => ?_)
  rw [rv_81]
  change zB P 265 97 [(2, ((a0 : Nat) : Int)), (0, a1), (0, a2), g3] [(0, q5.1), (0, a2)] q5.2 = _
  refine Eq.trans (x17_3 (h := 97) hT rfl) ?_
  refine xit (fun _ => ?_) (fun _ => ?_)
  · refine Eq.trans (x4 (ls' := [(2, ((a0 : Nat) : Int)), (0, (a1 + 1)), (0, a2), g3]) (h := 105) hT rfl rfl rfl) ?_
    refine Eq.trans (x18 (h := 106) hT rfl) ?_
    exact rfl
  · refine Eq.trans (x1 (h := 98) hT rfl rfl (by decide)) ?_
    refine Eq.trans (x1 (h := 99) hT rfl rfl (by decide)) ?_
    refine Eq.trans (x1 (h := 100) hT rfl rfl (by decide)) ?_
    refine Eq.trans (x0 (h := 101) hT rfl) ?_
    refine Eq.trans (x31 (r := a0) (cl := 12) (as := [(0, a1), (0, a2), (0, 1)]) (st' := []) (h := 102) hT rfl sm_240 rfl ha0) ?_
    refine xbd (fun q6 => ?_)
    rw [rv_240]
    change zB P 265 103 [(2, ((a0 : Nat) : Int)), (0, a1), (0, a2), g3] [] q6.2 = _
    refine Eq.trans (x4 (ls' := [(2, ((a0 : Nat) : Int)), (0, a1), (0, (a2 + 1)), g3]) (h := 103) hT rfl rfl rfl) ?_
    refine Eq.trans (x18 (h := 104) hT rfl) ?_
    exact rfl
set_option maxRecDepth 100000 in
theorem q_265_46 {P : zP} {d : zD P} {a0 : Nat} {a1 : Int} {a2 : Int} {a3 : Int} (ha0 : zkd a0 = 12) : zB P 265 46 [(2, ((a0 : Nat) : Int)), (0, a1), (0, a2), (0, a3)] [] d = ((MM P 60 [(2, ((a0 : Nat) : Int)), (0, a1), (0, 1)] d).bind fun q7 => (if wr q7.1 ≤ wr a3 then zB P 265 38 [(2, ((a0 : Nat) : Int)), (0, a1), (0, (a2 + 1)), (0, a3)] [] q7.2 else ((MM P 80 [(2, ((a0 : Nat) : Int)), (0, a1), (0, 0), (0, a2)] q7.2).bind fun q8 => ((MM P 80 [(2, ((a0 : Nat) : Int)), (0, a1), (0, 1), (0, a3)] q8.2).bind fun q9 => ((MM P 70 [(2, ((a0 : Nat) : Int)), (0, 0), (0, q8.1), (0, q9.1), (0, 0)] q9.2).bind fun q10 => ((MM P 80 [(2, ((a0 : Nat) : Int)), (0, a1), (0, 1), (0, a3)] q10.2).bind fun q11 => ((MM P 80 [(2, ((a0 : Nat) : Int)), (0, a1), (0, 0), (0, a2)] q11.2).bind fun q12 => ((MM P 70 [(2, ((a0 : Nat) : Int)), (0, 1), (0, q11.1), (0, q12.1), (0, 0)] q12.2).bind fun q13 => zB P 265 46 [(2, ((a0 : Nat) : Int)), (0, a1), (0, a2), (0, (a3 + 1))] [] q13.2)))))))) := by
  have hT := cT_265
  refine Eq.trans (x1 (h := 46) hT rfl rfl (by decide)) ?_
  refine Eq.trans (x1 (h := 47) hT rfl rfl (by decide)) ?_
  refine Eq.trans (x1 (h := 48) hT rfl rfl (by decide)) ?_
  refine Eq.trans (x0 (h := 49) hT rfl) ?_
  refine Eq.trans (x31 (r := a0) (cl := 12) (as := [(0, a1), (0, 1)]) (st' := [(0, a3)]) (h := 50) hT rfl sm_60 rfl ha0) ?_
  refine xbd (fun q7 => ?_)
  rw [rv_60]
  change zB P 265 51 [(2, ((a0 : Nat) : Int)), (0, a1), (0, a2), (0, a3)] [(0, q7.1), (0, a3)] q7.2 = _
  refine Eq.trans (x17_3 (h := 51) hT rfl) ?_
  refine xit (fun _ => ?_) (fun _ => ?_)
  · refine Eq.trans (x4 (ls' := [(2, ((a0 : Nat) : Int)), (0, a1), (0, (a2 + 1)), (0, a3)]) (h := 82) hT rfl rfl rfl) ?_
    refine Eq.trans (x18 (h := 83) hT rfl) ?_
    exact rfl
  · refine Eq.trans (x1 (h := 52) hT rfl rfl (by decide)) ?_
    refine Eq.trans (x0 (h := 53) hT rfl) ?_
    refine Eq.trans (x1 (h := 54) hT rfl rfl (by decide)) ?_
    refine Eq.trans (x1 (h := 55) hT rfl rfl (by decide)) ?_
    refine Eq.trans (x0 (h := 56) hT rfl) ?_
    refine Eq.trans (x1 (h := 57) hT rfl rfl (by decide)) ?_
    refine Eq.trans (x31 (r := a0) (cl := 12) (as := [(0, a1), (0, 0), (0, a2)]) (st' := [(0, 0), (2, ((a0 : Nat) : Int))]) (h := 58) hT rfl sm_80 rfl ha0) ?_
    refine xbd (fun q8 => ?_)
    rw [rv_80]
    change zB P 265 59 [(2, ((a0 : Nat) : Int)), (0, a1), (0, a2), (0, a3)] [(0, q8.1), (0, 0), (2, ((a0 : Nat) : Int))] q8.2 = _
    refine Eq.trans (x1 (h := 59) hT rfl rfl (by decide)) ?_
    refine Eq.trans (x1 (h := 60) hT rfl rfl (by decide)) ?_
    refine Eq.trans (x0 (h := 61) hT rfl) ?_
    refine Eq.trans (x1 (h := 62) hT rfl rfl (by decide)) ?_
    refine Eq.trans (x31 (r := a0) (cl := 12) (as := [(0, a1), (0, 1), (0, a3)]) (st' := [(0, q8.1), (0, 0), (2, ((a0 : Nat) : Int))]) (h := 63) hT rfl sm_80 rfl ha0) ?_
    refine xbd (fun q9 => ?_)
    rw [rv_80]
    change zB P 265 64 [(2, ((a0 : Nat) : Int)), (0, a1), (0, a2), (0, a3)] [(0, q9.1), (0, q8.1), (0, 0), (2, ((a0 : Nat) : Int))] q9.2 = _
    refine Eq.trans (x0 (h := 64) hT rfl) ?_
    refine Eq.trans (x31 (r := a0) (cl := 12) (as := [(0, 0), (0, q8.1), (0, q9.1), (0, 0)]) (st' := []) (h := 65) hT rfl sm_70 rfl ha0) ?_
    refine xbd (fun q10 => ?_)
    rw [rv_70]
    change zB P 265 66 [(2, ((a0 : Nat) : Int)), (0, a1), (0, a2), (0, a3)] [] q10.2 = _
    refine Eq.trans (x1 (h := 66) hT rfl rfl (by decide)) ?_
    refine Eq.trans (x0 (h := 67) hT rfl) ?_
    refine Eq.trans (x1 (h := 68) hT rfl rfl (by decide)) ?_
    refine Eq.trans (x1 (h := 69) hT rfl rfl (by decide)) ?_
    refine Eq.trans (x0 (h := 70) hT rfl) ?_
    refine Eq.trans (x1 (h := 71) hT rfl rfl (by decide)) ?_
    refine Eq.trans (x31 (r := a0) (cl := 12) (as := [(0, a1), (0, 1), (0, a3)]) (st' := [(0, 1), (2, ((a0 : Nat) : Int))]) (h := 72) hT rfl sm_80 rfl ha0) ?_
    refine xbd (fun q11 => ?_)
    rw [rv_80]
    change zB P 265 73 [(2, ((a0 : Nat) : Int)), (0, a1), (0, a2), (0, a3)] [(0, q11.1), (0, 1), (2, ((a0 : Nat) : Int))] q11.2 = _
    refine Eq.trans (x1 (h := 73) hT rfl rfl (by decide)) ?_
    refine Eq.trans (x1 (h := 74) hT rfl rfl (by decide)) ?_
    refine Eq.trans (x0 (h := 75) hT rfl) ?_
    refine Eq.trans (x1 (h := 76) hT rfl rfl (by decide)) ?_
    refine Eq.trans (x31 (r := a0) (cl := 12) (as := [(0, a1), (0, 0), (0, a2)]) (st' := [(0, q11.1), (0, 1), (2, ((a0 : Nat) : Int))]) (h := 77) hT rfl sm_80 rfl ha0) ?_
    refine xbd (fun q12 => ?_)
    rw [rv_80]
    change zB P 265 78 [(2, ((a0 : Nat) : Int)), (0, a1), (0, a2), (0, a3)] [(0, q12.1), (0, q11.1), (0, 1), (2, ((a0 : Nat) : Int))] q12.2 = _
    refine Eq.trans (x0 (h := 78) hT rfl) ?_
    refine Eq.trans (x31 (r := a0) (cl := 12) (as := [(0, 1), (0, q11.1), (0, q12.1), (0, 0)]) (st' := []) (h := 79) hT rfl sm_70 rfl ha0) ?_
    refine xbd (fun q13 => ?_)
    rw [rv_70]
    change zB P 265 80 [(2, ((a0 : Nat) : Int)), (0, a1), (0, a2), (0, a3)] [] q13.2 = _
    refine Eq.trans (x4 (ls' := [(2, ((a0 : Nat) : Int)), (0, a1), (0, a2), (0, (a3 + 1))]) (h := 80) hT rfl rfl rfl) ?_
    refine Eq.trans (x18 (h := 81) hT rfl) ?_
    exact rfl
/-! WordLinksModel.part(IIII)I -/
set_option maxRecDepth 100000 in
theorem e_266 {P : zP} {d : zD P} {a0 : Nat} {a1 : Int} {a2 : Int} {a3 : Int} {a4 : Int} (ha0 : zkd a0 = 12) : MM P 266 [(2, ((a0 : Nat) : Int)), (0, a1), (0, a2), (0, a3), (0, a4)] d = ((MM P 147 [(0, a1)] d).bind fun q1 => (if wr q1.1 = 0 then some ((-1), q1.2) else ((MM P 145 [(2, ((a0 : Nat) : Int)), (0, a2)] q1.2).bind fun q2 => (if wr q2.1 = 0 then some ((-1), q2.2) else ((MM P 60 [(2, ((a0 : Nat) : Int)), (0, a2), (0, a1)] q2.2).bind fun q3 => ((MM P 55 [(0, a3), (0, 0), (0, (q3.1 - 1))] q3.2).bind fun q4 => (if wr q4.1 = 0 then some ((-1), q4.2) else ((MM P 60 [(2, ((a0 : Nat) : Int)), (0, a2), (0, (1 - a1))] q4.2).bind fun q5 => ((MM P 55 [(0, a4), (0, 0), (0, (q5.1 - 1))] q5.2).bind fun q6 => (if wr q6.1 ≠ 0 then ((MM P 239 [(2, ((a0 : Nat) : Int)), (0, a1), (0, a2), (0, a4)] q6.2).bind fun q7 => (if zin a3 40 then some ((q7.2.m ((a0 + 13)) (zix a3)), q7.2) else none)) else some ((-1), q6.2))))))))))) := by
  have hT := cT_266
  refine Eq.trans (MM_def sm_266 (Nat.le_of_ble_eq_true rfl)) ?_
  change zB P 266 0 [(2, ((a0 : Nat) : Int)), (0, a1), (0, a2), (0, a3), (0, a4)] [] d = _
  refine Eq.trans (x1 (h := 0) hT rfl rfl (by decide)) ?_
  refine Eq.trans (x34 (as := [(0, a1)]) (st' := []) (h := 1) hT rfl sm_147 rfl) ?_
  refine xbd (fun q1 => ?_)
  rw [rv_147]
  change zB P 266 2 [(2, ((a0 : Nat) : Int)), (0, a1), (0, a2), (0, a3), (0, a4)] [(0, q1.1)] q1.2 = _
  refine Eq.trans (x16_0 (h := 2) hT rfl) ?_
  refine xit (fun _ => ?_) (fun _ => ?_)
  · refine Eq.trans (x0 (h := 29) hT rfl) ?_
    exact x201 (h := 30) hT rfl
  · refine Eq.trans (x1 (h := 3) hT rfl rfl (by decide)) ?_
    refine Eq.trans (x1 (h := 4) hT rfl rfl (by decide)) ?_
    refine Eq.trans (x31 (r := a0) (cl := 12) (as := [(0, a2)]) (st' := []) (h := 5) hT rfl sm_145 rfl ha0) ?_
    refine xbd (fun q2 => ?_)
    rw [rv_145]
    change zB P 266 6 [(2, ((a0 : Nat) : Int)), (0, a1), (0, a2), (0, a3), (0, a4)] [(0, q2.1)] q2.2 = _
    refine Eq.trans (x16_0 (h := 6) hT rfl) ?_
    refine xit (fun _ => ?_) (fun _ => ?_)
    · refine Eq.trans (x0 (h := 29) hT rfl) ?_
      exact x201 (h := 30) hT rfl
    · refine Eq.trans (x1 (h := 7) hT rfl rfl (by decide)) ?_
      refine Eq.trans (x0 (h := 8) hT rfl) ?_
      refine Eq.trans (x1 (h := 9) hT rfl rfl (by decide)) ?_
      refine Eq.trans (x1 (h := 10) hT rfl rfl (by decide)) ?_
      refine Eq.trans (x1 (h := 11) hT rfl rfl (by decide)) ?_
      refine Eq.trans (x31 (r := a0) (cl := 12) (as := [(0, a2), (0, a1)]) (st' := [(0, 0), (0, a3)]) (h := 12) hT rfl sm_60 rfl ha0) ?_
      refine xbd (fun q3 => ?_)
      rw [rv_60]
      change zB P 266 13 [(2, ((a0 : Nat) : Int)), (0, a1), (0, a2), (0, a3), (0, a4)] [(0, q3.1), (0, 0), (0, a3)] q3.2 = _
      refine Eq.trans (x0 (h := 13) hT rfl) ?_
      refine Eq.trans (x5_1 (h := 14) hT rfl) ?_
      refine Eq.trans (x34 (as := [(0, a3), (0, 0), (0, (q3.1 - 1))]) (st' := []) (h := 15) hT rfl sm_55 rfl) ?_
      refine xbd (fun q4 => ?_)
      rw [rv_55]
      change zB P 266 16 [(2, ((a0 : Nat) : Int)), (0, a1), (0, a2), (0, a3), (0, a4)] [(0, q4.1)] q4.2 = _
      refine Eq.trans (x16_0 (h := 16) hT rfl) ?_
      refine xit (fun _ => ?_) (fun _ => ?_)
      · refine Eq.trans (x0 (h := 29) hT rfl) ?_
        exact x201 (h := 30) hT rfl
      · refine Eq.trans (x1 (h := 17) hT rfl rfl (by decide)) ?_
        refine Eq.trans (x0 (h := 18) hT rfl) ?_
        refine Eq.trans (x1 (h := 19) hT rfl rfl (by decide)) ?_
        refine Eq.trans (x1 (h := 20) hT rfl rfl (by decide)) ?_
        refine Eq.trans (x0 (h := 21) hT rfl) ?_
        refine Eq.trans (x1 (h := 22) hT rfl rfl (by decide)) ?_
        refine Eq.trans (x5_1 (h := 23) hT rfl) ?_
        refine Eq.trans (x31 (r := a0) (cl := 12) (as := [(0, a2), (0, (1 - a1))]) (st' := [(0, 0), (0, a4)]) (h := 24) hT rfl sm_60 rfl ha0) ?_
        refine xbd (fun q5 => ?_)
        rw [rv_60]
        change zB P 266 25 [(2, ((a0 : Nat) : Int)), (0, a1), (0, a2), (0, a3), (0, a4)] [(0, q5.1), (0, 0), (0, a4)] q5.2 = _
        refine Eq.trans (x0 (h := 25) hT rfl) ?_
        refine Eq.trans (x5_1 (h := 26) hT rfl) ?_
        refine Eq.trans (x34 (as := [(0, a4), (0, 0), (0, (q5.1 - 1))]) (st' := []) (h := 27) hT rfl sm_55 rfl) ?_
        refine xbd (fun q6 => ?_)
        rw [rv_55]
        change zB P 266 28 [(2, ((a0 : Nat) : Int)), (0, a1), (0, a2), (0, a3), (0, a4)] [(0, q6.1)] q6.2 = _
        refine Eq.trans (x16_1 (h := 28) hT rfl) ?_
        refine xit (fun _ => ?_) (fun _ => ?_)
        · refine Eq.trans (x1 (h := 31) hT rfl rfl (by decide)) ?_
          refine Eq.trans (x1 (h := 32) hT rfl rfl (by decide)) ?_
          refine Eq.trans (x1 (h := 33) hT rfl rfl (by decide)) ?_
          refine Eq.trans (x1 (h := 34) hT rfl rfl (by decide)) ?_
          refine Eq.trans (x31 (r := a0) (cl := 12) (as := [(0, a1), (0, a2), (0, a4)]) (st' := []) (h := 35) hT rfl sm_239 rfl ha0) ?_
          refine xbd (fun q7 => ?_)
          rw [rv_239]
          change zB P 266 36 [(2, ((a0 : Nat) : Int)), (0, a1), (0, a2), (0, a3), (0, a4)] [] q7.2 = _
          refine Eq.trans (x1 (h := 36) hT rfl rfl (by decide)) ?_
          refine Eq.trans (x21r (r := a0) (cl := 12) (o := 13) (h := 37) hT rfl ha0 (by decide) rfl) ?_
          refine Eq.trans (x1 (h := 38) hT rfl rfl (by decide)) ?_
          refine Eq.trans (x24 (r := (a0 + 13)) (n := 40) (h := 39) hT rfl (Or.inl (kd_12_20 ha0)) (ln_12_20 ha0)) ?_
          refine xig (fun hz8 => ?_)
          exact x201 (h := 40) hT rfl
        · refine Eq.trans (x0 (h := 29) hT rfl) ?_
          exact x201 (h := 30) hT rfl
/-! WordLinksModel.readsSentence(IZ)Z -/
set_option maxRecDepth 100000 in
theorem e_267 {P : zP} {d : zD P} {a0 : Nat} {a1 : Int} {a2 : Int} (ha0 : zkd a0 = 12) : MM P 267 [(2, ((a0 : Nat) : Int)), (0, a1), (0, a2)] d = zB P 267 2 [(2, ((a0 : Nat) : Int)), (0, a1), (0, a2), (0, 0)] [] d := by
  have hT := cT_267
  refine Eq.trans (MM_def sm_267 (Nat.le_of_ble_eq_true rfl)) ?_
  change zB P 267 0 [(2, ((a0 : Nat) : Int)), (0, a1), (0, a2), (3, 0)] [] d = _
  refine Eq.trans (x0 (h := 0) hT rfl) ?_
  refine Eq.trans (x2 (ls' := [(2, ((a0 : Nat) : Int)), (0, a1), (0, a2), (0, 0)]) (h := 1) hT rfl (Nat.le_of_ble_eq_true rfl) rfl) ?_
  exact rfl
set_option maxRecDepth 100000 in
theorem q_267_2 {P : zP} {d : zD P} {a0 : Nat} {a1 : Int} {a2 : Int} {a3 : Int} (ha0 : zkd a0 = 12) : zB P 267 2 [(2, ((a0 : Nat) : Int)), (0, a1), (0, a2), (0, a3)] [] d = (if wr 7 ≤ wr a3 then some (1, d) else (if wr a3 ≠ wr 6 then ((MM P 158 [(2, ((a0 : Nat) : Int))] d).bind fun q1 => (if wr q1.1 ≠ 0 then (if wr a2 = 0 then ((MM P 54 [(2, ((a0 : Nat) : Int))] q1.2).bind fun q2 => (if wr q2.1 = wr 32 then zB P 267 2 [(2, ((a0 : Nat) : Int)), (0, a1), (0, a2), (0, (a3 + 1))] [] ((q2.2.up a0 4 (((q2.2.m a0 4) + 1)))) else some (1, q2.2))) else (if wr ((q1.2.m a0 10)) = 0 then ((MM P 54 [(2, ((a0 : Nat) : Int))] q1.2).bind fun q3 => (if wr q3.1 = wr 32 then zB P 267 2 [(2, ((a0 : Nat) : Int)), (0, a1), (0, a2), (0, (a3 + 1))] [] ((q3.2.up a0 4 (((q3.2.m a0 4) + 1)))) else some (1, q3.2))) else ((MM P 238 [(2, ((a0 : Nat) : Int)), (0, a1), (0, a3)] q1.2).bind fun q4 => (if q4.1 = 0 ∨ q4.1 = 1 then ((MM P 54 [(2, ((a0 : Nat) : Int))] ((q4.2.up a0 10 q4.1))).bind fun q6 => (if wr q6.1 = wr 32 then zB P 267 2 [(2, ((a0 : Nat) : Int)), (0, a1), (0, a2), (0, (a3 + 1))] [] ((q6.2.up a0 4 (((q6.2.m a0 4) + 1)))) else some (1, q6.2))) else none)))) else some (0, q1.2))) else ((MM P 54 [(2, ((a0 : Nat) : Int))] d).bind fun q7 => ((MM P 55 [(0, q7.1), (0, 97), (0, 122)] q7.2).bind fun q8 => (if wr q8.1 = 0 then ((MM P 158 [(2, ((a0 : Nat) : Int))] q8.2).bind fun q9 => (if wr q9.1 ≠ 0 then (if wr a2 = 0 then ((MM P 54 [(2, ((a0 : Nat) : Int))] q9.2).bind fun q10 => (if wr q10.1 = wr 32 then zB P 267 2 [(2, ((a0 : Nat) : Int)), (0, a1), (0, a2), (0, (a3 + 1))] [] ((q10.2.up a0 4 (((q10.2.m a0 4) + 1)))) else some (1, q10.2))) else (if wr ((q9.2.m a0 10)) = 0 then ((MM P 54 [(2, ((a0 : Nat) : Int))] q9.2).bind fun q11 => (if wr q11.1 = wr 32 then zB P 267 2 [(2, ((a0 : Nat) : Int)), (0, a1), (0, a2), (0, (a3 + 1))] [] ((q11.2.up a0 4 (((q11.2.m a0 4) + 1)))) else some (1, q11.2))) else ((MM P 238 [(2, ((a0 : Nat) : Int)), (0, a1), (0, a3)] q9.2).bind fun q12 => (if q12.1 = 0 ∨ q12.1 = 1 then ((MM P 54 [(2, ((a0 : Nat) : Int))] ((q12.2.up a0 10 q12.1))).bind fun q14 => (if wr q14.1 = wr 32 then zB P 267 2 [(2, ((a0 : Nat) : Int)), (0, a1), (0, a2), (0, (a3 + 1))] [] ((q14.2.up a0 4 (((q14.2.m a0 4) + 1)))) else some (1, q14.2))) else none)))) else some (0, q9.2))) else ((MM P 83 [(2, ((a0 : Nat) : Int)), (0, 5), (0, (q8.2.m a0 4))] q8.2).bind fun q15 => (if q15.1 = 0 ∨ q15.1 = 1 then some (q15.1, q15.2) else none))))))) := by
  have hT := cT_267
  refine Eq.trans (x1 (h := 2) hT rfl rfl (by decide)) ?_
  refine Eq.trans (x0 (h := 3) hT rfl) ?_
  refine Eq.trans (x17_3 (h := 4) hT rfl) ?_
  refine xit (fun _ => ?_) (fun _ => ?_)
  · refine Eq.trans (x0 (h := 50) hT rfl) ?_
    exact x203c (h := 51) hT rfl (by decide)
  · refine Eq.trans (x1 (h := 5) hT rfl rfl (by decide)) ?_
    refine Eq.trans (x0 (h := 6) hT rfl) ?_
    refine Eq.trans (x17_1 (h := 7) hT rfl) ?_
    refine xit (fun _ => ?_) (fun _ => ?_)
    · refine Eq.trans (x1 (h := 20) hT rfl rfl (by decide)) ?_
      refine Eq.trans (x31 (r := a0) (cl := 12) (as := []) (st' := []) (h := 21) hT rfl sm_158 rfl ha0) ?_
      refine xbd (fun q1 => ?_)
      rw [rv_158]
      change zB P 267 22 [(2, ((a0 : Nat) : Int)), (0, a1), (0, a2), (0, a3)] [(0, q1.1)] q1.2 = _
      refine Eq.trans (x16_1 (h := 22) hT rfl) ?_
      refine xit (fun _ => ?_) (fun _ => ?_)
      · refine Eq.trans (x1 (h := 25) hT rfl rfl (by decide)) ?_
        refine Eq.trans (x16_0 (h := 26) hT rfl) ?_
        refine xit (fun _ => ?_) (fun _ => ?_)
        · refine Eq.trans (x1 (h := 36) hT rfl rfl (by decide)) ?_
          refine Eq.trans (x31 (r := a0) (cl := 12) (as := []) (st' := []) (h := 37) hT rfl sm_54 rfl ha0) ?_
          refine xbd (fun q2 => ?_)
          rw [rv_54]
          change zB P 267 38 [(2, ((a0 : Nat) : Int)), (0, a1), (0, a2), (0, a3)] [(0, q2.1)] q2.2 = _
          refine Eq.trans (x0 (h := 38) hT rfl) ?_
          refine Eq.trans (x17_0 (h := 39) hT rfl) ?_
          refine xit (fun _ => ?_) (fun _ => ?_)
          · refine Eq.trans (x1 (h := 42) hT rfl rfl (by decide)) ?_
            refine Eq.trans (x1 (h := 43) hT rfl rfl (by decide)) ?_
            refine Eq.trans (x21 (r := a0) (cl := 12) (h := 44) hT rfl ha0) ?_
            refine Eq.trans (x0 (h := 45) hT rfl) ?_
            refine Eq.trans (x5_0 (h := 46) hT rfl) ?_
            refine Eq.trans (x22 (r := a0) (cl := 12) (h := 47) hT rfl ha0 (by decide) rfl (by decide)) ?_
            refine Eq.trans (x4 (ls' := [(2, ((a0 : Nat) : Int)), (0, a1), (0, a2), (0, (a3 + 1))]) (h := 48) hT rfl rfl rfl) ?_
            refine Eq.trans (x18 (h := 49) hT rfl) ?_
            exact rfl
          · refine Eq.trans (x0 (h := 40) hT rfl) ?_
            exact x203c (h := 41) hT rfl (by decide)
        · refine Eq.trans (x1 (h := 27) hT rfl rfl (by decide)) ?_
          refine Eq.trans (x21 (r := a0) (cl := 12) (h := 28) hT rfl ha0) ?_
          refine Eq.trans (x16_0 (h := 29) hT rfl) ?_
          refine xit (fun _ => ?_) (fun _ => ?_)
          · refine Eq.trans (x1 (h := 36) hT rfl rfl (by decide)) ?_
            refine Eq.trans (x31 (r := a0) (cl := 12) (as := []) (st' := []) (h := 37) hT rfl sm_54 rfl ha0) ?_
            refine xbd (fun q3 => ?_)
            rw [rv_54]
            change zB P 267 38 [(2, ((a0 : Nat) : Int)), (0, a1), (0, a2), (0, a3)] [(0, q3.1)] q3.2 = _
            refine Eq.trans (x0 (h := 38) hT rfl) ?_
            refine Eq.trans (x17_0 (h := 39) hT rfl) ?_
            refine xit (fun _ => ?_) (fun _ => ?_)
            · refine Eq.trans (x1 (h := 42) hT rfl rfl (by decide)) ?_
              refine Eq.trans (x1 (h := 43) hT rfl rfl (by decide)) ?_
              refine Eq.trans (x21 (r := a0) (cl := 12) (h := 44) hT rfl ha0) ?_
              refine Eq.trans (x0 (h := 45) hT rfl) ?_
              refine Eq.trans (x5_0 (h := 46) hT rfl) ?_
              refine Eq.trans (x22 (r := a0) (cl := 12) (h := 47) hT rfl ha0 (by decide) rfl (by decide)) ?_
              refine Eq.trans (x4 (ls' := [(2, ((a0 : Nat) : Int)), (0, a1), (0, a2), (0, (a3 + 1))]) (h := 48) hT rfl rfl rfl) ?_
              refine Eq.trans (x18 (h := 49) hT rfl) ?_
              exact rfl
            · refine Eq.trans (x0 (h := 40) hT rfl) ?_
              exact x203c (h := 41) hT rfl (by decide)
          · refine Eq.trans (x1 (h := 30) hT rfl rfl (by decide)) ?_
            refine Eq.trans (x1 (h := 31) hT rfl rfl (by decide)) ?_
            refine Eq.trans (x1 (h := 32) hT rfl rfl (by decide)) ?_
            refine Eq.trans (x1 (h := 33) hT rfl rfl (by decide)) ?_
            refine Eq.trans (x31 (r := a0) (cl := 12) (as := [(0, a1), (0, a3)]) (st' := [(2, ((a0 : Nat) : Int))]) (h := 34) hT rfl sm_238 rfl ha0) ?_
            refine xbd (fun q4 => ?_)
            rw [rv_238]
            change zB P 267 35 [(2, ((a0 : Nat) : Int)), (0, a1), (0, a2), (0, a3)] [(0, q4.1), (2, ((a0 : Nat) : Int))] q4.2 = _
            refine Eq.trans (x22b (r := a0) (cl := 12) (h := 35) hT rfl ha0 (by decide) rfl) ?_
            refine xig (fun hz5 => ?_)
            refine Eq.trans (x1 (h := 36) hT rfl rfl (by decide)) ?_
            refine Eq.trans (x31 (r := a0) (cl := 12) (as := []) (st' := []) (h := 37) hT rfl sm_54 rfl ha0) ?_
            refine xbd (fun q6 => ?_)
            rw [rv_54]
            change zB P 267 38 [(2, ((a0 : Nat) : Int)), (0, a1), (0, a2), (0, a3)] [(0, q6.1)] q6.2 = _
            refine Eq.trans (x0 (h := 38) hT rfl) ?_
            refine Eq.trans (x17_0 (h := 39) hT rfl) ?_
            refine xit (fun _ => ?_) (fun _ => ?_)
            · refine Eq.trans (x1 (h := 42) hT rfl rfl (by decide)) ?_
              refine Eq.trans (x1 (h := 43) hT rfl rfl (by decide)) ?_
              refine Eq.trans (x21 (r := a0) (cl := 12) (h := 44) hT rfl ha0) ?_
              refine Eq.trans (x0 (h := 45) hT rfl) ?_
              refine Eq.trans (x5_0 (h := 46) hT rfl) ?_
              refine Eq.trans (x22 (r := a0) (cl := 12) (h := 47) hT rfl ha0 (by decide) rfl (by decide)) ?_
              refine Eq.trans (x4 (ls' := [(2, ((a0 : Nat) : Int)), (0, a1), (0, a2), (0, (a3 + 1))]) (h := 48) hT rfl rfl rfl) ?_
              refine Eq.trans (x18 (h := 49) hT rfl) ?_
              exact rfl
            · refine Eq.trans (x0 (h := 40) hT rfl) ?_
              exact x203c (h := 41) hT rfl (by decide)
      · refine Eq.trans (x0 (h := 23) hT rfl) ?_
        exact x203c (h := 24) hT rfl (by decide)
    · refine Eq.trans (x1 (h := 8) hT rfl rfl (by decide)) ?_
      refine Eq.trans (x31 (r := a0) (cl := 12) (as := []) (st' := []) (h := 9) hT rfl sm_54 rfl ha0) ?_
      refine xbd (fun q7 => ?_)
      rw [rv_54]
      change zB P 267 10 [(2, ((a0 : Nat) : Int)), (0, a1), (0, a2), (0, a3)] [(0, q7.1)] q7.2 = _
      refine Eq.trans (x0 (h := 10) hT rfl) ?_
      refine Eq.trans (x0 (h := 11) hT rfl) ?_
      refine Eq.trans (x34 (as := [(0, q7.1), (0, 97), (0, 122)]) (st' := []) (h := 12) hT rfl sm_55 rfl) ?_
      refine xbd (fun q8 => ?_)
      rw [rv_55]
      change zB P 267 13 [(2, ((a0 : Nat) : Int)), (0, a1), (0, a2), (0, a3)] [(0, q8.1)] q8.2 = _
      refine Eq.trans (x16_0 (h := 13) hT rfl) ?_
      refine xit (fun _ => ?_) (fun _ => ?_)
      · refine Eq.trans (x1 (h := 20) hT rfl rfl (by decide)) ?_
        refine Eq.trans (x31 (r := a0) (cl := 12) (as := []) (st' := []) (h := 21) hT rfl sm_158 rfl ha0) ?_
        refine xbd (fun q9 => ?_)
        rw [rv_158]
        change zB P 267 22 [(2, ((a0 : Nat) : Int)), (0, a1), (0, a2), (0, a3)] [(0, q9.1)] q9.2 = _
        refine Eq.trans (x16_1 (h := 22) hT rfl) ?_
        refine xit (fun _ => ?_) (fun _ => ?_)
        · refine Eq.trans (x1 (h := 25) hT rfl rfl (by decide)) ?_
          refine Eq.trans (x16_0 (h := 26) hT rfl) ?_
          refine xit (fun _ => ?_) (fun _ => ?_)
          · refine Eq.trans (x1 (h := 36) hT rfl rfl (by decide)) ?_
            refine Eq.trans (x31 (r := a0) (cl := 12) (as := []) (st' := []) (h := 37) hT rfl sm_54 rfl ha0) ?_
            refine xbd (fun q10 => ?_)
            rw [rv_54]
            change zB P 267 38 [(2, ((a0 : Nat) : Int)), (0, a1), (0, a2), (0, a3)] [(0, q10.1)] q10.2 = _
            refine Eq.trans (x0 (h := 38) hT rfl) ?_
            refine Eq.trans (x17_0 (h := 39) hT rfl) ?_
            refine xit (fun _ => ?_) (fun _ => ?_)
            · refine Eq.trans (x1 (h := 42) hT rfl rfl (by decide)) ?_
              refine Eq.trans (x1 (h := 43) hT rfl rfl (by decide)) ?_
              refine Eq.trans (x21 (r := a0) (cl := 12) (h := 44) hT rfl ha0) ?_
              refine Eq.trans (x0 (h := 45) hT rfl) ?_
              refine Eq.trans (x5_0 (h := 46) hT rfl) ?_
              refine Eq.trans (x22 (r := a0) (cl := 12) (h := 47) hT rfl ha0 (by decide) rfl (by decide)) ?_
              refine Eq.trans (x4 (ls' := [(2, ((a0 : Nat) : Int)), (0, a1), (0, a2), (0, (a3 + 1))]) (h := 48) hT rfl rfl rfl) ?_
              refine Eq.trans (x18 (h := 49) hT rfl) ?_
              exact rfl
            · refine Eq.trans (x0 (h := 40) hT rfl) ?_
              exact x203c (h := 41) hT rfl (by decide)
          · refine Eq.trans (x1 (h := 27) hT rfl rfl (by decide)) ?_
            refine Eq.trans (x21 (r := a0) (cl := 12) (h := 28) hT rfl ha0) ?_
            refine Eq.trans (x16_0 (h := 29) hT rfl) ?_
            refine xit (fun _ => ?_) (fun _ => ?_)
            · refine Eq.trans (x1 (h := 36) hT rfl rfl (by decide)) ?_
              refine Eq.trans (x31 (r := a0) (cl := 12) (as := []) (st' := []) (h := 37) hT rfl sm_54 rfl ha0) ?_
              refine xbd (fun q11 => ?_)
              rw [rv_54]
              change zB P 267 38 [(2, ((a0 : Nat) : Int)), (0, a1), (0, a2), (0, a3)] [(0, q11.1)] q11.2 = _
              refine Eq.trans (x0 (h := 38) hT rfl) ?_
              refine Eq.trans (x17_0 (h := 39) hT rfl) ?_
              refine xit (fun _ => ?_) (fun _ => ?_)
              · refine Eq.trans (x1 (h := 42) hT rfl rfl (by decide)) ?_
                refine Eq.trans (x1 (h := 43) hT rfl rfl (by decide)) ?_
                refine Eq.trans (x21 (r := a0) (cl := 12) (h := 44) hT rfl ha0) ?_
                refine Eq.trans (x0 (h := 45) hT rfl) ?_
                refine Eq.trans (x5_0 (h := 46) hT rfl) ?_
                refine Eq.trans (x22 (r := a0) (cl := 12) (h := 47) hT rfl ha0 (by decide) rfl (by decide)) ?_
                refine Eq.trans (x4 (ls' := [(2, ((a0 : Nat) : Int)), (0, a1), (0, a2), (0, (a3 + 1))]) (h := 48) hT rfl rfl rfl) ?_
                refine Eq.trans (x18 (h := 49) hT rfl) ?_
                exact rfl
              · refine Eq.trans (x0 (h := 40) hT rfl) ?_
                exact x203c (h := 41) hT rfl (by decide)
            · refine Eq.trans (x1 (h := 30) hT rfl rfl (by decide)) ?_
              refine Eq.trans (x1 (h := 31) hT rfl rfl (by decide)) ?_
              refine Eq.trans (x1 (h := 32) hT rfl rfl (by decide)) ?_
              refine Eq.trans (x1 (h := 33) hT rfl rfl (by decide)) ?_
              refine Eq.trans (x31 (r := a0) (cl := 12) (as := [(0, a1), (0, a3)]) (st' := [(2, ((a0 : Nat) : Int))]) (h := 34) hT rfl sm_238 rfl ha0) ?_
              refine xbd (fun q12 => ?_)
              rw [rv_238]
              change zB P 267 35 [(2, ((a0 : Nat) : Int)), (0, a1), (0, a2), (0, a3)] [(0, q12.1), (2, ((a0 : Nat) : Int))] q12.2 = _
              refine Eq.trans (x22b (r := a0) (cl := 12) (h := 35) hT rfl ha0 (by decide) rfl) ?_
              refine xig (fun hz13 => ?_)
              refine Eq.trans (x1 (h := 36) hT rfl rfl (by decide)) ?_
              refine Eq.trans (x31 (r := a0) (cl := 12) (as := []) (st' := []) (h := 37) hT rfl sm_54 rfl ha0) ?_
              refine xbd (fun q14 => ?_)
              rw [rv_54]
              change zB P 267 38 [(2, ((a0 : Nat) : Int)), (0, a1), (0, a2), (0, a3)] [(0, q14.1)] q14.2 = _
              refine Eq.trans (x0 (h := 38) hT rfl) ?_
              refine Eq.trans (x17_0 (h := 39) hT rfl) ?_
              refine xit (fun _ => ?_) (fun _ => ?_)
              · refine Eq.trans (x1 (h := 42) hT rfl rfl (by decide)) ?_
                refine Eq.trans (x1 (h := 43) hT rfl rfl (by decide)) ?_
                refine Eq.trans (x21 (r := a0) (cl := 12) (h := 44) hT rfl ha0) ?_
                refine Eq.trans (x0 (h := 45) hT rfl) ?_
                refine Eq.trans (x5_0 (h := 46) hT rfl) ?_
                refine Eq.trans (x22 (r := a0) (cl := 12) (h := 47) hT rfl ha0 (by decide) rfl (by decide)) ?_
                refine Eq.trans (x4 (ls' := [(2, ((a0 : Nat) : Int)), (0, a1), (0, a2), (0, (a3 + 1))]) (h := 48) hT rfl rfl rfl) ?_
                refine Eq.trans (x18 (h := 49) hT rfl) ?_
                exact rfl
              · refine Eq.trans (x0 (h := 40) hT rfl) ?_
                exact x203c (h := 41) hT rfl (by decide)
        · refine Eq.trans (x0 (h := 23) hT rfl) ?_
          exact x203c (h := 24) hT rfl (by decide)
      · refine Eq.trans (x1 (h := 14) hT rfl rfl (by decide)) ?_
        refine Eq.trans (x0 (h := 15) hT rfl) ?_
        refine Eq.trans (x1 (h := 16) hT rfl rfl (by decide)) ?_
        refine Eq.trans (x21 (r := a0) (cl := 12) (h := 17) hT rfl ha0) ?_
        refine Eq.trans (x31 (r := a0) (cl := 12) (as := [(0, 5), (0, (q8.2.m a0 4))]) (st' := []) (h := 18) hT rfl sm_83 rfl ha0) ?_
        refine xbd (fun q15 => ?_)
        rw [rv_83]
        change zB P 267 19 [(2, ((a0 : Nat) : Int)), (0, a1), (0, a2), (0, a3)] [(0, q15.1)] q15.2 = _
        exact x203 (h := 19) hT rfl
/-! WordLinksModel.twinsMany()I -/
set_option maxRecDepth 100000 in
theorem e_268 {P : zP} {d : zD P} {a0 : Nat} (ha0 : zkd a0 = 12) : MM P 268 [(2, ((a0 : Nat) : Int))] d = zB P 268 4 [(2, ((a0 : Nat) : Int)), (0, 0), (0, 0)] [] d := by
  have hT := cT_268
  refine Eq.trans (MM_def sm_268 (Nat.le_of_ble_eq_true rfl)) ?_
  change zB P 268 0 [(2, ((a0 : Nat) : Int)), (3, 0), (3, 0)] [] d = _
  refine Eq.trans (x0 (h := 0) hT rfl) ?_
  refine Eq.trans (x2 (ls' := [(2, ((a0 : Nat) : Int)), (0, 0), (3, 0)]) (h := 1) hT rfl (Nat.le_of_ble_eq_true rfl) rfl) ?_
  refine Eq.trans (x0 (h := 2) hT rfl) ?_
  refine Eq.trans (x2 (ls' := [(2, ((a0 : Nat) : Int)), (0, 0), (0, 0)]) (h := 3) hT rfl (Nat.le_of_ble_eq_true rfl) rfl) ?_
  exact rfl
set_option maxRecDepth 100000 in
theorem q_268_4 {P : zP} {d : zD P} {a0 : Nat} {a1 : Int} {a2 : Int} (ha0 : zkd a0 = 12) : zB P 268 4 [(2, ((a0 : Nat) : Int)), (0, a1), (0, a2)] [] d = ((MM P 81 [(2, ((a0 : Nat) : Int)), (0, 0)] d).bind fun q1 => (if wr q1.1 ≤ wr a2 then some (a1, q1.2) else ((MM P 244 [(2, ((a0 : Nat) : Int)), (0, a2)] q1.2).bind fun q2 => (if wr q2.1 < 0 then zB P 268 4 [(2, ((a0 : Nat) : Int)), (0, a1), (0, (a2 + 1))] [] q2.2 else zB P 268 4 [(2, ((a0 : Nat) : Int)), (0, (a1 + 1)), (0, (a2 + 1))] [] q2.2)))) := by
  have hT := cT_268
  refine Eq.trans (x1 (h := 4) hT rfl rfl (by decide)) ?_
  refine Eq.trans (x1 (h := 5) hT rfl rfl (by decide)) ?_
  refine Eq.trans (x0 (h := 6) hT rfl) ?_
  refine Eq.trans (x31 (r := a0) (cl := 12) (as := [(0, 0)]) (st' := [(0, a2)]) (h := 7) hT rfl sm_81 rfl ha0) ?_
  refine xbd (fun q1 => ?_)
  rw [rv_81]
  change zB P 268 8 [(2, ((a0 : Nat) : Int)), (0, a1), (0, a2)] [(0, q1.1), (0, a2)] q1.2 = _
  refine Eq.trans (x17_3 (h := 8) hT rfl) ?_
  refine xit (fun _ => ?_) (fun _ => ?_)
  · refine Eq.trans (x1 (h := 19) hT rfl rfl (by decide)) ?_
    exact x201 (h := 20) hT rfl
  · refine Eq.trans (x1 (h := 9) hT rfl rfl (by decide)) ?_
    refine Eq.trans (x1 (h := 10) hT rfl rfl (by decide)) ?_
    refine Eq.trans (x31 (r := a0) (cl := 12) (as := [(0, a2)]) (st' := []) (h := 11) hT rfl sm_244 rfl ha0) ?_
    refine xbd (fun q2 => ?_)
    rw [rv_244]
    change zB P 268 12 [(2, ((a0 : Nat) : Int)), (0, a1), (0, a2)] [(0, q2.1)] q2.2 = _
    refine Eq.trans (x16_2 (h := 12) hT rfl) ?_
    refine xit (fun _ => ?_) (fun _ => ?_)
    · refine Eq.trans (x4 (ls' := [(2, ((a0 : Nat) : Int)), (0, a1), (0, (a2 + 1))]) (h := 17) hT rfl rfl rfl) ?_
      refine Eq.trans (x18 (h := 18) hT rfl) ?_
      exact rfl
    · refine Eq.trans (x1 (h := 13) hT rfl rfl (by decide)) ?_
      refine Eq.trans (x0 (h := 14) hT rfl) ?_
      refine Eq.trans (x5_0 (h := 15) hT rfl) ?_
      refine Eq.trans (x2 (ls' := [(2, ((a0 : Nat) : Int)), (0, (a1 + 1)), (0, a2)]) (h := 16) hT rfl (Nat.le_of_ble_eq_true rfl) rfl) ?_
      refine Eq.trans (x4 (ls' := [(2, ((a0 : Nat) : Int)), (0, (a1 + 1)), (0, (a2 + 1))]) (h := 17) hT rfl rfl rfl) ?_
      refine Eq.trans (x18 (h := 18) hT rfl) ?_
      exact rfl
/-! WordLinks$Phrases.fill(LWordLinks$State;LWordLinks$Linker;I)V -/
set_option maxRecDepth 100000 in
theorem e_269 {P : zP} {d : zD P} {a0 : Nat} {a1 : Nat} {a2 : Nat} {a3 : Int} (ha0 : zkd a0 = 4) (ha1 : zkd a1 = 9) (ha2 : zkd a2 = 1) : MM P 269 [(2, ((a0 : Nat) : Int)), (2, ((a1 : Nat) : Int)), (2, ((a2 : Nat) : Int)), (0, a3)] d = zB P 269 5 [(2, ((a0 : Nat) : Int)), (2, ((a1 : Nat) : Int)), (2, ((a2 : Nat) : Int)), (0, a3), (0, 0)] [] ((d.up a0 2 0)) := by
  have hT := cT_269
  refine Eq.trans (MM_def sm_269 (Nat.le_of_ble_eq_true rfl)) ?_
  change zB P 269 0 [(2, ((a0 : Nat) : Int)), (2, ((a1 : Nat) : Int)), (2, ((a2 : Nat) : Int)), (0, a3), (3, 0)] [] d = _
  refine Eq.trans (x1 (h := 0) hT rfl rfl (by decide)) ?_
  refine Eq.trans (x0 (h := 1) hT rfl) ?_
  refine Eq.trans (x22 (r := a0) (cl := 4) (h := 2) hT rfl ha0 (by decide) rfl (by decide)) ?_
  refine Eq.trans (x0 (h := 3) hT rfl) ?_
  refine Eq.trans (x2 (ls' := [(2, ((a0 : Nat) : Int)), (2, ((a1 : Nat) : Int)), (2, ((a2 : Nat) : Int)), (0, a3), (0, 0)]) (h := 4) hT rfl (Nat.le_of_ble_eq_true rfl) rfl) ?_
  exact rfl
set_option maxRecDepth 100000 in
theorem q_269_5 {P : zP} {d : zD P} {a0 : Nat} {a1 : Nat} {a2 : Nat} {a3 : Int} {a4 : Int} (ha0 : zkd a0 = 4) (ha1 : zkd a1 = 9) (ha2 : zkd a2 = 1) : zB P 269 5 [(2, ((a0 : Nat) : Int)), (2, ((a1 : Nat) : Int)), (2, ((a2 : Nat) : Int)), (0, a3), (0, a4)] [] d = (if wr ((d.m ((a1 + 1)) 6)) ≤ wr a4 then some (0, d) else ((MM P 246 [(2, ((a2 : Nat) : Int)), (2, ((a1 : Nat) : Int)), (0, a3), (0, a4)] d).bind fun q1 => ((MM P 220 [(2, ((a0 : Nat) : Int)), (2, (((a1 + 1) : Nat) : Int)), (2, ((a2 : Nat) : Int)), (0, a4)] q1.2).bind fun q2 => zB P 269 5 [(2, ((a0 : Nat) : Int)), (2, ((a1 : Nat) : Int)), (2, ((a2 : Nat) : Int)), (0, a3), (0, (a4 + 1))] [] q2.2))) := by
  have hT := cT_269
  refine Eq.trans (x1 (h := 5) hT rfl rfl (by decide)) ?_
  refine Eq.trans (x1 (h := 6) hT rfl rfl (by decide)) ?_
  refine Eq.trans (x21r (r := a1) (cl := 9) (o := 1) (h := 7) hT rfl ha1 (by decide) rfl) ?_
  refine Eq.trans (x21 (r := (a1 + 1)) (cl := 0) (h := 8) hT rfl (kd_9_0 ha1)) ?_
  refine Eq.trans (x17_3 (h := 9) hT rfl) ?_
  refine xit (fun _ => ?_) (fun _ => ?_)
  · exact x20 (h := 23) hT rfl
  · refine Eq.trans (x1 (h := 10) hT rfl rfl (by decide)) ?_
    refine Eq.trans (x1 (h := 11) hT rfl rfl (by decide)) ?_
    refine Eq.trans (x1 (h := 12) hT rfl rfl (by decide)) ?_
    refine Eq.trans (x1 (h := 13) hT rfl rfl (by decide)) ?_
    refine Eq.trans (x31 (r := a2) (cl := 1) (as := [(2, ((a1 : Nat) : Int)), (0, a3), (0, a4)]) (st' := []) (h := 14) hT rfl sm_246 rfl ha2) ?_
    refine xbd (fun q1 => ?_)
    rw [rv_246]
    change zB P 269 15 [(2, ((a0 : Nat) : Int)), (2, ((a1 : Nat) : Int)), (2, ((a2 : Nat) : Int)), (0, a3), (0, a4)] [] q1.2 = _
    refine Eq.trans (x1 (h := 15) hT rfl rfl (by decide)) ?_
    refine Eq.trans (x1 (h := 16) hT rfl rfl (by decide)) ?_
    refine Eq.trans (x21r (r := a1) (cl := 9) (o := 1) (h := 17) hT rfl ha1 (by decide) rfl) ?_
    refine Eq.trans (x1 (h := 18) hT rfl rfl (by decide)) ?_
    refine Eq.trans (x1 (h := 19) hT rfl rfl (by decide)) ?_
    refine Eq.trans (x31 (r := a0) (cl := 4) (as := [(2, (((a1 + 1) : Nat) : Int)), (2, ((a2 : Nat) : Int)), (0, a4)]) (st' := []) (h := 20) hT rfl sm_220 rfl ha0) ?_
    refine xbd (fun q2 => ?_)
    rw [rv_220]
    change zB P 269 21 [(2, ((a0 : Nat) : Int)), (2, ((a1 : Nat) : Int)), (2, ((a2 : Nat) : Int)), (0, a3), (0, a4)] [] q2.2 = _
    refine Eq.trans (x4 (ls' := [(2, ((a0 : Nat) : Int)), (2, ((a1 : Nat) : Int)), (2, ((a2 : Nat) : Int)), (0, a3), (0, (a4 + 1))]) (h := 21) hT rfl rfl rfl) ?_
    refine Eq.trans (x18 (h := 22) hT rfl) ?_
    exact rfl
/-! WordLinks$Rounder.go(LWordLinks$State;I)V -/
set_option maxRecDepth 100000 in
theorem e_270 {P : zP} {d : zD P} {a0 : Nat} {a1 : Nat} {a2 : Int} (ha0 : zkd a0 = 6) (ha1 : zkd a1 = 9) : MM P 270 [(2, ((a0 : Nat) : Int)), (2, ((a1 : Nat) : Int)), (0, a2)] d = ((MM P 250 [(2, ((a0 : Nat) : Int)), (2, ((a1 : Nat) : Int)), (0, a2)] d).bind fun q1 => zB P 270 6 [(2, ((a0 : Nat) : Int)), (2, ((a1 : Nat) : Int)), (0, a2), (0, 0)] [] q1.2) := by
  have hT := cT_270
  refine Eq.trans (MM_def sm_270 (Nat.le_of_ble_eq_true rfl)) ?_
  change zB P 270 0 [(2, ((a0 : Nat) : Int)), (2, ((a1 : Nat) : Int)), (0, a2), (3, 0)] [] d = _
  refine Eq.trans (x1 (h := 0) hT rfl rfl (by decide)) ?_
  refine Eq.trans (x1 (h := 1) hT rfl rfl (by decide)) ?_
  refine Eq.trans (x1 (h := 2) hT rfl rfl (by decide)) ?_
  refine Eq.trans (x31 (r := a0) (cl := 6) (as := [(2, ((a1 : Nat) : Int)), (0, a2)]) (st' := []) (h := 3) hT rfl sm_250 rfl ha0) ?_
  refine xbd (fun q1 => ?_)
  rw [rv_250]
  change zB P 270 4 [(2, ((a0 : Nat) : Int)), (2, ((a1 : Nat) : Int)), (0, a2), (3, 0)] [] q1.2 = _
  refine Eq.trans (x0 (h := 4) hT rfl) ?_
  refine Eq.trans (x2 (ls' := [(2, ((a0 : Nat) : Int)), (2, ((a1 : Nat) : Int)), (0, a2), (0, 0)]) (h := 5) hT rfl (Nat.le_of_ble_eq_true rfl) rfl) ?_
  exact rfl
set_option maxRecDepth 100000 in
theorem q_270_6 {P : zP} {d : zD P} {a0 : Nat} {a1 : Nat} {a2 : Int} {a3 : Int} (ha0 : zkd a0 = 6) (ha1 : zkd a1 = 9) : zB P 270 6 [(2, ((a0 : Nat) : Int)), (2, ((a1 : Nat) : Int)), (0, a2), (0, a3)] [] d = (if zin a2 2 then (if wr ((d.m (((a1 + 1) + 1)) (zix a2))) ≤ wr a3 then (if wr ((d.m a1 6)) = 0 then some (0, d) else ((MM P 180 [(2, ((a0 : Nat) : Int)), (2, ((a1 : Nat) : Int)), (0, a2)] d).bind fun q3 => some (0, q3.2))) else ((MM P 110 [(2, ((a0 : Nat) : Int)), (2, (((a1 + 1) : Nat) : Int)), (0, a2), (0, a3)] d).bind fun q4 => ((MM P 181 [(2, ((a0 : Nat) : Int)), (2, ((a1 : Nat) : Int)), (0, a2), (0, a3)] q4.2).bind fun q5 => zB P 270 6 [(2, ((a0 : Nat) : Int)), (2, ((a1 : Nat) : Int)), (0, a2), (0, (a3 + 1))] [] q5.2))) else none) := by
  have hT := cT_270
  refine Eq.trans (x1 (h := 6) hT rfl rfl (by decide)) ?_
  refine Eq.trans (x1 (h := 7) hT rfl rfl (by decide)) ?_
  refine Eq.trans (x21r (r := a1) (cl := 9) (o := 1) (h := 8) hT rfl ha1 (by decide) rfl) ?_
  refine Eq.trans (x21r (r := (a1 + 1)) (cl := 0) (o := 1) (h := 9) hT rfl (kd_9_0 ha1) (by decide) rfl) ?_
  refine Eq.trans (x1 (h := 10) hT rfl rfl (by decide)) ?_
  refine Eq.trans (x24 (r := ((a1 + 1) + 1)) (n := 2) (h := 11) hT rfl (Or.inl (kd_0_0 (kd_9_0 ha1))) (ln_0_0 (kd_9_0 ha1))) ?_
  refine xig (fun hz2 => ?_)
  refine Eq.trans (x17_3 (h := 12) hT rfl) ?_
  refine xit (fun _ => ?_) (fun _ => ?_)
  · refine Eq.trans (x1 (h := 26) hT rfl rfl (by decide)) ?_
    refine Eq.trans (x21 (r := a1) (cl := 9) (h := 27) hT rfl ha1) ?_
    refine Eq.trans (x16_0 (h := 28) hT rfl) ?_
    refine xit (fun _ => ?_) (fun _ => ?_)
    · exact x20 (h := 33) hT rfl
    · refine Eq.trans (x1 (h := 29) hT rfl rfl (by decide)) ?_
      refine Eq.trans (x1 (h := 30) hT rfl rfl (by decide)) ?_
      refine Eq.trans (x1 (h := 31) hT rfl rfl (by decide)) ?_
      refine Eq.trans (x31 (r := a0) (cl := 6) (as := [(2, ((a1 : Nat) : Int)), (0, a2)]) (st' := []) (h := 32) hT rfl sm_180 rfl ha0) ?_
      refine xbd (fun q3 => ?_)
      rw [rv_180]
      change zB P 270 33 [(2, ((a0 : Nat) : Int)), (2, ((a1 : Nat) : Int)), (0, a2), (0, a3)] [] q3.2 = _
      exact x20 (h := 33) hT rfl
  · refine Eq.trans (x1 (h := 13) hT rfl rfl (by decide)) ?_
    refine Eq.trans (x1 (h := 14) hT rfl rfl (by decide)) ?_
    refine Eq.trans (x21r (r := a1) (cl := 9) (o := 1) (h := 15) hT rfl ha1 (by decide) rfl) ?_
    refine Eq.trans (x1 (h := 16) hT rfl rfl (by decide)) ?_
    refine Eq.trans (x1 (h := 17) hT rfl rfl (by decide)) ?_
    refine Eq.trans (x31 (r := a0) (cl := 6) (as := [(2, (((a1 + 1) : Nat) : Int)), (0, a2), (0, a3)]) (st' := []) (h := 18) hT rfl sm_110 rfl ha0) ?_
    refine xbd (fun q4 => ?_)
    rw [rv_110]
    change zB P 270 19 [(2, ((a0 : Nat) : Int)), (2, ((a1 : Nat) : Int)), (0, a2), (0, a3)] [] q4.2 = _
    refine Eq.trans (x1 (h := 19) hT rfl rfl (by decide)) ?_
    refine Eq.trans (x1 (h := 20) hT rfl rfl (by decide)) ?_
    refine Eq.trans (x1 (h := 21) hT rfl rfl (by decide)) ?_
    refine Eq.trans (x1 (h := 22) hT rfl rfl (by decide)) ?_
    refine Eq.trans (x31 (r := a0) (cl := 6) (as := [(2, ((a1 : Nat) : Int)), (0, a2), (0, a3)]) (st' := []) (h := 23) hT rfl sm_181 rfl ha0) ?_
    refine xbd (fun q5 => ?_)
    rw [rv_181]
    change zB P 270 24 [(2, ((a0 : Nat) : Int)), (2, ((a1 : Nat) : Int)), (0, a2), (0, a3)] [] q5.2 = _
    refine Eq.trans (x4 (ls' := [(2, ((a0 : Nat) : Int)), (2, ((a1 : Nat) : Int)), (0, a2), (0, (a3 + 1))]) (h := 24) hT rfl rfl rfl) ?_
    refine Eq.trans (x18 (h := 25) hT rfl) ?_
    exact rfl
/-! WordLinks$Tape.readSheets(ILWordLinks$Rows;LWordLinks$Rows;)Z -/
set_option maxRecDepth 100000 in
theorem e_271 {P : zP} {d : zD P} {a0 : Nat} {a1 : Int} {a2 : Nat} {a3 : Nat} (ha0 : zkd a0 = 10) (ha2 : zkd a2 = 7) (ha3 : zkd a3 = 7) : MM P 271 [(2, ((a0 : Nat) : Int)), (0, a1), (2, ((a2 : Nat) : Int)), (2, ((a3 : Nat) : Int))] d = ((MM P 34 [(2, ((a0 : Nat) : Int)), (0, a1)] d).bind fun q1 => ((MM P 254 [(2, ((a0 : Nat) : Int)), (2, ((a2 : Nat) : Int))] q1.2).bind fun q2 => (if wr q2.1 = 0 then some (0, q2.2) else ((MM P 122 [(2, ((a0 : Nat) : Int)), (0, 124)] q2.2).bind fun q3 => (if wr q3.1 = 0 then some (0, q3.2) else ((MM P 254 [(2, ((a0 : Nat) : Int)), (2, ((a3 : Nat) : Int))] q3.2).bind fun q4 => (if wr q4.1 ≠ 0 then (if wr ((q4.2.m a0 3)) = wr ((q4.2.m a0 2)) then some (1, q4.2) else ((MM P 37 [(2, ((a0 : Nat) : Int)), (0, 1)] q4.2).bind fun q5 => (if wr q5.1 = 0 then some (0, q5.2) else some (1, q5.2)))) else some (0, q4.2)))))))) := by
  have hT := cT_271
  refine Eq.trans (MM_def sm_271 (Nat.le_of_ble_eq_true rfl)) ?_
  change zB P 271 0 [(2, ((a0 : Nat) : Int)), (0, a1), (2, ((a2 : Nat) : Int)), (2, ((a3 : Nat) : Int))] [] d = _
  refine Eq.trans (x1 (h := 0) hT rfl rfl (by decide)) ?_
  refine Eq.trans (x1 (h := 1) hT rfl rfl (by decide)) ?_
  refine Eq.trans (x31 (r := a0) (cl := 10) (as := [(0, a1)]) (st' := []) (h := 2) hT rfl sm_34 rfl ha0) ?_
  refine xbd (fun q1 => ?_)
  rw [rv_34]
  change zB P 271 3 [(2, ((a0 : Nat) : Int)), (0, a1), (2, ((a2 : Nat) : Int)), (2, ((a3 : Nat) : Int))] [] q1.2 = _
  refine Eq.trans (x1 (h := 3) hT rfl rfl (by decide)) ?_
  refine Eq.trans (x1 (h := 4) hT rfl rfl (by decide)) ?_
  refine Eq.trans (x31 (r := a0) (cl := 10) (as := [(2, ((a2 : Nat) : Int))]) (st' := []) (h := 5) hT rfl sm_254 rfl ha0) ?_
  refine xbd (fun q2 => ?_)
  rw [rv_254]
  change zB P 271 6 [(2, ((a0 : Nat) : Int)), (0, a1), (2, ((a2 : Nat) : Int)), (2, ((a3 : Nat) : Int))] [(0, q2.1)] q2.2 = _
  refine Eq.trans (x16_0 (h := 6) hT rfl) ?_
  refine xit (fun _ => ?_) (fun _ => ?_)
  · refine Eq.trans (x0 (h := 15) hT rfl) ?_
    exact x203c (h := 16) hT rfl (by decide)
  · refine Eq.trans (x1 (h := 7) hT rfl rfl (by decide)) ?_
    refine Eq.trans (x0 (h := 8) hT rfl) ?_
    refine Eq.trans (x31 (r := a0) (cl := 10) (as := [(0, 124)]) (st' := []) (h := 9) hT rfl sm_122 rfl ha0) ?_
    refine xbd (fun q3 => ?_)
    rw [rv_122]
    change zB P 271 10 [(2, ((a0 : Nat) : Int)), (0, a1), (2, ((a2 : Nat) : Int)), (2, ((a3 : Nat) : Int))] [(0, q3.1)] q3.2 = _
    refine Eq.trans (x16_0 (h := 10) hT rfl) ?_
    refine xit (fun _ => ?_) (fun _ => ?_)
    · refine Eq.trans (x0 (h := 15) hT rfl) ?_
      exact x203c (h := 16) hT rfl (by decide)
    · refine Eq.trans (x1 (h := 11) hT rfl rfl (by decide)) ?_
      refine Eq.trans (x1 (h := 12) hT rfl rfl (by decide)) ?_
      refine Eq.trans (x31 (r := a0) (cl := 10) (as := [(2, ((a3 : Nat) : Int))]) (st' := []) (h := 13) hT rfl sm_254 rfl ha0) ?_
      refine xbd (fun q4 => ?_)
      rw [rv_254]
      change zB P 271 14 [(2, ((a0 : Nat) : Int)), (0, a1), (2, ((a2 : Nat) : Int)), (2, ((a3 : Nat) : Int))] [(0, q4.1)] q4.2 = _
      refine Eq.trans (x16_1 (h := 14) hT rfl) ?_
      refine xit (fun _ => ?_) (fun _ => ?_)
      · refine Eq.trans (x1 (h := 17) hT rfl rfl (by decide)) ?_
        refine Eq.trans (x21 (r := a0) (cl := 10) (h := 18) hT rfl ha0) ?_
        refine Eq.trans (x1 (h := 19) hT rfl rfl (by decide)) ?_
        refine Eq.trans (x21 (r := a0) (cl := 10) (h := 20) hT rfl ha0) ?_
        refine Eq.trans (x17_0 (h := 21) hT rfl) ?_
        refine xit (fun _ => ?_) (fun _ => ?_)
        · refine Eq.trans (x0 (h := 26) hT rfl) ?_
          refine Eq.trans (x18 (h := 27) hT rfl) ?_
          exact x203c (h := 29) hT rfl (by decide)
        · refine Eq.trans (x1 (h := 22) hT rfl rfl (by decide)) ?_
          refine Eq.trans (x0 (h := 23) hT rfl) ?_
          refine Eq.trans (x31 (r := a0) (cl := 10) (as := [(0, 1)]) (st' := []) (h := 24) hT rfl sm_37 rfl ha0) ?_
          refine xbd (fun q5 => ?_)
          rw [rv_37]
          change zB P 271 25 [(2, ((a0 : Nat) : Int)), (0, a1), (2, ((a2 : Nat) : Int)), (2, ((a3 : Nat) : Int))] [(0, q5.1)] q5.2 = _
          refine Eq.trans (x16_0 (h := 25) hT rfl) ?_
          refine xit (fun _ => ?_) (fun _ => ?_)
          · refine Eq.trans (x0 (h := 28) hT rfl) ?_
            exact x203c (h := 29) hT rfl (by decide)
          · refine Eq.trans (x0 (h := 26) hT rfl) ?_
            refine Eq.trans (x18 (h := 27) hT rfl) ?_
            exact x203c (h := 29) hT rfl (by decide)
      · refine Eq.trans (x0 (h := 15) hT rfl) ?_
        exact x203c (h := 16) hT rfl (by decide)
/-! WordLinks.agreement(I)I -/
set_option maxRecDepth 100000 in
theorem e_272 {P : zP} {d : zD P} {a0 : Nat} {a1 : Int} (ha0 : zkd a0 = 11) : MM P 272 [(2, ((a0 : Nat) : Int)), (0, a1)] d = zB P 272 6 [(2, ((a0 : Nat) : Int)), (0, a1), (0, 0), (0, 0), (0, 0), (3, 0)] [] d := by
  have hT := cT_272
  refine Eq.trans (MM_def sm_272 (Nat.le_of_ble_eq_true rfl)) ?_
  change zB P 272 0 [(2, ((a0 : Nat) : Int)), (0, a1), (3, 0), (3, 0), (3, 0), (3, 0)] [] d = _
  refine Eq.trans (x0 (h := 0) hT rfl) ?_
  refine Eq.trans (x2 (ls' := [(2, ((a0 : Nat) : Int)), (0, a1), (0, 0), (3, 0), (3, 0), (3, 0)]) (h := 1) hT rfl (Nat.le_of_ble_eq_true rfl) rfl) ?_
  refine Eq.trans (x0 (h := 2) hT rfl) ?_
  refine Eq.trans (x2 (ls' := [(2, ((a0 : Nat) : Int)), (0, a1), (0, 0), (0, 0), (3, 0), (3, 0)]) (h := 3) hT rfl (Nat.le_of_ble_eq_true rfl) rfl) ?_
  refine Eq.trans (x0 (h := 4) hT rfl) ?_
  refine Eq.trans (x2 (ls' := [(2, ((a0 : Nat) : Int)), (0, a1), (0, 0), (0, 0), (0, 0), (3, 0)]) (h := 5) hT rfl (Nat.le_of_ble_eq_true rfl) rfl) ?_
  exact rfl
set_option maxRecDepth 100000 in
theorem q_272_6 {P : zP} {d : zD P} {a0 : Nat} {a1 : Int} {a2 : Int} {a3 : Int} {a4 : Int} {g5 : zV} (ha0 : zkd a0 = 11) : zB P 272 6 [(2, ((a0 : Nat) : Int)), (0, a1), (0, a2), (0, a3), (0, a4), g5] [] d = (if wr ((d.m (((a0 + 3) + 1)) 6)) ≤ wr a4 then (if wr a3 ≠ 0 then (if wr a3 ≠ 0 then some ((zdiv 0 ((20000 * a2)) a3), d) else none) else some (0, d)) else ((MM P 92 [(2, ((((a0 + 3) + 1) : Nat) : Int)), (0, a4)] d).bind fun q2 => (if wr q2.1 ≤ 0 then zB P 272 6 [(2, ((a0 : Nat) : Int)), (0, a1), (0, a2), (0, a3), (0, (a4 + 1)), (0, q2.1)] [] q2.2 else ((MM P 246 [(2, (((a0 + 105) : Nat) : Int)), (2, (((a0 + 3) : Nat) : Int)), (0, a1), (0, a4)] q2.2).bind fun q3 => ((MM P 99 [(2, (((a0 + 105) : Nat) : Int)), (2, ((((a0 + 3) + 1) : Nat) : Int)), (0, a4)] q3.2).bind fun q4 => ((MM P 172 [(2, (((a0 + 105) : Nat) : Int))] q4.2).bind fun q5 => zB P 272 6 [(2, ((a0 : Nat) : Int)), (0, a1), (0, (a2 + q4.1)), (0, (a3 + (q2.1 + q5.1))), (0, (a4 + 1)), (0, q2.1)] [] q5.2)))))) := by
  have hT := cT_272
  refine Eq.trans (x1 (h := 6) hT rfl rfl (by decide)) ?_
  refine Eq.trans (x1 (h := 7) hT rfl rfl (by decide)) ?_
  refine Eq.trans (x21r (r := a0) (cl := 11) (o := 3) (h := 8) hT rfl ha0 (by decide) rfl) ?_
  refine Eq.trans (x21r (r := (a0 + 3)) (cl := 9) (o := 1) (h := 9) hT rfl (kd_11_1 ha0) (by decide) rfl) ?_
  refine Eq.trans (x21 (r := ((a0 + 3) + 1)) (cl := 0) (h := 10) hT rfl (kd_9_0 (kd_11_1 ha0))) ?_
  refine Eq.trans (x17_3 (h := 11) hT rfl) ?_
  refine xit (fun _ => ?_) (fun _ => ?_)
  · refine Eq.trans (x1 (h := 47) hT rfl rfl (by decide)) ?_
    refine Eq.trans (x16_1 (h := 48) hT rfl) ?_
    refine xit (fun _ => ?_) (fun _ => ?_)
    · refine Eq.trans (x0 (h := 51) hT rfl) ?_
      refine Eq.trans (x1 (h := 52) hT rfl rfl (by decide)) ?_
      refine Eq.trans (x5_2 (h := 53) hT rfl) ?_
      refine Eq.trans (x1 (h := 54) hT rfl rfl (by decide)) ?_
      refine Eq.trans (x6 (h := 55) hT rfl) ?_
      refine xig (fun hz1 => ?_)
      exact x201 (h := 56) hT rfl
    · refine Eq.trans (x0 (h := 49) hT rfl) ?_
      refine Eq.trans (x18 (h := 50) hT rfl) ?_
      exact x201 (h := 56) hT rfl
  · refine Eq.trans (x1 (h := 12) hT rfl rfl (by decide)) ?_
    refine Eq.trans (x21r (r := a0) (cl := 11) (o := 3) (h := 13) hT rfl ha0 (by decide) rfl) ?_
    refine Eq.trans (x21r (r := (a0 + 3)) (cl := 9) (o := 1) (h := 14) hT rfl (kd_11_1 ha0) (by decide) rfl) ?_
    refine Eq.trans (x1 (h := 15) hT rfl rfl (by decide)) ?_
    refine Eq.trans (x31 (r := ((a0 + 3) + 1)) (cl := 0) (as := [(0, a4)]) (st' := []) (h := 16) hT rfl sm_92 rfl (kd_9_0 (kd_11_1 ha0))) ?_
    refine xbd (fun q2 => ?_)
    rw [rv_92]
    change zB P 272 17 [(2, ((a0 : Nat) : Int)), (0, a1), (0, a2), (0, a3), (0, a4), g5] [(0, q2.1)] q2.2 = _
    refine Eq.trans (x2 (ls' := [(2, ((a0 : Nat) : Int)), (0, a1), (0, a2), (0, a3), (0, a4), (0, q2.1)]) (h := 17) hT rfl (Nat.le_of_ble_eq_true rfl) rfl) ?_
    refine Eq.trans (x1 (h := 18) hT rfl rfl (by decide)) ?_
    refine Eq.trans (x16_5 (h := 19) hT rfl) ?_
    refine xit (fun _ => ?_) (fun _ => ?_)
    · refine Eq.trans (x4 (ls' := [(2, ((a0 : Nat) : Int)), (0, a1), (0, a2), (0, a3), (0, (a4 + 1)), (0, q2.1)]) (h := 45) hT rfl rfl rfl) ?_
      refine Eq.trans (x18 (h := 46) hT rfl) ?_
      exact rfl
    · refine Eq.trans (x1 (h := 20) hT rfl rfl (by decide)) ?_
      refine Eq.trans (x21r (r := a0) (cl := 11) (o := 105) (h := 21) hT rfl ha0 (by decide) rfl) ?_
      refine Eq.trans (x1 (h := 22) hT rfl rfl (by decide)) ?_
      refine Eq.trans (x21r (r := a0) (cl := 11) (o := 3) (h := 23) hT rfl ha0 (by decide) rfl) ?_
      refine Eq.trans (x1 (h := 24) hT rfl rfl (by decide)) ?_
      refine Eq.trans (x1 (h := 25) hT rfl rfl (by decide)) ?_
      refine Eq.trans (x31 (r := (a0 + 105)) (cl := 1) (as := [(2, (((a0 + 3) : Nat) : Int)), (0, a1), (0, a4)]) (st' := []) (h := 26) hT rfl sm_246 rfl (kd_11_8 ha0)) ?_
      refine xbd (fun q3 => ?_)
      rw [rv_246]
      change zB P 272 27 [(2, ((a0 : Nat) : Int)), (0, a1), (0, a2), (0, a3), (0, a4), (0, q2.1)] [] q3.2 = _
      refine Eq.trans (x1 (h := 27) hT rfl rfl (by decide)) ?_
      refine Eq.trans (x1 (h := 28) hT rfl rfl (by decide)) ?_
      refine Eq.trans (x21r (r := a0) (cl := 11) (o := 105) (h := 29) hT rfl ha0 (by decide) rfl) ?_
      refine Eq.trans (x1 (h := 30) hT rfl rfl (by decide)) ?_
      refine Eq.trans (x21r (r := a0) (cl := 11) (o := 3) (h := 31) hT rfl ha0 (by decide) rfl) ?_
      refine Eq.trans (x21r (r := (a0 + 3)) (cl := 9) (o := 1) (h := 32) hT rfl (kd_11_1 ha0) (by decide) rfl) ?_
      refine Eq.trans (x1 (h := 33) hT rfl rfl (by decide)) ?_
      refine Eq.trans (x31 (r := (a0 + 105)) (cl := 1) (as := [(2, ((((a0 + 3) + 1) : Nat) : Int)), (0, a4)]) (st' := [(0, a2)]) (h := 34) hT rfl sm_99 rfl (kd_11_8 ha0)) ?_
      refine xbd (fun q4 => ?_)
      rw [rv_99]
      change zB P 272 35 [(2, ((a0 : Nat) : Int)), (0, a1), (0, a2), (0, a3), (0, a4), (0, q2.1)] [(0, q4.1), (0, a2)] q4.2 = _
      refine Eq.trans (x5_0 (h := 35) hT rfl) ?_
      refine Eq.trans (x2 (ls' := [(2, ((a0 : Nat) : Int)), (0, a1), (0, (a2 + q4.1)), (0, a3), (0, a4), (0, q2.1)]) (h := 36) hT rfl (Nat.le_of_ble_eq_true rfl) rfl) ?_
      refine Eq.trans (x1 (h := 37) hT rfl rfl (by decide)) ?_
      refine Eq.trans (x1 (h := 38) hT rfl rfl (by decide)) ?_
      refine Eq.trans (x1 (h := 39) hT rfl rfl (by decide)) ?_
      refine Eq.trans (x21r (r := a0) (cl := 11) (o := 105) (h := 40) hT rfl ha0 (by decide) rfl) ?_
      refine Eq.trans (x31 (r := (a0 + 105)) (cl := 1) (as := []) (st' := [(0, q2.1), (0, a3)]) (h := 41) hT rfl sm_172 rfl (kd_11_8 ha0)) ?_
      refine xbd (fun q5 => ?_)
      rw [rv_172]
      change zB P 272 42 [(2, ((a0 : Nat) : Int)), (0, a1), (0, (a2 + q4.1)), (0, a3), (0, a4), (0, q2.1)] [(0, q5.1), (0, q2.1), (0, a3)] q5.2 = _
      refine Eq.trans (x5_0 (h := 42) hT rfl) ?_
      refine Eq.trans (x5_0 (h := 43) hT rfl) ?_
      refine Eq.trans (x2 (ls' := [(2, ((a0 : Nat) : Int)), (0, a1), (0, (a2 + q4.1)), (0, (a3 + (q2.1 + q5.1))), (0, a4), (0, q2.1)]) (h := 44) hT rfl (Nat.le_of_ble_eq_true rfl) rfl) ?_
      refine Eq.trans (x4 (ls' := [(2, ((a0 : Nat) : Int)), (0, a1), (0, (a2 + q4.1)), (0, (a3 + (q2.1 + q5.1))), (0, (a4 + 1)), (0, q2.1)]) (h := 45) hT rfl rfl rfl) ?_
      refine Eq.trans (x18 (h := 46) hT rfl) ?_
      exact rfl
/-! WordLinks.allLinks(I)I -/
set_option maxRecDepth 100000 in
theorem e_273 {P : zP} {d : zD P} {a0 : Nat} {a1 : Int} (ha0 : zkd a0 = 11) : MM P 273 [(2, ((a0 : Nat) : Int)), (0, a1)] d = zB P 273 4 [(2, ((a0 : Nat) : Int)), (0, a1), (0, 0), (0, 0)] [] d := by
  have hT := cT_273
  refine Eq.trans (MM_def sm_273 (Nat.le_of_ble_eq_true rfl)) ?_
  change zB P 273 0 [(2, ((a0 : Nat) : Int)), (0, a1), (3, 0), (3, 0)] [] d = _
  refine Eq.trans (x0 (h := 0) hT rfl) ?_
  refine Eq.trans (x2 (ls' := [(2, ((a0 : Nat) : Int)), (0, a1), (0, 0), (3, 0)]) (h := 1) hT rfl (Nat.le_of_ble_eq_true rfl) rfl) ?_
  refine Eq.trans (x0 (h := 2) hT rfl) ?_
  refine Eq.trans (x2 (ls' := [(2, ((a0 : Nat) : Int)), (0, a1), (0, 0), (0, 0)]) (h := 3) hT rfl (Nat.le_of_ble_eq_true rfl) rfl) ?_
  exact rfl
set_option maxRecDepth 100000 in
theorem q_273_4 {P : zP} {d : zD P} {a0 : Nat} {a1 : Int} {a2 : Int} {a3 : Int} (ha0 : zkd a0 = 11) : zB P 273 4 [(2, ((a0 : Nat) : Int)), (0, a1), (0, a2), (0, a3)] [] d = (if wr ((d.m (((a0 + 3) + 1)) 6)) ≤ wr a3 then some (a2, d) else ((MM P 246 [(2, (((a0 + 105) : Nat) : Int)), (2, (((a0 + 3) : Nat) : Int)), (0, a1), (0, a3)] d).bind fun q1 => ((MM P 172 [(2, (((a0 + 105) : Nat) : Int))] q1.2).bind fun q2 => zB P 273 4 [(2, ((a0 : Nat) : Int)), (0, a1), (0, (a2 + q2.1)), (0, (a3 + 1))] [] q2.2))) := by
  have hT := cT_273
  refine Eq.trans (x1 (h := 4) hT rfl rfl (by decide)) ?_
  refine Eq.trans (x1 (h := 5) hT rfl rfl (by decide)) ?_
  refine Eq.trans (x21r (r := a0) (cl := 11) (o := 3) (h := 6) hT rfl ha0 (by decide) rfl) ?_
  refine Eq.trans (x21r (r := (a0 + 3)) (cl := 9) (o := 1) (h := 7) hT rfl (kd_11_1 ha0) (by decide) rfl) ?_
  refine Eq.trans (x21 (r := ((a0 + 3) + 1)) (cl := 0) (h := 8) hT rfl (kd_9_0 (kd_11_1 ha0))) ?_
  refine Eq.trans (x17_3 (h := 9) hT rfl) ?_
  refine xit (fun _ => ?_) (fun _ => ?_)
  · refine Eq.trans (x1 (h := 25) hT rfl rfl (by decide)) ?_
    exact x201 (h := 26) hT rfl
  · refine Eq.trans (x1 (h := 10) hT rfl rfl (by decide)) ?_
    refine Eq.trans (x21r (r := a0) (cl := 11) (o := 105) (h := 11) hT rfl ha0 (by decide) rfl) ?_
    refine Eq.trans (x1 (h := 12) hT rfl rfl (by decide)) ?_
    refine Eq.trans (x21r (r := a0) (cl := 11) (o := 3) (h := 13) hT rfl ha0 (by decide) rfl) ?_
    refine Eq.trans (x1 (h := 14) hT rfl rfl (by decide)) ?_
    refine Eq.trans (x1 (h := 15) hT rfl rfl (by decide)) ?_
    refine Eq.trans (x31 (r := (a0 + 105)) (cl := 1) (as := [(2, (((a0 + 3) : Nat) : Int)), (0, a1), (0, a3)]) (st' := []) (h := 16) hT rfl sm_246 rfl (kd_11_8 ha0)) ?_
    refine xbd (fun q1 => ?_)
    rw [rv_246]
    change zB P 273 17 [(2, ((a0 : Nat) : Int)), (0, a1), (0, a2), (0, a3)] [] q1.2 = _
    refine Eq.trans (x1 (h := 17) hT rfl rfl (by decide)) ?_
    refine Eq.trans (x1 (h := 18) hT rfl rfl (by decide)) ?_
    refine Eq.trans (x21r (r := a0) (cl := 11) (o := 105) (h := 19) hT rfl ha0 (by decide) rfl) ?_
    refine Eq.trans (x31 (r := (a0 + 105)) (cl := 1) (as := []) (st' := [(0, a2)]) (h := 20) hT rfl sm_172 rfl (kd_11_8 ha0)) ?_
    refine xbd (fun q2 => ?_)
    rw [rv_172]
    change zB P 273 21 [(2, ((a0 : Nat) : Int)), (0, a1), (0, a2), (0, a3)] [(0, q2.1), (0, a2)] q2.2 = _
    refine Eq.trans (x5_0 (h := 21) hT rfl) ?_
    refine Eq.trans (x2 (ls' := [(2, ((a0 : Nat) : Int)), (0, a1), (0, (a2 + q2.1)), (0, a3)]) (h := 22) hT rfl (Nat.le_of_ble_eq_true rfl) rfl) ?_
    refine Eq.trans (x4 (ls' := [(2, ((a0 : Nat) : Int)), (0, a1), (0, (a2 + q2.1)), (0, (a3 + 1))]) (h := 23) hT rfl rfl rfl) ?_
    refine Eq.trans (x18 (h := 24) hT rfl) ?_
    exact rfl
/-! WordLinks.byLetters(Z)Z -/
set_option maxRecDepth 100000 in
theorem e_274 {P : zP} {d : zD P} {a0 : Nat} {a1 : Int} (ha0 : zkd a0 = 11) : MM P 274 [(2, ((a0 : Nat) : Int)), (0, a1)] d = (if wr ((d.m ((a0 + 3)) 5)) ≠ wr a1 then (if a1 = 0 ∨ a1 = 1 then ((MM P 249 [(2, (((a0 + 98) : Nat) : Int)), (2, (((a0 + 3) : Nat) : Int))] ((d.up ((a0 + 3)) 5 a1))).bind fun q2 => some (1, q2.2)) else none) else some (0, d)) := by
  have hT := cT_274
  refine Eq.trans (MM_def sm_274 (Nat.le_of_ble_eq_true rfl)) ?_
  change zB P 274 0 [(2, ((a0 : Nat) : Int)), (0, a1)] [] d = _
  refine Eq.trans (x1 (h := 0) hT rfl rfl (by decide)) ?_
  refine Eq.trans (x21r (r := a0) (cl := 11) (o := 3) (h := 1) hT rfl ha0 (by decide) rfl) ?_
  refine Eq.trans (x21 (r := (a0 + 3)) (cl := 9) (h := 2) hT rfl (kd_11_1 ha0)) ?_
  refine Eq.trans (x1 (h := 3) hT rfl rfl (by decide)) ?_
  refine Eq.trans (x17_1 (h := 4) hT rfl) ?_
  refine xit (fun _ => ?_) (fun _ => ?_)
  · refine Eq.trans (x1 (h := 7) hT rfl rfl (by decide)) ?_
    refine Eq.trans (x21r (r := a0) (cl := 11) (o := 3) (h := 8) hT rfl ha0 (by decide) rfl) ?_
    refine Eq.trans (x1 (h := 9) hT rfl rfl (by decide)) ?_
    refine Eq.trans (x22b (r := (a0 + 3)) (cl := 9) (h := 10) hT rfl (kd_11_1 ha0) (by decide) rfl) ?_
    refine xig (fun hz1 => ?_)
    refine Eq.trans (x1 (h := 11) hT rfl rfl (by decide)) ?_
    refine Eq.trans (x21r (r := a0) (cl := 11) (o := 98) (h := 12) hT rfl ha0 (by decide) rfl) ?_
    refine Eq.trans (x1 (h := 13) hT rfl rfl (by decide)) ?_
    refine Eq.trans (x21r (r := a0) (cl := 11) (o := 3) (h := 14) hT rfl ha0 (by decide) rfl) ?_
    refine Eq.trans (x31 (r := (a0 + 98)) (cl := 6) (as := [(2, (((a0 + 3) : Nat) : Int))]) (st' := []) (h := 15) hT rfl sm_249 rfl (kd_11_7 ha0)) ?_
    refine xbd (fun q2 => ?_)
    rw [rv_249]
    change zB P 274 16 [(2, ((a0 : Nat) : Int)), (0, a1)] [] q2.2 = _
    refine Eq.trans (x0 (h := 16) hT rfl) ?_
    exact x203c (h := 17) hT rfl (by decide)
  · refine Eq.trans (x0 (h := 5) hT rfl) ?_
    exact x203c (h := 6) hT rfl (by decide)
/-! WordLinks.check(I)I -/
set_option maxRecDepth 100000 in
theorem e_275 {P : zP} {d : zD P} {a0 : Nat} {a1 : Int} (ha0 : zkd a0 = 11) : MM P 275 [(2, ((a0 : Nat) : Int)), (0, a1)] d = (if wr a1 < 0 then some ((-2), d) else (if wr 6 < wr a1 then some ((-2), d) else ((MM P 41 [(2, (((a0 + 1) : Nat) : Int)), (0, a1)] d).bind fun q1 => (if wr q1.1 ≠ 0 then zB P 275 16 [(2, ((a0 : Nat) : Int)), (0, a1), (0, (-1)), (0, 0)] [] q1.2 else some ((-2), q1.2))))) := by
  have hT := cT_275
  refine Eq.trans (MM_def sm_275 (Nat.le_of_ble_eq_true rfl)) ?_
  change zB P 275 0 [(2, ((a0 : Nat) : Int)), (0, a1), (3, 0), (3, 0)] [] d = _
  refine Eq.trans (x1 (h := 0) hT rfl rfl (by decide)) ?_
  refine Eq.trans (x16_2 (h := 1) hT rfl) ?_
  refine xit (fun _ => ?_) (fun _ => ?_)
  · refine Eq.trans (x0 (h := 10) hT rfl) ?_
    exact x201 (h := 11) hT rfl
  · refine Eq.trans (x1 (h := 2) hT rfl rfl (by decide)) ?_
    refine Eq.trans (x0 (h := 3) hT rfl) ?_
    refine Eq.trans (x17_4 (h := 4) hT rfl) ?_
    refine xit (fun _ => ?_) (fun _ => ?_)
    · refine Eq.trans (x0 (h := 10) hT rfl) ?_
      exact x201 (h := 11) hT rfl
    · refine Eq.trans (x1 (h := 5) hT rfl rfl (by decide)) ?_
      refine Eq.trans (x21r (r := a0) (cl := 11) (o := 1) (h := 6) hT rfl ha0 (by decide) rfl) ?_
      refine Eq.trans (x1 (h := 7) hT rfl rfl (by decide)) ?_
      refine Eq.trans (x31 (r := (a0 + 1)) (cl := 10) (as := [(0, a1)]) (st' := []) (h := 8) hT rfl sm_41 rfl (kd_11_0 ha0)) ?_
      refine xbd (fun q1 => ?_)
      rw [rv_41]
      change zB P 275 9 [(2, ((a0 : Nat) : Int)), (0, a1), (3, 0), (3, 0)] [(0, q1.1)] q1.2 = _
      refine Eq.trans (x16_1 (h := 9) hT rfl) ?_
      refine xit (fun _ => ?_) (fun _ => ?_)
      · refine Eq.trans (x0 (h := 12) hT rfl) ?_
        refine Eq.trans (x2 (ls' := [(2, ((a0 : Nat) : Int)), (0, a1), (0, (-1)), (3, 0)]) (h := 13) hT rfl (Nat.le_of_ble_eq_true rfl) rfl) ?_
        refine Eq.trans (x0 (h := 14) hT rfl) ?_
        refine Eq.trans (x2 (ls' := [(2, ((a0 : Nat) : Int)), (0, a1), (0, (-1)), (0, 0)]) (h := 15) hT rfl (Nat.le_of_ble_eq_true rfl) rfl) ?_
        exact rfl
      · refine Eq.trans (x0 (h := 10) hT rfl) ?_
        exact x201 (h := 11) hT rfl
set_option maxRecDepth 100000 in
theorem q_275_16 {P : zP} {d : zD P} {a0 : Nat} {a1 : Int} {a2 : Int} {a3 : Int} (ha0 : zkd a0 = 11) : zB P 275 16 [(2, ((a0 : Nat) : Int)), (0, a1), (0, a2), (0, a3)] [] d = (if wr a1 ≤ wr a3 then ((MM P 36 [(2, (((a0 + 1) : Nat) : Int))] d).bind fun q2 => some (a2, q2.2)) else (if wr a2 ≠ wr ((-1)) then ((MM P 36 [(2, (((a0 + 1) : Nat) : Int))] d).bind fun q3 => some (a2, q3.2)) else ((MM P 35 [(2, (((a0 + 1) : Nat) : Int)), (0, a3)] d).bind fun q4 => ((MM P 257 [(2, ((a0 : Nat) : Int)), (0, a3), (0, q4.1)] q4.2).bind fun q5 => (if wr q5.1 ≠ 0 then zB P 275 16 [(2, ((a0 : Nat) : Int)), (0, a1), (0, a2), (0, (a3 + 1))] [] q5.2 else zB P 275 16 [(2, ((a0 : Nat) : Int)), (0, a1), (0, a3), (0, (a3 + 1))] [] q5.2))))) := by
  have hT := cT_275
  refine Eq.trans (x1 (h := 16) hT rfl rfl (by decide)) ?_
  refine Eq.trans (x1 (h := 17) hT rfl rfl (by decide)) ?_
  refine Eq.trans (x17_3 (h := 18) hT rfl) ?_
  refine xit (fun _ => ?_) (fun _ => ?_)
  · refine Eq.trans (x1 (h := 34) hT rfl rfl (by decide)) ?_
    refine Eq.trans (x21r (r := a0) (cl := 11) (o := 1) (h := 35) hT rfl ha0 (by decide) rfl) ?_
    refine Eq.trans (x31 (r := (a0 + 1)) (cl := 10) (as := []) (st' := []) (h := 36) hT rfl sm_36 rfl (kd_11_0 ha0)) ?_
    refine xbd (fun q2 => ?_)
    rw [rv_36]
    change zB P 275 37 [(2, ((a0 : Nat) : Int)), (0, a1), (0, a2), (0, a3)] [] q2.2 = _
    refine Eq.trans (x1 (h := 37) hT rfl rfl (by decide)) ?_
    exact x201 (h := 38) hT rfl
  · refine Eq.trans (x1 (h := 19) hT rfl rfl (by decide)) ?_
    refine Eq.trans (x0 (h := 20) hT rfl) ?_
    refine Eq.trans (x17_1 (h := 21) hT rfl) ?_
    refine xit (fun _ => ?_) (fun _ => ?_)
    · refine Eq.trans (x1 (h := 34) hT rfl rfl (by decide)) ?_
      refine Eq.trans (x21r (r := a0) (cl := 11) (o := 1) (h := 35) hT rfl ha0 (by decide) rfl) ?_
      refine Eq.trans (x31 (r := (a0 + 1)) (cl := 10) (as := []) (st' := []) (h := 36) hT rfl sm_36 rfl (kd_11_0 ha0)) ?_
      refine xbd (fun q3 => ?_)
      rw [rv_36]
      change zB P 275 37 [(2, ((a0 : Nat) : Int)), (0, a1), (0, a2), (0, a3)] [] q3.2 = _
      refine Eq.trans (x1 (h := 37) hT rfl rfl (by decide)) ?_
      exact x201 (h := 38) hT rfl
    · refine Eq.trans (x1 (h := 22) hT rfl rfl (by decide)) ?_
      refine Eq.trans (x1 (h := 23) hT rfl rfl (by decide)) ?_
      refine Eq.trans (x1 (h := 24) hT rfl rfl (by decide)) ?_
      refine Eq.trans (x21r (r := a0) (cl := 11) (o := 1) (h := 25) hT rfl ha0 (by decide) rfl) ?_
      refine Eq.trans (x1 (h := 26) hT rfl rfl (by decide)) ?_
      refine Eq.trans (x31 (r := (a0 + 1)) (cl := 10) (as := [(0, a3)]) (st' := [(0, a3), (2, ((a0 : Nat) : Int))]) (h := 27) hT rfl sm_35 rfl (kd_11_0 ha0)) ?_
      refine xbd (fun q4 => ?_)
      rw [rv_35]
      change zB P 275 28 [(2, ((a0 : Nat) : Int)), (0, a1), (0, a2), (0, a3)] [(0, q4.1), (0, a3), (2, ((a0 : Nat) : Int))] q4.2 = _
      refine Eq.trans (x31 (r := a0) (cl := 11) (as := [(0, a3), (0, q4.1)]) (st' := []) (h := 28) hT rfl sm_257 rfl ha0) ?_
      refine xbd (fun q5 => ?_)
      rw [rv_257]
      change zB P 275 29 [(2, ((a0 : Nat) : Int)), (0, a1), (0, a2), (0, a3)] [(0, q5.1)] q5.2 = _
      refine Eq.trans (x16_1 (h := 29) hT rfl) ?_
      refine xit (fun _ => ?_) (fun _ => ?_)
      · refine Eq.trans (x4 (ls' := [(2, ((a0 : Nat) : Int)), (0, a1), (0, a2), (0, (a3 + 1))]) (h := 32) hT rfl rfl rfl) ?_
        refine Eq.trans (x18 (h := 33) hT rfl) ?_
        exact rfl
      · refine Eq.trans (x1 (h := 30) hT rfl rfl (by decide)) ?_
        refine Eq.trans (x2 (ls' := [(2, ((a0 : Nat) : Int)), (0, a1), (0, a3), (0, a3)]) (h := 31) hT rfl (Nat.le_of_ble_eq_true rfl) rfl) ?_
        refine Eq.trans (x4 (ls' := [(2, ((a0 : Nat) : Int)), (0, a1), (0, a3), (0, (a3 + 1))]) (h := 32) hT rfl rfl rfl) ?_
        refine Eq.trans (x18 (h := 33) hT rfl) ?_
        exact rfl
/-! WordLinks.counted(III)I -/
set_option maxRecDepth 100000 in
theorem e_276 {P : zP} {d : zD P} {a0 : Nat} {a1 : Int} {a2 : Int} {a3 : Int} (ha0 : zkd a0 = 11) : MM P 276 [(2, ((a0 : Nat) : Int)), (0, a1), (0, a2), (0, a3)] d = ((MM P 45 [(0, a1)] d).bind fun q1 => (if wr q1.1 = 0 then some ((-1), q1.2) else ((MM P 126 [(2, ((a0 : Nat) : Int)), (0, a1), (0, a2)] q1.2).bind fun q2 => (if wr q2.1 = 0 then some ((-1), q2.2) else ((MM P 126 [(2, ((a0 : Nat) : Int)), (0, (1 - a1)), (0, a3)] q2.2).bind fun q3 => (if wr q3.1 ≠ 0 then ((MM P 1 [(2, ((((a0 + 3) + 1) : Nat) : Int)), (0, a1), (0, a2), (0, a3)] q3.2).bind fun q4 => (if wr q4.1 ≠ 0 then ((MM P 250 [(2, (((a0 + 98) : Nat) : Int)), (2, (((a0 + 3) : Nat) : Int)), (0, a1)] q4.2).bind fun q5 => (if zin (((a2 * 40) + a3)) 1600 then some ((q5.2.m (((a0 + 98) + 5)) (zix (((a2 * 40) + a3)))), q5.2) else none)) else some ((-2), q4.2))) else some ((-1), q3.2))))))) := by
  have hT := cT_276
  refine Eq.trans (MM_def sm_276 (Nat.le_of_ble_eq_true rfl)) ?_
  change zB P 276 0 [(2, ((a0 : Nat) : Int)), (0, a1), (0, a2), (0, a3)] [] d = _
  refine Eq.trans (x1 (h := 0) hT rfl rfl (by decide)) ?_
  refine Eq.trans (x34 (as := [(0, a1)]) (st' := []) (h := 1) hT rfl sm_45 rfl) ?_
  refine xbd (fun q1 => ?_)
  rw [rv_45]
  change zB P 276 2 [(2, ((a0 : Nat) : Int)), (0, a1), (0, a2), (0, a3)] [(0, q1.1)] q1.2 = _
  refine Eq.trans (x16_0 (h := 2) hT rfl) ?_
  refine xit (fun _ => ?_) (fun _ => ?_)
  · refine Eq.trans (x0 (h := 15) hT rfl) ?_
    exact x201 (h := 16) hT rfl
  · refine Eq.trans (x1 (h := 3) hT rfl rfl (by decide)) ?_
    refine Eq.trans (x1 (h := 4) hT rfl rfl (by decide)) ?_
    refine Eq.trans (x1 (h := 5) hT rfl rfl (by decide)) ?_
    refine Eq.trans (x31 (r := a0) (cl := 11) (as := [(0, a1), (0, a2)]) (st' := []) (h := 6) hT rfl sm_126 rfl ha0) ?_
    refine xbd (fun q2 => ?_)
    rw [rv_126]
    change zB P 276 7 [(2, ((a0 : Nat) : Int)), (0, a1), (0, a2), (0, a3)] [(0, q2.1)] q2.2 = _
    refine Eq.trans (x16_0 (h := 7) hT rfl) ?_
    refine xit (fun _ => ?_) (fun _ => ?_)
    · refine Eq.trans (x0 (h := 15) hT rfl) ?_
      exact x201 (h := 16) hT rfl
    · refine Eq.trans (x1 (h := 8) hT rfl rfl (by decide)) ?_
      refine Eq.trans (x0 (h := 9) hT rfl) ?_
      refine Eq.trans (x1 (h := 10) hT rfl rfl (by decide)) ?_
      refine Eq.trans (x5_1 (h := 11) hT rfl) ?_
      refine Eq.trans (x1 (h := 12) hT rfl rfl (by decide)) ?_
      refine Eq.trans (x31 (r := a0) (cl := 11) (as := [(0, (1 - a1)), (0, a3)]) (st' := []) (h := 13) hT rfl sm_126 rfl ha0) ?_
      refine xbd (fun q3 => ?_)
      rw [rv_126]
      change zB P 276 14 [(2, ((a0 : Nat) : Int)), (0, a1), (0, a2), (0, a3)] [(0, q3.1)] q3.2 = _
      refine Eq.trans (x16_1 (h := 14) hT rfl) ?_
      refine xit (fun _ => ?_) (fun _ => ?_)
      · refine Eq.trans (x1 (h := 17) hT rfl rfl (by decide)) ?_
        refine Eq.trans (x21r (r := a0) (cl := 11) (o := 3) (h := 18) hT rfl ha0 (by decide) rfl) ?_
        refine Eq.trans (x21r (r := (a0 + 3)) (cl := 9) (o := 1) (h := 19) hT rfl (kd_11_1 ha0) (by decide) rfl) ?_
        refine Eq.trans (x1 (h := 20) hT rfl rfl (by decide)) ?_
        refine Eq.trans (x1 (h := 21) hT rfl rfl (by decide)) ?_
        refine Eq.trans (x1 (h := 22) hT rfl rfl (by decide)) ?_
        refine Eq.trans (x31 (r := ((a0 + 3) + 1)) (cl := 0) (as := [(0, a1), (0, a2), (0, a3)]) (st' := []) (h := 23) hT rfl sm_1 rfl (kd_9_0 (kd_11_1 ha0))) ?_
        refine xbd (fun q4 => ?_)
        rw [rv_1]
        change zB P 276 24 [(2, ((a0 : Nat) : Int)), (0, a1), (0, a2), (0, a3)] [(0, q4.1)] q4.2 = _
        refine Eq.trans (x16_1 (h := 24) hT rfl) ?_
        refine xit (fun _ => ?_) (fun _ => ?_)
        · refine Eq.trans (x1 (h := 27) hT rfl rfl (by decide)) ?_
          refine Eq.trans (x21r (r := a0) (cl := 11) (o := 98) (h := 28) hT rfl ha0 (by decide) rfl) ?_
          refine Eq.trans (x1 (h := 29) hT rfl rfl (by decide)) ?_
          refine Eq.trans (x21r (r := a0) (cl := 11) (o := 3) (h := 30) hT rfl ha0 (by decide) rfl) ?_
          refine Eq.trans (x1 (h := 31) hT rfl rfl (by decide)) ?_
          refine Eq.trans (x31 (r := (a0 + 98)) (cl := 6) (as := [(2, (((a0 + 3) : Nat) : Int)), (0, a1)]) (st' := []) (h := 32) hT rfl sm_250 rfl (kd_11_7 ha0)) ?_
          refine xbd (fun q5 => ?_)
          rw [rv_250]
          change zB P 276 33 [(2, ((a0 : Nat) : Int)), (0, a1), (0, a2), (0, a3)] [] q5.2 = _
          refine Eq.trans (x1 (h := 33) hT rfl rfl (by decide)) ?_
          refine Eq.trans (x21r (r := a0) (cl := 11) (o := 98) (h := 34) hT rfl ha0 (by decide) rfl) ?_
          refine Eq.trans (x21r (r := (a0 + 98)) (cl := 6) (o := 5) (h := 35) hT rfl (kd_11_7 ha0) (by decide) rfl) ?_
          refine Eq.trans (x1 (h := 36) hT rfl rfl (by decide)) ?_
          refine Eq.trans (x0 (h := 37) hT rfl) ?_
          refine Eq.trans (x5_2 (h := 38) hT rfl) ?_
          refine Eq.trans (x1 (h := 39) hT rfl rfl (by decide)) ?_
          refine Eq.trans (x5_0 (h := 40) hT rfl) ?_
          refine Eq.trans (x24 (r := ((a0 + 98) + 5)) (n := 1600) (h := 41) hT rfl (Or.inl (kd_6_1 (kd_11_7 ha0))) (ln_6_1 (kd_11_7 ha0))) ?_
          refine xig (fun hz6 => ?_)
          exact x201 (h := 42) hT rfl
        · refine Eq.trans (x0 (h := 25) hT rfl) ?_
          exact x201 (h := 26) hT rfl
      · refine Eq.trans (x0 (h := 15) hT rfl) ?_
        exact x201 (h := 16) hT rfl
/-! WordLinks.cut(III)I -/
set_option maxRecDepth 100000 in
theorem e_277 {P : zP} {d : zD P} {a0 : Nat} {a1 : Int} {a2 : Int} {a3 : Int} (ha0 : zkd a0 = 11) : MM P 277 [(2, ((a0 : Nat) : Int)), (0, a1), (0, a2), (0, a3)] d = ((MM P 43 [(0, a1)] d).bind fun q1 => (if wr q1.1 = 0 then some ((-1), q1.2) else ((MM P 44 [(2, ((a0 : Nat) : Int)), (0, a2)] q1.2).bind fun q2 => (if wr q2.1 = 0 then some ((-1), q2.2) else (if wr a3 < 0 then some ((-1), q2.2) else (if wr a3 ≤ wr 2 then ((MM P 246 [(2, (((a0 + 105) : Nat) : Int)), (2, (((a0 + 3) : Nat) : Int)), (0, a1), (0, a2)] q2.2).bind fun q3 => ((MM P 183 [(2, (((a0 + 110) : Nat) : Int)), (2, (((a0 + 105) : Nat) : Int))] q3.2).bind fun q4 => (if wr q4.1 ≠ 0 then (if wr a3 = 0 then some ((q4.2.m ((a0 + 110)) 1), q4.2) else (if wr a3 = 1 then some ((q4.2.m ((a0 + 110)) 2), q4.2) else some ((q4.2.m ((a0 + 110)) 3), q4.2))) else some ((-2), q4.2)))) else some ((-1), q2.2))))))) := by
  have hT := cT_277
  refine Eq.trans (MM_def sm_277 (Nat.le_of_ble_eq_true rfl)) ?_
  change zB P 277 0 [(2, ((a0 : Nat) : Int)), (0, a1), (0, a2), (0, a3)] [] d = _
  refine Eq.trans (x1 (h := 0) hT rfl rfl (by decide)) ?_
  refine Eq.trans (x34 (as := [(0, a1)]) (st' := []) (h := 1) hT rfl sm_43 rfl) ?_
  refine xbd (fun q1 => ?_)
  rw [rv_43]
  change zB P 277 2 [(2, ((a0 : Nat) : Int)), (0, a1), (0, a2), (0, a3)] [(0, q1.1)] q1.2 = _
  refine Eq.trans (x16_0 (h := 2) hT rfl) ?_
  refine xit (fun _ => ?_) (fun _ => ?_)
  · refine Eq.trans (x0 (h := 12) hT rfl) ?_
    exact x201 (h := 13) hT rfl
  · refine Eq.trans (x1 (h := 3) hT rfl rfl (by decide)) ?_
    refine Eq.trans (x1 (h := 4) hT rfl rfl (by decide)) ?_
    refine Eq.trans (x31 (r := a0) (cl := 11) (as := [(0, a2)]) (st' := []) (h := 5) hT rfl sm_44 rfl ha0) ?_
    refine xbd (fun q2 => ?_)
    rw [rv_44]
    change zB P 277 6 [(2, ((a0 : Nat) : Int)), (0, a1), (0, a2), (0, a3)] [(0, q2.1)] q2.2 = _
    refine Eq.trans (x16_0 (h := 6) hT rfl) ?_
    refine xit (fun _ => ?_) (fun _ => ?_)
    · refine Eq.trans (x0 (h := 12) hT rfl) ?_
      exact x201 (h := 13) hT rfl
    · refine Eq.trans (x1 (h := 7) hT rfl rfl (by decide)) ?_
      refine Eq.trans (x16_2 (h := 8) hT rfl) ?_
      refine xit (fun _ => ?_) (fun _ => ?_)
      · refine Eq.trans (x0 (h := 12) hT rfl) ?_
        exact x201 (h := 13) hT rfl
      · refine Eq.trans (x1 (h := 9) hT rfl rfl (by decide)) ?_
        refine Eq.trans (x0 (h := 10) hT rfl) ?_
        refine Eq.trans (x17_5 (h := 11) hT rfl) ?_
        refine xit (fun _ => ?_) (fun _ => ?_)
        · refine Eq.trans (x1 (h := 14) hT rfl rfl (by decide)) ?_
          refine Eq.trans (x21r (r := a0) (cl := 11) (o := 105) (h := 15) hT rfl ha0 (by decide) rfl) ?_
          refine Eq.trans (x1 (h := 16) hT rfl rfl (by decide)) ?_
          refine Eq.trans (x21r (r := a0) (cl := 11) (o := 3) (h := 17) hT rfl ha0 (by decide) rfl) ?_
          refine Eq.trans (x1 (h := 18) hT rfl rfl (by decide)) ?_
          refine Eq.trans (x1 (h := 19) hT rfl rfl (by decide)) ?_
          refine Eq.trans (x31 (r := (a0 + 105)) (cl := 1) (as := [(2, (((a0 + 3) : Nat) : Int)), (0, a1), (0, a2)]) (st' := []) (h := 20) hT rfl sm_246 rfl (kd_11_8 ha0)) ?_
          refine xbd (fun q3 => ?_)
          rw [rv_246]
          change zB P 277 21 [(2, ((a0 : Nat) : Int)), (0, a1), (0, a2), (0, a3)] [] q3.2 = _
          refine Eq.trans (x1 (h := 21) hT rfl rfl (by decide)) ?_
          refine Eq.trans (x21r (r := a0) (cl := 11) (o := 110) (h := 22) hT rfl ha0 (by decide) rfl) ?_
          refine Eq.trans (x1 (h := 23) hT rfl rfl (by decide)) ?_
          refine Eq.trans (x21r (r := a0) (cl := 11) (o := 105) (h := 24) hT rfl ha0 (by decide) rfl) ?_
          refine Eq.trans (x31 (r := (a0 + 110)) (cl := 8) (as := [(2, (((a0 + 105) : Nat) : Int))]) (st' := []) (h := 25) hT rfl sm_183 rfl (kd_11_9 ha0)) ?_
          refine xbd (fun q4 => ?_)
          rw [rv_183]
          change zB P 277 26 [(2, ((a0 : Nat) : Int)), (0, a1), (0, a2), (0, a3)] [(0, q4.1)] q4.2 = _
          refine Eq.trans (x16_1 (h := 26) hT rfl) ?_
          refine xit (fun _ => ?_) (fun _ => ?_)
          · refine Eq.trans (x1 (h := 29) hT rfl rfl (by decide)) ?_
            refine Eq.trans (x19 (h := 30) hT rfl) ?_
            refine Eq.trans x19c ?_
            refine xit (fun _ => ?_) (fun _ => ?_)
            · refine Eq.trans (x1 (h := 31) hT rfl rfl (by decide)) ?_
              refine Eq.trans (x21r (r := a0) (cl := 11) (o := 110) (h := 32) hT rfl ha0 (by decide) rfl) ?_
              refine Eq.trans (x21 (r := (a0 + 110)) (cl := 8) (h := 33) hT rfl (kd_11_9 ha0)) ?_
              exact x201 (h := 34) hT rfl
            refine Eq.trans x19c ?_
            refine xit (fun _ => ?_) (fun _ => ?_)
            · refine Eq.trans (x1 (h := 35) hT rfl rfl (by decide)) ?_
              refine Eq.trans (x21r (r := a0) (cl := 11) (o := 110) (h := 36) hT rfl ha0 (by decide) rfl) ?_
              refine Eq.trans (x21 (r := (a0 + 110)) (cl := 8) (h := 37) hT rfl (kd_11_9 ha0)) ?_
              exact x201 (h := 38) hT rfl
            refine Eq.trans (x1 (h := 39) hT rfl rfl (by decide)) ?_
            refine Eq.trans (x21r (r := a0) (cl := 11) (o := 110) (h := 40) hT rfl ha0 (by decide) rfl) ?_
            refine Eq.trans (x21 (r := (a0 + 110)) (cl := 8) (h := 41) hT rfl (kd_11_9 ha0)) ?_
            exact x201 (h := 42) hT rfl
          · refine Eq.trans (x0 (h := 27) hT rfl) ?_
            exact x201 (h := 28) hT rfl
        · refine Eq.trans (x0 (h := 12) hT rfl) ?_
          exact x201 (h := 13) hT rfl
/-! WordLinks.drop()I -/
set_option maxRecDepth 100000 in
theorem e_278 {P : zP} {d : zD P} {a0 : Nat} (ha0 : zkd a0 = 11) : MM P 278 [(2, ((a0 : Nat) : Int))] d = ((MM P 165 [(2, ((((a0 + 3) + 1) : Nat) : Int))] d).bind fun q1 => (if wr q1.1 ≠ 0 then ((MM P 249 [(2, (((a0 + 98) : Nat) : Int)), (2, (((a0 + 3) : Nat) : Int))] q1.2).bind fun q2 => some ((q2.2.m (((a0 + 3) + 1)) 6), q2.2)) else some ((-1), q1.2))) := by
  have hT := cT_278
  refine Eq.trans (MM_def sm_278 (Nat.le_of_ble_eq_true rfl)) ?_
  change zB P 278 0 [(2, ((a0 : Nat) : Int))] [] d = _
  refine Eq.trans (x1 (h := 0) hT rfl rfl (by decide)) ?_
  refine Eq.trans (x21r (r := a0) (cl := 11) (o := 3) (h := 1) hT rfl ha0 (by decide) rfl) ?_
  refine Eq.trans (x21r (r := (a0 + 3)) (cl := 9) (o := 1) (h := 2) hT rfl (kd_11_1 ha0) (by decide) rfl) ?_
  refine Eq.trans (x31 (r := ((a0 + 3) + 1)) (cl := 0) (as := []) (st' := []) (h := 3) hT rfl sm_165 rfl (kd_9_0 (kd_11_1 ha0))) ?_
  refine xbd (fun q1 => ?_)
  rw [rv_165]
  change zB P 278 4 [(2, ((a0 : Nat) : Int))] [(0, q1.1)] q1.2 = _
  refine Eq.trans (x16_1 (h := 4) hT rfl) ?_
  refine xit (fun _ => ?_) (fun _ => ?_)
  · refine Eq.trans (x1 (h := 7) hT rfl rfl (by decide)) ?_
    refine Eq.trans (x21r (r := a0) (cl := 11) (o := 98) (h := 8) hT rfl ha0 (by decide) rfl) ?_
    refine Eq.trans (x1 (h := 9) hT rfl rfl (by decide)) ?_
    refine Eq.trans (x21r (r := a0) (cl := 11) (o := 3) (h := 10) hT rfl ha0 (by decide) rfl) ?_
    refine Eq.trans (x31 (r := (a0 + 98)) (cl := 6) (as := [(2, (((a0 + 3) : Nat) : Int))]) (st' := []) (h := 11) hT rfl sm_249 rfl (kd_11_7 ha0)) ?_
    refine xbd (fun q2 => ?_)
    rw [rv_249]
    change zB P 278 12 [(2, ((a0 : Nat) : Int))] [] q2.2 = _
    refine Eq.trans (x1 (h := 12) hT rfl rfl (by decide)) ?_
    refine Eq.trans (x21r (r := a0) (cl := 11) (o := 3) (h := 13) hT rfl ha0 (by decide) rfl) ?_
    refine Eq.trans (x21r (r := (a0 + 3)) (cl := 9) (o := 1) (h := 14) hT rfl (kd_11_1 ha0) (by decide) rfl) ?_
    refine Eq.trans (x21 (r := ((a0 + 3) + 1)) (cl := 0) (h := 15) hT rfl (kd_9_0 (kd_11_1 ha0))) ?_
    exact x201 (h := 16) hT rfl
  · refine Eq.trans (x0 (h := 5) hT rfl) ?_
    exact x201 (h := 6) hT rfl
/-! WordLinks.even()I -/
set_option maxRecDepth 100000 in
theorem e_279 {P : zP} {d : zD P} {a0 : Nat} (ha0 : zkd a0 = 11) : MM P 279 [(2, ((a0 : Nat) : Int))] d = ((MM P 119 [(2, (((a0 + 59) : Nat) : Int)), (2, (((a0 + 3) : Nat) : Int))] d).bind fun q1 => ((MM P 249 [(2, (((a0 + 98) : Nat) : Int)), (2, (((a0 + 3) : Nat) : Int))] q1.2).bind fun q2 => ((MM P 31 [(2, (((a0 + 3) : Nat) : Int)), (2, (((a0 + 59) : Nat) : Int)), (0, 0)] q2.2).bind fun q3 => ((MM P 31 [(2, (((a0 + 3) : Nat) : Int)), (2, (((a0 + 59) : Nat) : Int)), (0, 1)] q3.2).bind fun q4 => some ((q3.1 + q4.1), q4.2))))) := by
  have hT := cT_279
  refine Eq.trans (MM_def sm_279 (Nat.le_of_ble_eq_true rfl)) ?_
  change zB P 279 0 [(2, ((a0 : Nat) : Int))] [] d = _
  refine Eq.trans (x1 (h := 0) hT rfl rfl (by decide)) ?_
  refine Eq.trans (x21r (r := a0) (cl := 11) (o := 59) (h := 1) hT rfl ha0 (by decide) rfl) ?_
  refine Eq.trans (x1 (h := 2) hT rfl rfl (by decide)) ?_
  refine Eq.trans (x21r (r := a0) (cl := 11) (o := 3) (h := 3) hT rfl ha0 (by decide) rfl) ?_
  refine Eq.trans (x31 (r := (a0 + 59)) (cl := 9) (as := [(2, (((a0 + 3) : Nat) : Int))]) (st' := []) (h := 4) hT rfl sm_119 rfl (kd_11_3 ha0)) ?_
  refine xbd (fun q1 => ?_)
  rw [rv_119]
  change zB P 279 5 [(2, ((a0 : Nat) : Int))] [] q1.2 = _
  refine Eq.trans (x1 (h := 5) hT rfl rfl (by decide)) ?_
  refine Eq.trans (x21r (r := a0) (cl := 11) (o := 98) (h := 6) hT rfl ha0 (by decide) rfl) ?_
  refine Eq.trans (x1 (h := 7) hT rfl rfl (by decide)) ?_
  refine Eq.trans (x21r (r := a0) (cl := 11) (o := 3) (h := 8) hT rfl ha0 (by decide) rfl) ?_
  refine Eq.trans (x31 (r := (a0 + 98)) (cl := 6) (as := [(2, (((a0 + 3) : Nat) : Int))]) (st' := []) (h := 9) hT rfl sm_249 rfl (kd_11_7 ha0)) ?_
  refine xbd (fun q2 => ?_)
  rw [rv_249]
  change zB P 279 10 [(2, ((a0 : Nat) : Int))] [] q2.2 = _
  refine Eq.trans (x1 (h := 10) hT rfl rfl (by decide)) ?_
  refine Eq.trans (x21r (r := a0) (cl := 11) (o := 3) (h := 11) hT rfl ha0 (by decide) rfl) ?_
  refine Eq.trans (x1 (h := 12) hT rfl rfl (by decide)) ?_
  refine Eq.trans (x21r (r := a0) (cl := 11) (o := 59) (h := 13) hT rfl ha0 (by decide) rfl) ?_
  refine Eq.trans (x0 (h := 14) hT rfl) ?_
  refine Eq.trans (x31 (r := (a0 + 3)) (cl := 9) (as := [(2, (((a0 + 59) : Nat) : Int)), (0, 0)]) (st' := []) (h := 15) hT rfl sm_31 rfl (kd_11_1 ha0)) ?_
  refine xbd (fun q3 => ?_)
  rw [rv_31]
  change zB P 279 16 [(2, ((a0 : Nat) : Int))] [(0, q3.1)] q3.2 = _
  refine Eq.trans (x1 (h := 16) hT rfl rfl (by decide)) ?_
  refine Eq.trans (x21r (r := a0) (cl := 11) (o := 3) (h := 17) hT rfl ha0 (by decide) rfl) ?_
  refine Eq.trans (x1 (h := 18) hT rfl rfl (by decide)) ?_
  refine Eq.trans (x21r (r := a0) (cl := 11) (o := 59) (h := 19) hT rfl ha0 (by decide) rfl) ?_
  refine Eq.trans (x0 (h := 20) hT rfl) ?_
  refine Eq.trans (x31 (r := (a0 + 3)) (cl := 9) (as := [(2, (((a0 + 59) : Nat) : Int)), (0, 1)]) (st' := [(0, q3.1)]) (h := 21) hT rfl sm_31 rfl (kd_11_1 ha0)) ?_
  refine xbd (fun q4 => ?_)
  rw [rv_31]
  change zB P 279 22 [(2, ((a0 : Nat) : Int))] [(0, q4.1), (0, q3.1)] q4.2 = _
  refine Eq.trans (x5_0 (h := 22) hT rfl) ?_
  exact x201 (h := 23) hT rfl
/-! WordLinks.links(III)I -/
set_option maxRecDepth 100000 in
theorem e_280 {P : zP} {d : zD P} {a0 : Nat} {a1 : Int} {a2 : Int} {a3 : Int} (ha0 : zkd a0 = 11) : MM P 280 [(2, ((a0 : Nat) : Int)), (0, a1), (0, a2), (0, a3)] d = ((MM P 43 [(0, a1)] d).bind fun q1 => (if wr q1.1 = 0 then some ((-1), q1.2) else ((MM P 125 [(2, ((a0 : Nat) : Int)), (0, a2), (0, 0), (0, a3)] q1.2).bind fun q2 => (if wr q2.1 ≠ 0 then ((MM P 246 [(2, (((a0 + 105) : Nat) : Int)), (2, (((a0 + 3) : Nat) : Int)), (0, a1), (0, a2)] q2.2).bind fun q3 => (if zin a3 6 then some ((q3.2.m (((a0 + 105) + 4)) (zix a3)), q3.2) else none)) else some ((-1), q2.2))))) := by
  have hT := cT_280
  refine Eq.trans (MM_def sm_280 (Nat.le_of_ble_eq_true rfl)) ?_
  change zB P 280 0 [(2, ((a0 : Nat) : Int)), (0, a1), (0, a2), (0, a3)] [] d = _
  refine Eq.trans (x1 (h := 0) hT rfl rfl (by decide)) ?_
  refine Eq.trans (x34 (as := [(0, a1)]) (st' := []) (h := 1) hT rfl sm_43 rfl) ?_
  refine xbd (fun q1 => ?_)
  rw [rv_43]
  change zB P 280 2 [(2, ((a0 : Nat) : Int)), (0, a1), (0, a2), (0, a3)] [(0, q1.1)] q1.2 = _
  refine Eq.trans (x16_0 (h := 2) hT rfl) ?_
  refine xit (fun _ => ?_) (fun _ => ?_)
  · refine Eq.trans (x0 (h := 9) hT rfl) ?_
    exact x201 (h := 10) hT rfl
  · refine Eq.trans (x1 (h := 3) hT rfl rfl (by decide)) ?_
    refine Eq.trans (x1 (h := 4) hT rfl rfl (by decide)) ?_
    refine Eq.trans (x0 (h := 5) hT rfl) ?_
    refine Eq.trans (x1 (h := 6) hT rfl rfl (by decide)) ?_
    refine Eq.trans (x31 (r := a0) (cl := 11) (as := [(0, a2), (0, 0), (0, a3)]) (st' := []) (h := 7) hT rfl sm_125 rfl ha0) ?_
    refine xbd (fun q2 => ?_)
    rw [rv_125]
    change zB P 280 8 [(2, ((a0 : Nat) : Int)), (0, a1), (0, a2), (0, a3)] [(0, q2.1)] q2.2 = _
    refine Eq.trans (x16_1 (h := 8) hT rfl) ?_
    refine xit (fun _ => ?_) (fun _ => ?_)
    · refine Eq.trans (x1 (h := 11) hT rfl rfl (by decide)) ?_
      refine Eq.trans (x21r (r := a0) (cl := 11) (o := 105) (h := 12) hT rfl ha0 (by decide) rfl) ?_
      refine Eq.trans (x1 (h := 13) hT rfl rfl (by decide)) ?_
      refine Eq.trans (x21r (r := a0) (cl := 11) (o := 3) (h := 14) hT rfl ha0 (by decide) rfl) ?_
      refine Eq.trans (x1 (h := 15) hT rfl rfl (by decide)) ?_
      refine Eq.trans (x1 (h := 16) hT rfl rfl (by decide)) ?_
      refine Eq.trans (x31 (r := (a0 + 105)) (cl := 1) (as := [(2, (((a0 + 3) : Nat) : Int)), (0, a1), (0, a2)]) (st' := []) (h := 17) hT rfl sm_246 rfl (kd_11_8 ha0)) ?_
      refine xbd (fun q3 => ?_)
      rw [rv_246]
      change zB P 280 18 [(2, ((a0 : Nat) : Int)), (0, a1), (0, a2), (0, a3)] [] q3.2 = _
      refine Eq.trans (x1 (h := 18) hT rfl rfl (by decide)) ?_
      refine Eq.trans (x21r (r := a0) (cl := 11) (o := 105) (h := 19) hT rfl ha0 (by decide) rfl) ?_
      refine Eq.trans (x21r (r := (a0 + 105)) (cl := 1) (o := 4) (h := 20) hT rfl (kd_11_8 ha0) (by decide) rfl) ?_
      refine Eq.trans (x1 (h := 21) hT rfl rfl (by decide)) ?_
      refine Eq.trans (x24 (r := ((a0 + 105) + 4)) (n := 6) (h := 22) hT rfl (Or.inl (kd_1_3 (kd_11_8 ha0))) (ln_1_3 (kd_11_8 ha0))) ?_
      refine xig (fun hz4 => ?_)
      exact x201 (h := 23) hT rfl
    · refine Eq.trans (x0 (h := 9) hT rfl) ?_
      exact x201 (h := 10) hT rfl
/-! WordLinks.matched(I)I -/
set_option maxRecDepth 100000 in
theorem e_281 {P : zP} {d : zD P} {a0 : Nat} {a1 : Int} (ha0 : zkd a0 = 11) : MM P 281 [(2, ((a0 : Nat) : Int)), (0, a1)] d = (if wr a1 < wr 10 then (if wr 0 ≠ 0 then ((MM P 30 [(2, (((a0 + 3) : Nat) : Int))] d).bind fun q1 => (if wr q1.1 ≠ 0 then ((MM P 247 [(2, (((a0 + 93) : Nat) : Int)), (2, ((((a0 + 3) + 16) : Nat) : Int)), (2, ((((a0 + 3) + 19) : Nat) : Int))] q1.2).bind fun q2 => (if wr 0 = 0 then (if wr a1 = 0 then ((MM P 12 [(2, (((a0 + 93) : Nat) : Int))] q2.2).bind fun q3 => some (q3.1, q3.2)) else (if wr a1 = 1 then some ((q2.2.m ((a0 + 93)) 6), q2.2) else (if wr a1 = 2 then some ((q2.2.m (((a0 + 3) + 16)) 2), q2.2) else some ((q2.2.m (((a0 + 3) + 19)) 2), q2.2)))) else (if wr ((q2.2.m ((a0 + 93)) 6)) ≤ wr ((a1 - 10)) then some ((-4), q2.2) else (if zin ((a1 - 10)) 16 then some ((q2.2.m (((a0 + 93) + 2)) (zix ((a1 - 10)))), q2.2) else none)))) else some ((-2), q1.2))) else (if wr a1 < 0 then some ((-1), d) else (if wr a1 ≤ wr 3 then ((MM P 30 [(2, (((a0 + 3) : Nat) : Int))] d).bind fun q5 => (if wr q5.1 ≠ 0 then ((MM P 247 [(2, (((a0 + 93) : Nat) : Int)), (2, ((((a0 + 3) + 16) : Nat) : Int)), (2, ((((a0 + 3) + 19) : Nat) : Int))] q5.2).bind fun q6 => (if wr 0 = 0 then (if wr a1 = 0 then ((MM P 12 [(2, (((a0 + 93) : Nat) : Int))] q6.2).bind fun q7 => some (q7.1, q7.2)) else (if wr a1 = 1 then some ((q6.2.m ((a0 + 93)) 6), q6.2) else (if wr a1 = 2 then some ((q6.2.m (((a0 + 3) + 16)) 2), q6.2) else some ((q6.2.m (((a0 + 3) + 19)) 2), q6.2)))) else (if wr ((q6.2.m ((a0 + 93)) 6)) ≤ wr ((a1 - 10)) then some ((-4), q6.2) else (if zin ((a1 - 10)) 16 then some ((q6.2.m (((a0 + 93) + 2)) (zix ((a1 - 10)))), q6.2) else none)))) else some ((-2), q5.2))) else some ((-1), d)))) else (if wr 26 ≤ wr a1 then (if wr 0 ≠ 0 then ((MM P 30 [(2, (((a0 + 3) : Nat) : Int))] d).bind fun q9 => (if wr q9.1 ≠ 0 then ((MM P 247 [(2, (((a0 + 93) : Nat) : Int)), (2, ((((a0 + 3) + 16) : Nat) : Int)), (2, ((((a0 + 3) + 19) : Nat) : Int))] q9.2).bind fun q10 => (if wr 0 = 0 then (if wr a1 = 0 then ((MM P 12 [(2, (((a0 + 93) : Nat) : Int))] q10.2).bind fun q11 => some (q11.1, q11.2)) else (if wr a1 = 1 then some ((q10.2.m ((a0 + 93)) 6), q10.2) else (if wr a1 = 2 then some ((q10.2.m (((a0 + 3) + 16)) 2), q10.2) else some ((q10.2.m (((a0 + 3) + 19)) 2), q10.2)))) else (if wr ((q10.2.m ((a0 + 93)) 6)) ≤ wr ((a1 - 10)) then some ((-4), q10.2) else (if zin ((a1 - 10)) 16 then some ((q10.2.m (((a0 + 93) + 2)) (zix ((a1 - 10)))), q10.2) else none)))) else some ((-2), q9.2))) else (if wr a1 < 0 then some ((-1), d) else (if wr a1 ≤ wr 3 then ((MM P 30 [(2, (((a0 + 3) : Nat) : Int))] d).bind fun q13 => (if wr q13.1 ≠ 0 then ((MM P 247 [(2, (((a0 + 93) : Nat) : Int)), (2, ((((a0 + 3) + 16) : Nat) : Int)), (2, ((((a0 + 3) + 19) : Nat) : Int))] q13.2).bind fun q14 => (if wr 0 = 0 then (if wr a1 = 0 then ((MM P 12 [(2, (((a0 + 93) : Nat) : Int))] q14.2).bind fun q15 => some (q15.1, q15.2)) else (if wr a1 = 1 then some ((q14.2.m ((a0 + 93)) 6), q14.2) else (if wr a1 = 2 then some ((q14.2.m (((a0 + 3) + 16)) 2), q14.2) else some ((q14.2.m (((a0 + 3) + 19)) 2), q14.2)))) else (if wr ((q14.2.m ((a0 + 93)) 6)) ≤ wr ((a1 - 10)) then some ((-4), q14.2) else (if zin ((a1 - 10)) 16 then some ((q14.2.m (((a0 + 93) + 2)) (zix ((a1 - 10)))), q14.2) else none)))) else some ((-2), q13.2))) else some ((-1), d)))) else (if wr 1 ≠ 0 then ((MM P 30 [(2, (((a0 + 3) : Nat) : Int))] d).bind fun q17 => (if wr q17.1 ≠ 0 then ((MM P 247 [(2, (((a0 + 93) : Nat) : Int)), (2, ((((a0 + 3) + 16) : Nat) : Int)), (2, ((((a0 + 3) + 19) : Nat) : Int))] q17.2).bind fun q18 => (if wr 1 = 0 then (if wr a1 = 0 then ((MM P 12 [(2, (((a0 + 93) : Nat) : Int))] q18.2).bind fun q19 => some (q19.1, q19.2)) else (if wr a1 = 1 then some ((q18.2.m ((a0 + 93)) 6), q18.2) else (if wr a1 = 2 then some ((q18.2.m (((a0 + 3) + 16)) 2), q18.2) else some ((q18.2.m (((a0 + 3) + 19)) 2), q18.2)))) else (if wr ((q18.2.m ((a0 + 93)) 6)) ≤ wr ((a1 - 10)) then some ((-4), q18.2) else (if zin ((a1 - 10)) 16 then some ((q18.2.m (((a0 + 93) + 2)) (zix ((a1 - 10)))), q18.2) else none)))) else some ((-2), q17.2))) else (if wr a1 < 0 then some ((-1), d) else (if wr a1 ≤ wr 3 then ((MM P 30 [(2, (((a0 + 3) : Nat) : Int))] d).bind fun q21 => (if wr q21.1 ≠ 0 then ((MM P 247 [(2, (((a0 + 93) : Nat) : Int)), (2, ((((a0 + 3) + 16) : Nat) : Int)), (2, ((((a0 + 3) + 19) : Nat) : Int))] q21.2).bind fun q22 => (if wr 1 = 0 then (if wr a1 = 0 then ((MM P 12 [(2, (((a0 + 93) : Nat) : Int))] q22.2).bind fun q23 => some (q23.1, q23.2)) else (if wr a1 = 1 then some ((q22.2.m ((a0 + 93)) 6), q22.2) else (if wr a1 = 2 then some ((q22.2.m (((a0 + 3) + 16)) 2), q22.2) else some ((q22.2.m (((a0 + 3) + 19)) 2), q22.2)))) else (if wr ((q22.2.m ((a0 + 93)) 6)) ≤ wr ((a1 - 10)) then some ((-4), q22.2) else (if zin ((a1 - 10)) 16 then some ((q22.2.m (((a0 + 93) + 2)) (zix ((a1 - 10)))), q22.2) else none)))) else some ((-2), q21.2))) else some ((-1), d)))))) := by
  have hT := cT_281
  refine Eq.trans (MM_def sm_281 (Nat.le_of_ble_eq_true rfl)) ?_
  change zB P 281 0 [(2, ((a0 : Nat) : Int)), (0, a1), (3, 0)] [] d = _
  refine Eq.trans (x1 (h := 0) hT rfl rfl (by decide)) ?_
  refine Eq.trans (x0 (h := 1) hT rfl) ?_
  refine Eq.trans (x17_2 (h := 2) hT rfl) ?_
  refine xit (fun _ => ?_) (fun _ => ?_)
  · refine Eq.trans (x0 (h := 8) hT rfl) ?_
    refine Eq.trans (x2 (ls' := [(2, ((a0 : Nat) : Int)), (0, a1), (0, 0)]) (h := 9) hT rfl (Nat.le_of_ble_eq_true rfl) rfl) ?_
    refine Eq.trans (x1 (h := 10) hT rfl rfl (by decide)) ?_
    refine Eq.trans (x16_1 (h := 11) hT rfl) ?_
    refine xit (fun _ => ?_) (fun _ => ?_)
    · refine Eq.trans (x1 (h := 19) hT rfl rfl (by decide)) ?_
      refine Eq.trans (x21r (r := a0) (cl := 11) (o := 3) (h := 20) hT rfl ha0 (by decide) rfl) ?_
      refine Eq.trans (x31 (r := (a0 + 3)) (cl := 9) (as := []) (st' := []) (h := 21) hT rfl sm_30 rfl (kd_11_1 ha0)) ?_
      refine xbd (fun q1 => ?_)
      rw [rv_30]
      change zB P 281 22 [(2, ((a0 : Nat) : Int)), (0, a1), (0, 0)] [(0, q1.1)] q1.2 = _
      refine Eq.trans (x16_1 (h := 22) hT rfl) ?_
      refine xit (fun _ => ?_) (fun _ => ?_)
      · refine Eq.trans (x1 (h := 25) hT rfl rfl (by decide)) ?_
        refine Eq.trans (x21r (r := a0) (cl := 11) (o := 93) (h := 26) hT rfl ha0 (by decide) rfl) ?_
        refine Eq.trans (x1 (h := 27) hT rfl rfl (by decide)) ?_
        refine Eq.trans (x21r (r := a0) (cl := 11) (o := 3) (h := 28) hT rfl ha0 (by decide) rfl) ?_
        refine Eq.trans (x21r (r := (a0 + 3)) (cl := 9) (o := 16) (h := 29) hT rfl (kd_11_1 ha0) (by decide) rfl) ?_
        refine Eq.trans (x1 (h := 30) hT rfl rfl (by decide)) ?_
        refine Eq.trans (x21r (r := a0) (cl := 11) (o := 3) (h := 31) hT rfl ha0 (by decide) rfl) ?_
        refine Eq.trans (x21r (r := (a0 + 3)) (cl := 9) (o := 19) (h := 32) hT rfl (kd_11_1 ha0) (by decide) rfl) ?_
        refine Eq.trans (x31 (r := (a0 + 93)) (cl := 2) (as := [(2, ((((a0 + 3) + 16) : Nat) : Int)), (2, ((((a0 + 3) + 19) : Nat) : Int))]) (st' := []) (h := 33) hT rfl sm_247 rfl (kd_11_6 ha0)) ?_
        refine xbd (fun q2 => ?_)
        rw [rv_247]
        change zB P 281 34 [(2, ((a0 : Nat) : Int)), (0, a1), (0, 0)] [] q2.2 = _
        refine Eq.trans (x1 (h := 34) hT rfl rfl (by decide)) ?_
        refine Eq.trans (x16_0 (h := 35) hT rfl) ?_
        refine xit (fun _ => ?_) (fun _ => ?_)
        · refine Eq.trans (x1 (h := 53) hT rfl rfl (by decide)) ?_
          refine Eq.trans (x19 (h := 54) hT rfl) ?_
          refine Eq.trans x19c ?_
          refine xit (fun _ => ?_) (fun _ => ?_)
          · refine Eq.trans (x1 (h := 55) hT rfl rfl (by decide)) ?_
            refine Eq.trans (x21r (r := a0) (cl := 11) (o := 93) (h := 56) hT rfl ha0 (by decide) rfl) ?_
            refine Eq.trans (x31 (r := (a0 + 93)) (cl := 2) (as := []) (st' := []) (h := 57) hT rfl sm_12 rfl (kd_11_6 ha0)) ?_
            refine xbd (fun q3 => ?_)
            rw [rv_12]
            change zB P 281 58 [(2, ((a0 : Nat) : Int)), (0, a1), (0, 0)] [(0, q3.1)] q3.2 = _
            exact x201 (h := 58) hT rfl
          refine Eq.trans x19c ?_
          refine xit (fun _ => ?_) (fun _ => ?_)
          · refine Eq.trans (x1 (h := 59) hT rfl rfl (by decide)) ?_
            refine Eq.trans (x21r (r := a0) (cl := 11) (o := 93) (h := 60) hT rfl ha0 (by decide) rfl) ?_
            refine Eq.trans (x21 (r := (a0 + 93)) (cl := 2) (h := 61) hT rfl (kd_11_6 ha0)) ?_
            exact x201 (h := 62) hT rfl
          refine Eq.trans x19c ?_
          refine xit (fun _ => ?_) (fun _ => ?_)
          · refine Eq.trans (x1 (h := 63) hT rfl rfl (by decide)) ?_
            refine Eq.trans (x21r (r := a0) (cl := 11) (o := 3) (h := 64) hT rfl ha0 (by decide) rfl) ?_
            refine Eq.trans (x21r (r := (a0 + 3)) (cl := 9) (o := 16) (h := 65) hT rfl (kd_11_1 ha0) (by decide) rfl) ?_
            refine Eq.trans (x21 (r := ((a0 + 3) + 16)) (cl := 7) (h := 66) hT rfl (kd_9_1 (kd_11_1 ha0))) ?_
            exact x201 (h := 67) hT rfl
          refine Eq.trans (x1 (h := 68) hT rfl rfl (by decide)) ?_
          refine Eq.trans (x21r (r := a0) (cl := 11) (o := 3) (h := 69) hT rfl ha0 (by decide) rfl) ?_
          refine Eq.trans (x21r (r := (a0 + 3)) (cl := 9) (o := 19) (h := 70) hT rfl (kd_11_1 ha0) (by decide) rfl) ?_
          refine Eq.trans (x21 (r := ((a0 + 3) + 19)) (cl := 7) (h := 71) hT rfl (kd_9_2 (kd_11_1 ha0))) ?_
          exact x201 (h := 72) hT rfl
        · refine Eq.trans (x1 (h := 36) hT rfl rfl (by decide)) ?_
          refine Eq.trans (x0 (h := 37) hT rfl) ?_
          refine Eq.trans (x5_1 (h := 38) hT rfl) ?_
          refine Eq.trans (x1 (h := 39) hT rfl rfl (by decide)) ?_
          refine Eq.trans (x21r (r := a0) (cl := 11) (o := 93) (h := 40) hT rfl ha0 (by decide) rfl) ?_
          refine Eq.trans (x21 (r := (a0 + 93)) (cl := 2) (h := 41) hT rfl (kd_11_6 ha0)) ?_
          refine Eq.trans (x17_3 (h := 42) hT rfl) ?_
          refine xit (fun _ => ?_) (fun _ => ?_)
          · refine Eq.trans (x0 (h := 51) hT rfl) ?_
            exact x201 (h := 52) hT rfl
          · refine Eq.trans (x1 (h := 43) hT rfl rfl (by decide)) ?_
            refine Eq.trans (x21r (r := a0) (cl := 11) (o := 93) (h := 44) hT rfl ha0 (by decide) rfl) ?_
            refine Eq.trans (x21r (r := (a0 + 93)) (cl := 2) (o := 2) (h := 45) hT rfl (kd_11_6 ha0) (by decide) rfl) ?_
            refine Eq.trans (x1 (h := 46) hT rfl rfl (by decide)) ?_
            refine Eq.trans (x0 (h := 47) hT rfl) ?_
            refine Eq.trans (x5_1 (h := 48) hT rfl) ?_
            refine Eq.trans (x24 (r := ((a0 + 93) + 2)) (n := 16) (h := 49) hT rfl (Or.inl (kd_2_1 (kd_11_6 ha0))) (ln_2_1 (kd_11_6 ha0))) ?_
            refine xig (fun hz4 => ?_)
            refine Eq.trans (x18 (h := 50) hT rfl) ?_
            exact x201 (h := 52) hT rfl
      · refine Eq.trans (x0 (h := 23) hT rfl) ?_
        exact x201 (h := 24) hT rfl
    · refine Eq.trans (x1 (h := 12) hT rfl rfl (by decide)) ?_
      refine Eq.trans (x16_2 (h := 13) hT rfl) ?_
      refine xit (fun _ => ?_) (fun _ => ?_)
      · refine Eq.trans (x0 (h := 17) hT rfl) ?_
        exact x201 (h := 18) hT rfl
      · refine Eq.trans (x1 (h := 14) hT rfl rfl (by decide)) ?_
        refine Eq.trans (x0 (h := 15) hT rfl) ?_
        refine Eq.trans (x17_5 (h := 16) hT rfl) ?_
        refine xit (fun _ => ?_) (fun _ => ?_)
        · refine Eq.trans (x1 (h := 19) hT rfl rfl (by decide)) ?_
          refine Eq.trans (x21r (r := a0) (cl := 11) (o := 3) (h := 20) hT rfl ha0 (by decide) rfl) ?_
          refine Eq.trans (x31 (r := (a0 + 3)) (cl := 9) (as := []) (st' := []) (h := 21) hT rfl sm_30 rfl (kd_11_1 ha0)) ?_
          refine xbd (fun q5 => ?_)
          rw [rv_30]
          change zB P 281 22 [(2, ((a0 : Nat) : Int)), (0, a1), (0, 0)] [(0, q5.1)] q5.2 = _
          refine Eq.trans (x16_1 (h := 22) hT rfl) ?_
          refine xit (fun _ => ?_) (fun _ => ?_)
          · refine Eq.trans (x1 (h := 25) hT rfl rfl (by decide)) ?_
            refine Eq.trans (x21r (r := a0) (cl := 11) (o := 93) (h := 26) hT rfl ha0 (by decide) rfl) ?_
            refine Eq.trans (x1 (h := 27) hT rfl rfl (by decide)) ?_
            refine Eq.trans (x21r (r := a0) (cl := 11) (o := 3) (h := 28) hT rfl ha0 (by decide) rfl) ?_
            refine Eq.trans (x21r (r := (a0 + 3)) (cl := 9) (o := 16) (h := 29) hT rfl (kd_11_1 ha0) (by decide) rfl) ?_
            refine Eq.trans (x1 (h := 30) hT rfl rfl (by decide)) ?_
            refine Eq.trans (x21r (r := a0) (cl := 11) (o := 3) (h := 31) hT rfl ha0 (by decide) rfl) ?_
            refine Eq.trans (x21r (r := (a0 + 3)) (cl := 9) (o := 19) (h := 32) hT rfl (kd_11_1 ha0) (by decide) rfl) ?_
            refine Eq.trans (x31 (r := (a0 + 93)) (cl := 2) (as := [(2, ((((a0 + 3) + 16) : Nat) : Int)), (2, ((((a0 + 3) + 19) : Nat) : Int))]) (st' := []) (h := 33) hT rfl sm_247 rfl (kd_11_6 ha0)) ?_
            refine xbd (fun q6 => ?_)
            rw [rv_247]
            change zB P 281 34 [(2, ((a0 : Nat) : Int)), (0, a1), (0, 0)] [] q6.2 = _
            refine Eq.trans (x1 (h := 34) hT rfl rfl (by decide)) ?_
            refine Eq.trans (x16_0 (h := 35) hT rfl) ?_
            refine xit (fun _ => ?_) (fun _ => ?_)
            · refine Eq.trans (x1 (h := 53) hT rfl rfl (by decide)) ?_
              refine Eq.trans (x19 (h := 54) hT rfl) ?_
              refine Eq.trans x19c ?_
              refine xit (fun _ => ?_) (fun _ => ?_)
              · refine Eq.trans (x1 (h := 55) hT rfl rfl (by decide)) ?_
                refine Eq.trans (x21r (r := a0) (cl := 11) (o := 93) (h := 56) hT rfl ha0 (by decide) rfl) ?_
                refine Eq.trans (x31 (r := (a0 + 93)) (cl := 2) (as := []) (st' := []) (h := 57) hT rfl sm_12 rfl (kd_11_6 ha0)) ?_
                refine xbd (fun q7 => ?_)
                rw [rv_12]
                change zB P 281 58 [(2, ((a0 : Nat) : Int)), (0, a1), (0, 0)] [(0, q7.1)] q7.2 = _
                exact x201 (h := 58) hT rfl
              refine Eq.trans x19c ?_
              refine xit (fun _ => ?_) (fun _ => ?_)
              · refine Eq.trans (x1 (h := 59) hT rfl rfl (by decide)) ?_
                refine Eq.trans (x21r (r := a0) (cl := 11) (o := 93) (h := 60) hT rfl ha0 (by decide) rfl) ?_
                refine Eq.trans (x21 (r := (a0 + 93)) (cl := 2) (h := 61) hT rfl (kd_11_6 ha0)) ?_
                exact x201 (h := 62) hT rfl
              refine Eq.trans x19c ?_
              refine xit (fun _ => ?_) (fun _ => ?_)
              · refine Eq.trans (x1 (h := 63) hT rfl rfl (by decide)) ?_
                refine Eq.trans (x21r (r := a0) (cl := 11) (o := 3) (h := 64) hT rfl ha0 (by decide) rfl) ?_
                refine Eq.trans (x21r (r := (a0 + 3)) (cl := 9) (o := 16) (h := 65) hT rfl (kd_11_1 ha0) (by decide) rfl) ?_
                refine Eq.trans (x21 (r := ((a0 + 3) + 16)) (cl := 7) (h := 66) hT rfl (kd_9_1 (kd_11_1 ha0))) ?_
                exact x201 (h := 67) hT rfl
              refine Eq.trans (x1 (h := 68) hT rfl rfl (by decide)) ?_
              refine Eq.trans (x21r (r := a0) (cl := 11) (o := 3) (h := 69) hT rfl ha0 (by decide) rfl) ?_
              refine Eq.trans (x21r (r := (a0 + 3)) (cl := 9) (o := 19) (h := 70) hT rfl (kd_11_1 ha0) (by decide) rfl) ?_
              refine Eq.trans (x21 (r := ((a0 + 3) + 19)) (cl := 7) (h := 71) hT rfl (kd_9_2 (kd_11_1 ha0))) ?_
              exact x201 (h := 72) hT rfl
            · refine Eq.trans (x1 (h := 36) hT rfl rfl (by decide)) ?_
              refine Eq.trans (x0 (h := 37) hT rfl) ?_
              refine Eq.trans (x5_1 (h := 38) hT rfl) ?_
              refine Eq.trans (x1 (h := 39) hT rfl rfl (by decide)) ?_
              refine Eq.trans (x21r (r := a0) (cl := 11) (o := 93) (h := 40) hT rfl ha0 (by decide) rfl) ?_
              refine Eq.trans (x21 (r := (a0 + 93)) (cl := 2) (h := 41) hT rfl (kd_11_6 ha0)) ?_
              refine Eq.trans (x17_3 (h := 42) hT rfl) ?_
              refine xit (fun _ => ?_) (fun _ => ?_)
              · refine Eq.trans (x0 (h := 51) hT rfl) ?_
                exact x201 (h := 52) hT rfl
              · refine Eq.trans (x1 (h := 43) hT rfl rfl (by decide)) ?_
                refine Eq.trans (x21r (r := a0) (cl := 11) (o := 93) (h := 44) hT rfl ha0 (by decide) rfl) ?_
                refine Eq.trans (x21r (r := (a0 + 93)) (cl := 2) (o := 2) (h := 45) hT rfl (kd_11_6 ha0) (by decide) rfl) ?_
                refine Eq.trans (x1 (h := 46) hT rfl rfl (by decide)) ?_
                refine Eq.trans (x0 (h := 47) hT rfl) ?_
                refine Eq.trans (x5_1 (h := 48) hT rfl) ?_
                refine Eq.trans (x24 (r := ((a0 + 93) + 2)) (n := 16) (h := 49) hT rfl (Or.inl (kd_2_1 (kd_11_6 ha0))) (ln_2_1 (kd_11_6 ha0))) ?_
                refine xig (fun hz8 => ?_)
                refine Eq.trans (x18 (h := 50) hT rfl) ?_
                exact x201 (h := 52) hT rfl
          · refine Eq.trans (x0 (h := 23) hT rfl) ?_
            exact x201 (h := 24) hT rfl
        · refine Eq.trans (x0 (h := 17) hT rfl) ?_
          exact x201 (h := 18) hT rfl
  · refine Eq.trans (x1 (h := 3) hT rfl rfl (by decide)) ?_
    refine Eq.trans (x0 (h := 4) hT rfl) ?_
    refine Eq.trans (x17_3 (h := 5) hT rfl) ?_
    refine xit (fun _ => ?_) (fun _ => ?_)
    · refine Eq.trans (x0 (h := 8) hT rfl) ?_
      refine Eq.trans (x2 (ls' := [(2, ((a0 : Nat) : Int)), (0, a1), (0, 0)]) (h := 9) hT rfl (Nat.le_of_ble_eq_true rfl) rfl) ?_
      refine Eq.trans (x1 (h := 10) hT rfl rfl (by decide)) ?_
      refine Eq.trans (x16_1 (h := 11) hT rfl) ?_
      refine xit (fun _ => ?_) (fun _ => ?_)
      · refine Eq.trans (x1 (h := 19) hT rfl rfl (by decide)) ?_
        refine Eq.trans (x21r (r := a0) (cl := 11) (o := 3) (h := 20) hT rfl ha0 (by decide) rfl) ?_
        refine Eq.trans (x31 (r := (a0 + 3)) (cl := 9) (as := []) (st' := []) (h := 21) hT rfl sm_30 rfl (kd_11_1 ha0)) ?_
        refine xbd (fun q9 => ?_)
        rw [rv_30]
        change zB P 281 22 [(2, ((a0 : Nat) : Int)), (0, a1), (0, 0)] [(0, q9.1)] q9.2 = _
        refine Eq.trans (x16_1 (h := 22) hT rfl) ?_
        refine xit (fun _ => ?_) (fun _ => ?_)
        · refine Eq.trans (x1 (h := 25) hT rfl rfl (by decide)) ?_
          refine Eq.trans (x21r (r := a0) (cl := 11) (o := 93) (h := 26) hT rfl ha0 (by decide) rfl) ?_
          refine Eq.trans (x1 (h := 27) hT rfl rfl (by decide)) ?_
          refine Eq.trans (x21r (r := a0) (cl := 11) (o := 3) (h := 28) hT rfl ha0 (by decide) rfl) ?_
          refine Eq.trans (x21r (r := (a0 + 3)) (cl := 9) (o := 16) (h := 29) hT rfl (kd_11_1 ha0) (by decide) rfl) ?_
          refine Eq.trans (x1 (h := 30) hT rfl rfl (by decide)) ?_
          refine Eq.trans (x21r (r := a0) (cl := 11) (o := 3) (h := 31) hT rfl ha0 (by decide) rfl) ?_
          refine Eq.trans (x21r (r := (a0 + 3)) (cl := 9) (o := 19) (h := 32) hT rfl (kd_11_1 ha0) (by decide) rfl) ?_
          refine Eq.trans (x31 (r := (a0 + 93)) (cl := 2) (as := [(2, ((((a0 + 3) + 16) : Nat) : Int)), (2, ((((a0 + 3) + 19) : Nat) : Int))]) (st' := []) (h := 33) hT rfl sm_247 rfl (kd_11_6 ha0)) ?_
          refine xbd (fun q10 => ?_)
          rw [rv_247]
          change zB P 281 34 [(2, ((a0 : Nat) : Int)), (0, a1), (0, 0)] [] q10.2 = _
          refine Eq.trans (x1 (h := 34) hT rfl rfl (by decide)) ?_
          refine Eq.trans (x16_0 (h := 35) hT rfl) ?_
          refine xit (fun _ => ?_) (fun _ => ?_)
          · refine Eq.trans (x1 (h := 53) hT rfl rfl (by decide)) ?_
            refine Eq.trans (x19 (h := 54) hT rfl) ?_
            refine Eq.trans x19c ?_
            refine xit (fun _ => ?_) (fun _ => ?_)
            · refine Eq.trans (x1 (h := 55) hT rfl rfl (by decide)) ?_
              refine Eq.trans (x21r (r := a0) (cl := 11) (o := 93) (h := 56) hT rfl ha0 (by decide) rfl) ?_
              refine Eq.trans (x31 (r := (a0 + 93)) (cl := 2) (as := []) (st' := []) (h := 57) hT rfl sm_12 rfl (kd_11_6 ha0)) ?_
              refine xbd (fun q11 => ?_)
              rw [rv_12]
              change zB P 281 58 [(2, ((a0 : Nat) : Int)), (0, a1), (0, 0)] [(0, q11.1)] q11.2 = _
              exact x201 (h := 58) hT rfl
            refine Eq.trans x19c ?_
            refine xit (fun _ => ?_) (fun _ => ?_)
            · refine Eq.trans (x1 (h := 59) hT rfl rfl (by decide)) ?_
              refine Eq.trans (x21r (r := a0) (cl := 11) (o := 93) (h := 60) hT rfl ha0 (by decide) rfl) ?_
              refine Eq.trans (x21 (r := (a0 + 93)) (cl := 2) (h := 61) hT rfl (kd_11_6 ha0)) ?_
              exact x201 (h := 62) hT rfl
            refine Eq.trans x19c ?_
            refine xit (fun _ => ?_) (fun _ => ?_)
            · refine Eq.trans (x1 (h := 63) hT rfl rfl (by decide)) ?_
              refine Eq.trans (x21r (r := a0) (cl := 11) (o := 3) (h := 64) hT rfl ha0 (by decide) rfl) ?_
              refine Eq.trans (x21r (r := (a0 + 3)) (cl := 9) (o := 16) (h := 65) hT rfl (kd_11_1 ha0) (by decide) rfl) ?_
              refine Eq.trans (x21 (r := ((a0 + 3) + 16)) (cl := 7) (h := 66) hT rfl (kd_9_1 (kd_11_1 ha0))) ?_
              exact x201 (h := 67) hT rfl
            refine Eq.trans (x1 (h := 68) hT rfl rfl (by decide)) ?_
            refine Eq.trans (x21r (r := a0) (cl := 11) (o := 3) (h := 69) hT rfl ha0 (by decide) rfl) ?_
            refine Eq.trans (x21r (r := (a0 + 3)) (cl := 9) (o := 19) (h := 70) hT rfl (kd_11_1 ha0) (by decide) rfl) ?_
            refine Eq.trans (x21 (r := ((a0 + 3) + 19)) (cl := 7) (h := 71) hT rfl (kd_9_2 (kd_11_1 ha0))) ?_
            exact x201 (h := 72) hT rfl
          · refine Eq.trans (x1 (h := 36) hT rfl rfl (by decide)) ?_
            refine Eq.trans (x0 (h := 37) hT rfl) ?_
            refine Eq.trans (x5_1 (h := 38) hT rfl) ?_
            refine Eq.trans (x1 (h := 39) hT rfl rfl (by decide)) ?_
            refine Eq.trans (x21r (r := a0) (cl := 11) (o := 93) (h := 40) hT rfl ha0 (by decide) rfl) ?_
            refine Eq.trans (x21 (r := (a0 + 93)) (cl := 2) (h := 41) hT rfl (kd_11_6 ha0)) ?_
            refine Eq.trans (x17_3 (h := 42) hT rfl) ?_
            refine xit (fun _ => ?_) (fun _ => ?_)
            · refine Eq.trans (x0 (h := 51) hT rfl) ?_
              exact x201 (h := 52) hT rfl
            · refine Eq.trans (x1 (h := 43) hT rfl rfl (by decide)) ?_
              refine Eq.trans (x21r (r := a0) (cl := 11) (o := 93) (h := 44) hT rfl ha0 (by decide) rfl) ?_
              refine Eq.trans (x21r (r := (a0 + 93)) (cl := 2) (o := 2) (h := 45) hT rfl (kd_11_6 ha0) (by decide) rfl) ?_
              refine Eq.trans (x1 (h := 46) hT rfl rfl (by decide)) ?_
              refine Eq.trans (x0 (h := 47) hT rfl) ?_
              refine Eq.trans (x5_1 (h := 48) hT rfl) ?_
              refine Eq.trans (x24 (r := ((a0 + 93) + 2)) (n := 16) (h := 49) hT rfl (Or.inl (kd_2_1 (kd_11_6 ha0))) (ln_2_1 (kd_11_6 ha0))) ?_
              refine xig (fun hz12 => ?_)
              refine Eq.trans (x18 (h := 50) hT rfl) ?_
              exact x201 (h := 52) hT rfl
        · refine Eq.trans (x0 (h := 23) hT rfl) ?_
          exact x201 (h := 24) hT rfl
      · refine Eq.trans (x1 (h := 12) hT rfl rfl (by decide)) ?_
        refine Eq.trans (x16_2 (h := 13) hT rfl) ?_
        refine xit (fun _ => ?_) (fun _ => ?_)
        · refine Eq.trans (x0 (h := 17) hT rfl) ?_
          exact x201 (h := 18) hT rfl
        · refine Eq.trans (x1 (h := 14) hT rfl rfl (by decide)) ?_
          refine Eq.trans (x0 (h := 15) hT rfl) ?_
          refine Eq.trans (x17_5 (h := 16) hT rfl) ?_
          refine xit (fun _ => ?_) (fun _ => ?_)
          · refine Eq.trans (x1 (h := 19) hT rfl rfl (by decide)) ?_
            refine Eq.trans (x21r (r := a0) (cl := 11) (o := 3) (h := 20) hT rfl ha0 (by decide) rfl) ?_
            refine Eq.trans (x31 (r := (a0 + 3)) (cl := 9) (as := []) (st' := []) (h := 21) hT rfl sm_30 rfl (kd_11_1 ha0)) ?_
            refine xbd (fun q13 => ?_)
            rw [rv_30]
            change zB P 281 22 [(2, ((a0 : Nat) : Int)), (0, a1), (0, 0)] [(0, q13.1)] q13.2 = _
            refine Eq.trans (x16_1 (h := 22) hT rfl) ?_
            refine xit (fun _ => ?_) (fun _ => ?_)
            · refine Eq.trans (x1 (h := 25) hT rfl rfl (by decide)) ?_
              refine Eq.trans (x21r (r := a0) (cl := 11) (o := 93) (h := 26) hT rfl ha0 (by decide) rfl) ?_
              refine Eq.trans (x1 (h := 27) hT rfl rfl (by decide)) ?_
              refine Eq.trans (x21r (r := a0) (cl := 11) (o := 3) (h := 28) hT rfl ha0 (by decide) rfl) ?_
              refine Eq.trans (x21r (r := (a0 + 3)) (cl := 9) (o := 16) (h := 29) hT rfl (kd_11_1 ha0) (by decide) rfl) ?_
              refine Eq.trans (x1 (h := 30) hT rfl rfl (by decide)) ?_
              refine Eq.trans (x21r (r := a0) (cl := 11) (o := 3) (h := 31) hT rfl ha0 (by decide) rfl) ?_
              refine Eq.trans (x21r (r := (a0 + 3)) (cl := 9) (o := 19) (h := 32) hT rfl (kd_11_1 ha0) (by decide) rfl) ?_
              refine Eq.trans (x31 (r := (a0 + 93)) (cl := 2) (as := [(2, ((((a0 + 3) + 16) : Nat) : Int)), (2, ((((a0 + 3) + 19) : Nat) : Int))]) (st' := []) (h := 33) hT rfl sm_247 rfl (kd_11_6 ha0)) ?_
              refine xbd (fun q14 => ?_)
              rw [rv_247]
              change zB P 281 34 [(2, ((a0 : Nat) : Int)), (0, a1), (0, 0)] [] q14.2 = _
              refine Eq.trans (x1 (h := 34) hT rfl rfl (by decide)) ?_
              refine Eq.trans (x16_0 (h := 35) hT rfl) ?_
              refine xit (fun _ => ?_) (fun _ => ?_)
              · refine Eq.trans (x1 (h := 53) hT rfl rfl (by decide)) ?_
                refine Eq.trans (x19 (h := 54) hT rfl) ?_
                refine Eq.trans x19c ?_
                refine xit (fun _ => ?_) (fun _ => ?_)
                · refine Eq.trans (x1 (h := 55) hT rfl rfl (by decide)) ?_
                  refine Eq.trans (x21r (r := a0) (cl := 11) (o := 93) (h := 56) hT rfl ha0 (by decide) rfl) ?_
                  refine Eq.trans (x31 (r := (a0 + 93)) (cl := 2) (as := []) (st' := []) (h := 57) hT rfl sm_12 rfl (kd_11_6 ha0)) ?_
                  refine xbd (fun q15 => ?_)
                  rw [rv_12]
                  change zB P 281 58 [(2, ((a0 : Nat) : Int)), (0, a1), (0, 0)] [(0, q15.1)] q15.2 = _
                  exact x201 (h := 58) hT rfl
                refine Eq.trans x19c ?_
                refine xit (fun _ => ?_) (fun _ => ?_)
                · refine Eq.trans (x1 (h := 59) hT rfl rfl (by decide)) ?_
                  refine Eq.trans (x21r (r := a0) (cl := 11) (o := 93) (h := 60) hT rfl ha0 (by decide) rfl) ?_
                  refine Eq.trans (x21 (r := (a0 + 93)) (cl := 2) (h := 61) hT rfl (kd_11_6 ha0)) ?_
                  exact x201 (h := 62) hT rfl
                refine Eq.trans x19c ?_
                refine xit (fun _ => ?_) (fun _ => ?_)
                · refine Eq.trans (x1 (h := 63) hT rfl rfl (by decide)) ?_
                  refine Eq.trans (x21r (r := a0) (cl := 11) (o := 3) (h := 64) hT rfl ha0 (by decide) rfl) ?_
                  refine Eq.trans (x21r (r := (a0 + 3)) (cl := 9) (o := 16) (h := 65) hT rfl (kd_11_1 ha0) (by decide) rfl) ?_
                  refine Eq.trans (x21 (r := ((a0 + 3) + 16)) (cl := 7) (h := 66) hT rfl (kd_9_1 (kd_11_1 ha0))) ?_
                  exact x201 (h := 67) hT rfl
                refine Eq.trans (x1 (h := 68) hT rfl rfl (by decide)) ?_
                refine Eq.trans (x21r (r := a0) (cl := 11) (o := 3) (h := 69) hT rfl ha0 (by decide) rfl) ?_
                refine Eq.trans (x21r (r := (a0 + 3)) (cl := 9) (o := 19) (h := 70) hT rfl (kd_11_1 ha0) (by decide) rfl) ?_
                refine Eq.trans (x21 (r := ((a0 + 3) + 19)) (cl := 7) (h := 71) hT rfl (kd_9_2 (kd_11_1 ha0))) ?_
                exact x201 (h := 72) hT rfl
              · refine Eq.trans (x1 (h := 36) hT rfl rfl (by decide)) ?_
                refine Eq.trans (x0 (h := 37) hT rfl) ?_
                refine Eq.trans (x5_1 (h := 38) hT rfl) ?_
                refine Eq.trans (x1 (h := 39) hT rfl rfl (by decide)) ?_
                refine Eq.trans (x21r (r := a0) (cl := 11) (o := 93) (h := 40) hT rfl ha0 (by decide) rfl) ?_
                refine Eq.trans (x21 (r := (a0 + 93)) (cl := 2) (h := 41) hT rfl (kd_11_6 ha0)) ?_
                refine Eq.trans (x17_3 (h := 42) hT rfl) ?_
                refine xit (fun _ => ?_) (fun _ => ?_)
                · refine Eq.trans (x0 (h := 51) hT rfl) ?_
                  exact x201 (h := 52) hT rfl
                · refine Eq.trans (x1 (h := 43) hT rfl rfl (by decide)) ?_
                  refine Eq.trans (x21r (r := a0) (cl := 11) (o := 93) (h := 44) hT rfl ha0 (by decide) rfl) ?_
                  refine Eq.trans (x21r (r := (a0 + 93)) (cl := 2) (o := 2) (h := 45) hT rfl (kd_11_6 ha0) (by decide) rfl) ?_
                  refine Eq.trans (x1 (h := 46) hT rfl rfl (by decide)) ?_
                  refine Eq.trans (x0 (h := 47) hT rfl) ?_
                  refine Eq.trans (x5_1 (h := 48) hT rfl) ?_
                  refine Eq.trans (x24 (r := ((a0 + 93) + 2)) (n := 16) (h := 49) hT rfl (Or.inl (kd_2_1 (kd_11_6 ha0))) (ln_2_1 (kd_11_6 ha0))) ?_
                  refine xig (fun hz16 => ?_)
                  refine Eq.trans (x18 (h := 50) hT rfl) ?_
                  exact x201 (h := 52) hT rfl
            · refine Eq.trans (x0 (h := 23) hT rfl) ?_
              exact x201 (h := 24) hT rfl
          · refine Eq.trans (x0 (h := 17) hT rfl) ?_
            exact x201 (h := 18) hT rfl
    · refine Eq.trans (x0 (h := 6) hT rfl) ?_
      refine Eq.trans (x18 (h := 7) hT rfl) ?_
      refine Eq.trans (x2 (ls' := [(2, ((a0 : Nat) : Int)), (0, a1), (0, 1)]) (h := 9) hT rfl (Nat.le_of_ble_eq_true rfl) rfl) ?_
      refine Eq.trans (x1 (h := 10) hT rfl rfl (by decide)) ?_
      refine Eq.trans (x16_1 (h := 11) hT rfl) ?_
      refine xit (fun _ => ?_) (fun _ => ?_)
      · refine Eq.trans (x1 (h := 19) hT rfl rfl (by decide)) ?_
        refine Eq.trans (x21r (r := a0) (cl := 11) (o := 3) (h := 20) hT rfl ha0 (by decide) rfl) ?_
        refine Eq.trans (x31 (r := (a0 + 3)) (cl := 9) (as := []) (st' := []) (h := 21) hT rfl sm_30 rfl (kd_11_1 ha0)) ?_
        refine xbd (fun q17 => ?_)
        rw [rv_30]
        change zB P 281 22 [(2, ((a0 : Nat) : Int)), (0, a1), (0, 1)] [(0, q17.1)] q17.2 = _
        refine Eq.trans (x16_1 (h := 22) hT rfl) ?_
        refine xit (fun _ => ?_) (fun _ => ?_)
        · refine Eq.trans (x1 (h := 25) hT rfl rfl (by decide)) ?_
          refine Eq.trans (x21r (r := a0) (cl := 11) (o := 93) (h := 26) hT rfl ha0 (by decide) rfl) ?_
          refine Eq.trans (x1 (h := 27) hT rfl rfl (by decide)) ?_
          refine Eq.trans (x21r (r := a0) (cl := 11) (o := 3) (h := 28) hT rfl ha0 (by decide) rfl) ?_
          refine Eq.trans (x21r (r := (a0 + 3)) (cl := 9) (o := 16) (h := 29) hT rfl (kd_11_1 ha0) (by decide) rfl) ?_
          refine Eq.trans (x1 (h := 30) hT rfl rfl (by decide)) ?_
          refine Eq.trans (x21r (r := a0) (cl := 11) (o := 3) (h := 31) hT rfl ha0 (by decide) rfl) ?_
          refine Eq.trans (x21r (r := (a0 + 3)) (cl := 9) (o := 19) (h := 32) hT rfl (kd_11_1 ha0) (by decide) rfl) ?_
          refine Eq.trans (x31 (r := (a0 + 93)) (cl := 2) (as := [(2, ((((a0 + 3) + 16) : Nat) : Int)), (2, ((((a0 + 3) + 19) : Nat) : Int))]) (st' := []) (h := 33) hT rfl sm_247 rfl (kd_11_6 ha0)) ?_
          refine xbd (fun q18 => ?_)
          rw [rv_247]
          change zB P 281 34 [(2, ((a0 : Nat) : Int)), (0, a1), (0, 1)] [] q18.2 = _
          refine Eq.trans (x1 (h := 34) hT rfl rfl (by decide)) ?_
          refine Eq.trans (x16_0 (h := 35) hT rfl) ?_
          refine xit (fun _ => ?_) (fun _ => ?_)
          · refine Eq.trans (x1 (h := 53) hT rfl rfl (by decide)) ?_
            refine Eq.trans (x19 (h := 54) hT rfl) ?_
            refine Eq.trans x19c ?_
            refine xit (fun _ => ?_) (fun _ => ?_)
            · refine Eq.trans (x1 (h := 55) hT rfl rfl (by decide)) ?_
              refine Eq.trans (x21r (r := a0) (cl := 11) (o := 93) (h := 56) hT rfl ha0 (by decide) rfl) ?_
              refine Eq.trans (x31 (r := (a0 + 93)) (cl := 2) (as := []) (st' := []) (h := 57) hT rfl sm_12 rfl (kd_11_6 ha0)) ?_
              refine xbd (fun q19 => ?_)
              rw [rv_12]
              change zB P 281 58 [(2, ((a0 : Nat) : Int)), (0, a1), (0, 1)] [(0, q19.1)] q19.2 = _
              exact x201 (h := 58) hT rfl
            refine Eq.trans x19c ?_
            refine xit (fun _ => ?_) (fun _ => ?_)
            · refine Eq.trans (x1 (h := 59) hT rfl rfl (by decide)) ?_
              refine Eq.trans (x21r (r := a0) (cl := 11) (o := 93) (h := 60) hT rfl ha0 (by decide) rfl) ?_
              refine Eq.trans (x21 (r := (a0 + 93)) (cl := 2) (h := 61) hT rfl (kd_11_6 ha0)) ?_
              exact x201 (h := 62) hT rfl
            refine Eq.trans x19c ?_
            refine xit (fun _ => ?_) (fun _ => ?_)
            · refine Eq.trans (x1 (h := 63) hT rfl rfl (by decide)) ?_
              refine Eq.trans (x21r (r := a0) (cl := 11) (o := 3) (h := 64) hT rfl ha0 (by decide) rfl) ?_
              refine Eq.trans (x21r (r := (a0 + 3)) (cl := 9) (o := 16) (h := 65) hT rfl (kd_11_1 ha0) (by decide) rfl) ?_
              refine Eq.trans (x21 (r := ((a0 + 3) + 16)) (cl := 7) (h := 66) hT rfl (kd_9_1 (kd_11_1 ha0))) ?_
              exact x201 (h := 67) hT rfl
            refine Eq.trans (x1 (h := 68) hT rfl rfl (by decide)) ?_
            refine Eq.trans (x21r (r := a0) (cl := 11) (o := 3) (h := 69) hT rfl ha0 (by decide) rfl) ?_
            refine Eq.trans (x21r (r := (a0 + 3)) (cl := 9) (o := 19) (h := 70) hT rfl (kd_11_1 ha0) (by decide) rfl) ?_
            refine Eq.trans (x21 (r := ((a0 + 3) + 19)) (cl := 7) (h := 71) hT rfl (kd_9_2 (kd_11_1 ha0))) ?_
            exact x201 (h := 72) hT rfl
          · refine Eq.trans (x1 (h := 36) hT rfl rfl (by decide)) ?_
            refine Eq.trans (x0 (h := 37) hT rfl) ?_
            refine Eq.trans (x5_1 (h := 38) hT rfl) ?_
            refine Eq.trans (x1 (h := 39) hT rfl rfl (by decide)) ?_
            refine Eq.trans (x21r (r := a0) (cl := 11) (o := 93) (h := 40) hT rfl ha0 (by decide) rfl) ?_
            refine Eq.trans (x21 (r := (a0 + 93)) (cl := 2) (h := 41) hT rfl (kd_11_6 ha0)) ?_
            refine Eq.trans (x17_3 (h := 42) hT rfl) ?_
            refine xit (fun _ => ?_) (fun _ => ?_)
            · refine Eq.trans (x0 (h := 51) hT rfl) ?_
              exact x201 (h := 52) hT rfl
            · refine Eq.trans (x1 (h := 43) hT rfl rfl (by decide)) ?_
              refine Eq.trans (x21r (r := a0) (cl := 11) (o := 93) (h := 44) hT rfl ha0 (by decide) rfl) ?_
              refine Eq.trans (x21r (r := (a0 + 93)) (cl := 2) (o := 2) (h := 45) hT rfl (kd_11_6 ha0) (by decide) rfl) ?_
              refine Eq.trans (x1 (h := 46) hT rfl rfl (by decide)) ?_
              refine Eq.trans (x0 (h := 47) hT rfl) ?_
              refine Eq.trans (x5_1 (h := 48) hT rfl) ?_
              refine Eq.trans (x24 (r := ((a0 + 93) + 2)) (n := 16) (h := 49) hT rfl (Or.inl (kd_2_1 (kd_11_6 ha0))) (ln_2_1 (kd_11_6 ha0))) ?_
              refine xig (fun hz20 => ?_)
              refine Eq.trans (x18 (h := 50) hT rfl) ?_
              exact x201 (h := 52) hT rfl
        · refine Eq.trans (x0 (h := 23) hT rfl) ?_
          exact x201 (h := 24) hT rfl
      · refine Eq.trans (x1 (h := 12) hT rfl rfl (by decide)) ?_
        refine Eq.trans (x16_2 (h := 13) hT rfl) ?_
        refine xit (fun _ => ?_) (fun _ => ?_)
        · refine Eq.trans (x0 (h := 17) hT rfl) ?_
          exact x201 (h := 18) hT rfl
        · refine Eq.trans (x1 (h := 14) hT rfl rfl (by decide)) ?_
          refine Eq.trans (x0 (h := 15) hT rfl) ?_
          refine Eq.trans (x17_5 (h := 16) hT rfl) ?_
          refine xit (fun _ => ?_) (fun _ => ?_)
          · refine Eq.trans (x1 (h := 19) hT rfl rfl (by decide)) ?_
            refine Eq.trans (x21r (r := a0) (cl := 11) (o := 3) (h := 20) hT rfl ha0 (by decide) rfl) ?_
            refine Eq.trans (x31 (r := (a0 + 3)) (cl := 9) (as := []) (st' := []) (h := 21) hT rfl sm_30 rfl (kd_11_1 ha0)) ?_
            refine xbd (fun q21 => ?_)
            rw [rv_30]
            change zB P 281 22 [(2, ((a0 : Nat) : Int)), (0, a1), (0, 1)] [(0, q21.1)] q21.2 = _
            refine Eq.trans (x16_1 (h := 22) hT rfl) ?_
            refine xit (fun _ => ?_) (fun _ => ?_)
            · refine Eq.trans (x1 (h := 25) hT rfl rfl (by decide)) ?_
              refine Eq.trans (x21r (r := a0) (cl := 11) (o := 93) (h := 26) hT rfl ha0 (by decide) rfl) ?_
              refine Eq.trans (x1 (h := 27) hT rfl rfl (by decide)) ?_
              refine Eq.trans (x21r (r := a0) (cl := 11) (o := 3) (h := 28) hT rfl ha0 (by decide) rfl) ?_
              refine Eq.trans (x21r (r := (a0 + 3)) (cl := 9) (o := 16) (h := 29) hT rfl (kd_11_1 ha0) (by decide) rfl) ?_
              refine Eq.trans (x1 (h := 30) hT rfl rfl (by decide)) ?_
              refine Eq.trans (x21r (r := a0) (cl := 11) (o := 3) (h := 31) hT rfl ha0 (by decide) rfl) ?_
              refine Eq.trans (x21r (r := (a0 + 3)) (cl := 9) (o := 19) (h := 32) hT rfl (kd_11_1 ha0) (by decide) rfl) ?_
              refine Eq.trans (x31 (r := (a0 + 93)) (cl := 2) (as := [(2, ((((a0 + 3) + 16) : Nat) : Int)), (2, ((((a0 + 3) + 19) : Nat) : Int))]) (st' := []) (h := 33) hT rfl sm_247 rfl (kd_11_6 ha0)) ?_
              refine xbd (fun q22 => ?_)
              rw [rv_247]
              change zB P 281 34 [(2, ((a0 : Nat) : Int)), (0, a1), (0, 1)] [] q22.2 = _
              refine Eq.trans (x1 (h := 34) hT rfl rfl (by decide)) ?_
              refine Eq.trans (x16_0 (h := 35) hT rfl) ?_
              refine xit (fun _ => ?_) (fun _ => ?_)
              · refine Eq.trans (x1 (h := 53) hT rfl rfl (by decide)) ?_
                refine Eq.trans (x19 (h := 54) hT rfl) ?_
                refine Eq.trans x19c ?_
                refine xit (fun _ => ?_) (fun _ => ?_)
                · refine Eq.trans (x1 (h := 55) hT rfl rfl (by decide)) ?_
                  refine Eq.trans (x21r (r := a0) (cl := 11) (o := 93) (h := 56) hT rfl ha0 (by decide) rfl) ?_
                  refine Eq.trans (x31 (r := (a0 + 93)) (cl := 2) (as := []) (st' := []) (h := 57) hT rfl sm_12 rfl (kd_11_6 ha0)) ?_
                  refine xbd (fun q23 => ?_)
                  rw [rv_12]
                  change zB P 281 58 [(2, ((a0 : Nat) : Int)), (0, a1), (0, 1)] [(0, q23.1)] q23.2 = _
                  exact x201 (h := 58) hT rfl
                refine Eq.trans x19c ?_
                refine xit (fun _ => ?_) (fun _ => ?_)
                · refine Eq.trans (x1 (h := 59) hT rfl rfl (by decide)) ?_
                  refine Eq.trans (x21r (r := a0) (cl := 11) (o := 93) (h := 60) hT rfl ha0 (by decide) rfl) ?_
                  refine Eq.trans (x21 (r := (a0 + 93)) (cl := 2) (h := 61) hT rfl (kd_11_6 ha0)) ?_
                  exact x201 (h := 62) hT rfl
                refine Eq.trans x19c ?_
                refine xit (fun _ => ?_) (fun _ => ?_)
                · refine Eq.trans (x1 (h := 63) hT rfl rfl (by decide)) ?_
                  refine Eq.trans (x21r (r := a0) (cl := 11) (o := 3) (h := 64) hT rfl ha0 (by decide) rfl) ?_
                  refine Eq.trans (x21r (r := (a0 + 3)) (cl := 9) (o := 16) (h := 65) hT rfl (kd_11_1 ha0) (by decide) rfl) ?_
                  refine Eq.trans (x21 (r := ((a0 + 3) + 16)) (cl := 7) (h := 66) hT rfl (kd_9_1 (kd_11_1 ha0))) ?_
                  exact x201 (h := 67) hT rfl
                refine Eq.trans (x1 (h := 68) hT rfl rfl (by decide)) ?_
                refine Eq.trans (x21r (r := a0) (cl := 11) (o := 3) (h := 69) hT rfl ha0 (by decide) rfl) ?_
                refine Eq.trans (x21r (r := (a0 + 3)) (cl := 9) (o := 19) (h := 70) hT rfl (kd_11_1 ha0) (by decide) rfl) ?_
                refine Eq.trans (x21 (r := ((a0 + 3) + 19)) (cl := 7) (h := 71) hT rfl (kd_9_2 (kd_11_1 ha0))) ?_
                exact x201 (h := 72) hT rfl
              · refine Eq.trans (x1 (h := 36) hT rfl rfl (by decide)) ?_
                refine Eq.trans (x0 (h := 37) hT rfl) ?_
                refine Eq.trans (x5_1 (h := 38) hT rfl) ?_
                refine Eq.trans (x1 (h := 39) hT rfl rfl (by decide)) ?_
                refine Eq.trans (x21r (r := a0) (cl := 11) (o := 93) (h := 40) hT rfl ha0 (by decide) rfl) ?_
                refine Eq.trans (x21 (r := (a0 + 93)) (cl := 2) (h := 41) hT rfl (kd_11_6 ha0)) ?_
                refine Eq.trans (x17_3 (h := 42) hT rfl) ?_
                refine xit (fun _ => ?_) (fun _ => ?_)
                · refine Eq.trans (x0 (h := 51) hT rfl) ?_
                  exact x201 (h := 52) hT rfl
                · refine Eq.trans (x1 (h := 43) hT rfl rfl (by decide)) ?_
                  refine Eq.trans (x21r (r := a0) (cl := 11) (o := 93) (h := 44) hT rfl ha0 (by decide) rfl) ?_
                  refine Eq.trans (x21r (r := (a0 + 93)) (cl := 2) (o := 2) (h := 45) hT rfl (kd_11_6 ha0) (by decide) rfl) ?_
                  refine Eq.trans (x1 (h := 46) hT rfl rfl (by decide)) ?_
                  refine Eq.trans (x0 (h := 47) hT rfl) ?_
                  refine Eq.trans (x5_1 (h := 48) hT rfl) ?_
                  refine Eq.trans (x24 (r := ((a0 + 93) + 2)) (n := 16) (h := 49) hT rfl (Or.inl (kd_2_1 (kd_11_6 ha0))) (ln_2_1 (kd_11_6 ha0))) ?_
                  refine xig (fun hz24 => ?_)
                  refine Eq.trans (x18 (h := 50) hT rfl) ?_
                  exact x201 (h := 52) hT rfl
            · refine Eq.trans (x0 (h := 23) hT rfl) ?_
              exact x201 (h := 24) hT rfl
          · refine Eq.trans (x0 (h := 17) hT rfl) ?_
            exact x201 (h := 18) hT rfl
/-! WordLinks.pair(III)I -/
set_option maxRecDepth 100000 in
theorem e_282 {P : zP} {d : zD P} {a0 : Nat} {a1 : Int} {a2 : Int} {a3 : Int} (ha0 : zkd a0 = 11) : MM P 282 [(2, ((a0 : Nat) : Int)), (0, a1), (0, a2), (0, a3)] d = ((MM P 43 [(0, a1)] d).bind fun q1 => (if wr q1.1 = 0 then some ((-1), q1.2) else ((MM P 44 [(2, ((a0 : Nat) : Int)), (0, a2)] q1.2).bind fun q2 => (if wr q2.1 = 0 then some ((-1), q2.2) else (if wr a3 < 0 then some ((-1), q2.2) else (if wr a3 ≤ wr 3 then ((MM P 246 [(2, (((a0 + 105) : Nat) : Int)), (2, (((a0 + 3) : Nat) : Int)), (0, a1), (0, a2)] q2.2).bind fun q3 => (if wr a3 = 0 then ((MM P 214 [(2, (((a0 + 105) : Nat) : Int))] q3.2).bind fun q4 => some (q4.1, q4.2)) else (if wr a3 = 1 then ((MM P 6 [(2, (((a0 + 105) : Nat) : Int))] q3.2).bind fun q5 => some (q5.1, q5.2)) else (if wr a3 = 2 then ((MM P 95 [(2, (((a0 + 105) : Nat) : Int))] q3.2).bind fun q6 => some (q6.1, q6.2)) else ((MM P 168 [(2, (((a0 + 105) : Nat) : Int))] q3.2).bind fun q7 => some (q7.1, q7.2)))))) else some ((-1), q2.2))))))) := by
  have hT := cT_282
  refine Eq.trans (MM_def sm_282 (Nat.le_of_ble_eq_true rfl)) ?_
  change zB P 282 0 [(2, ((a0 : Nat) : Int)), (0, a1), (0, a2), (0, a3)] [] d = _
  refine Eq.trans (x1 (h := 0) hT rfl rfl (by decide)) ?_
  refine Eq.trans (x34 (as := [(0, a1)]) (st' := []) (h := 1) hT rfl sm_43 rfl) ?_
  refine xbd (fun q1 => ?_)
  rw [rv_43]
  change zB P 282 2 [(2, ((a0 : Nat) : Int)), (0, a1), (0, a2), (0, a3)] [(0, q1.1)] q1.2 = _
  refine Eq.trans (x16_0 (h := 2) hT rfl) ?_
  refine xit (fun _ => ?_) (fun _ => ?_)
  · refine Eq.trans (x0 (h := 12) hT rfl) ?_
    exact x201 (h := 13) hT rfl
  · refine Eq.trans (x1 (h := 3) hT rfl rfl (by decide)) ?_
    refine Eq.trans (x1 (h := 4) hT rfl rfl (by decide)) ?_
    refine Eq.trans (x31 (r := a0) (cl := 11) (as := [(0, a2)]) (st' := []) (h := 5) hT rfl sm_44 rfl ha0) ?_
    refine xbd (fun q2 => ?_)
    rw [rv_44]
    change zB P 282 6 [(2, ((a0 : Nat) : Int)), (0, a1), (0, a2), (0, a3)] [(0, q2.1)] q2.2 = _
    refine Eq.trans (x16_0 (h := 6) hT rfl) ?_
    refine xit (fun _ => ?_) (fun _ => ?_)
    · refine Eq.trans (x0 (h := 12) hT rfl) ?_
      exact x201 (h := 13) hT rfl
    · refine Eq.trans (x1 (h := 7) hT rfl rfl (by decide)) ?_
      refine Eq.trans (x16_2 (h := 8) hT rfl) ?_
      refine xit (fun _ => ?_) (fun _ => ?_)
      · refine Eq.trans (x0 (h := 12) hT rfl) ?_
        exact x201 (h := 13) hT rfl
      · refine Eq.trans (x1 (h := 9) hT rfl rfl (by decide)) ?_
        refine Eq.trans (x0 (h := 10) hT rfl) ?_
        refine Eq.trans (x17_5 (h := 11) hT rfl) ?_
        refine xit (fun _ => ?_) (fun _ => ?_)
        · refine Eq.trans (x1 (h := 14) hT rfl rfl (by decide)) ?_
          refine Eq.trans (x21r (r := a0) (cl := 11) (o := 105) (h := 15) hT rfl ha0 (by decide) rfl) ?_
          refine Eq.trans (x1 (h := 16) hT rfl rfl (by decide)) ?_
          refine Eq.trans (x21r (r := a0) (cl := 11) (o := 3) (h := 17) hT rfl ha0 (by decide) rfl) ?_
          refine Eq.trans (x1 (h := 18) hT rfl rfl (by decide)) ?_
          refine Eq.trans (x1 (h := 19) hT rfl rfl (by decide)) ?_
          refine Eq.trans (x31 (r := (a0 + 105)) (cl := 1) (as := [(2, (((a0 + 3) : Nat) : Int)), (0, a1), (0, a2)]) (st' := []) (h := 20) hT rfl sm_246 rfl (kd_11_8 ha0)) ?_
          refine xbd (fun q3 => ?_)
          rw [rv_246]
          change zB P 282 21 [(2, ((a0 : Nat) : Int)), (0, a1), (0, a2), (0, a3)] [] q3.2 = _
          refine Eq.trans (x1 (h := 21) hT rfl rfl (by decide)) ?_
          refine Eq.trans (x19 (h := 22) hT rfl) ?_
          refine Eq.trans x19c ?_
          refine xit (fun _ => ?_) (fun _ => ?_)
          · refine Eq.trans (x1 (h := 23) hT rfl rfl (by decide)) ?_
            refine Eq.trans (x21r (r := a0) (cl := 11) (o := 105) (h := 24) hT rfl ha0 (by decide) rfl) ?_
            refine Eq.trans (x31 (r := (a0 + 105)) (cl := 1) (as := []) (st' := []) (h := 25) hT rfl sm_214 rfl (kd_11_8 ha0)) ?_
            refine xbd (fun q4 => ?_)
            rw [rv_214]
            change zB P 282 26 [(2, ((a0 : Nat) : Int)), (0, a1), (0, a2), (0, a3)] [(0, q4.1)] q4.2 = _
            exact x201 (h := 26) hT rfl
          refine Eq.trans x19c ?_
          refine xit (fun _ => ?_) (fun _ => ?_)
          · refine Eq.trans (x1 (h := 27) hT rfl rfl (by decide)) ?_
            refine Eq.trans (x21r (r := a0) (cl := 11) (o := 105) (h := 28) hT rfl ha0 (by decide) rfl) ?_
            refine Eq.trans (x31 (r := (a0 + 105)) (cl := 1) (as := []) (st' := []) (h := 29) hT rfl sm_6 rfl (kd_11_8 ha0)) ?_
            refine xbd (fun q5 => ?_)
            rw [rv_6]
            change zB P 282 30 [(2, ((a0 : Nat) : Int)), (0, a1), (0, a2), (0, a3)] [(0, q5.1)] q5.2 = _
            exact x201 (h := 30) hT rfl
          refine Eq.trans x19c ?_
          refine xit (fun _ => ?_) (fun _ => ?_)
          · refine Eq.trans (x1 (h := 31) hT rfl rfl (by decide)) ?_
            refine Eq.trans (x21r (r := a0) (cl := 11) (o := 105) (h := 32) hT rfl ha0 (by decide) rfl) ?_
            refine Eq.trans (x31 (r := (a0 + 105)) (cl := 1) (as := []) (st' := []) (h := 33) hT rfl sm_95 rfl (kd_11_8 ha0)) ?_
            refine xbd (fun q6 => ?_)
            rw [rv_95]
            change zB P 282 34 [(2, ((a0 : Nat) : Int)), (0, a1), (0, a2), (0, a3)] [(0, q6.1)] q6.2 = _
            exact x201 (h := 34) hT rfl
          refine Eq.trans (x1 (h := 35) hT rfl rfl (by decide)) ?_
          refine Eq.trans (x21r (r := a0) (cl := 11) (o := 105) (h := 36) hT rfl ha0 (by decide) rfl) ?_
          refine Eq.trans (x31 (r := (a0 + 105)) (cl := 1) (as := []) (st' := []) (h := 37) hT rfl sm_168 rfl (kd_11_8 ha0)) ?_
          refine xbd (fun q7 => ?_)
          rw [rv_168]
          change zB P 282 38 [(2, ((a0 : Nat) : Int)), (0, a1), (0, a2), (0, a3)] [(0, q7.1)] q7.2 = _
          exact x201 (h := 38) hT rfl
        · refine Eq.trans (x0 (h := 12) hT rfl) ?_
          exact x201 (h := 13) hT rfl
/-! WordLinks.partings(II)J -/
set_option maxRecDepth 100000 in
theorem e_283 {P : zP} {d : zD P} {a0 : Nat} {a1 : Int} {a2 : Int} (ha0 : zkd a0 = 11) : MM P 283 [(2, ((a0 : Nat) : Int)), (0, a1), (0, a2)] d = ((MM P 43 [(0, a1)] d).bind fun q1 => (if wr q1.1 = 0 then some ((-1), q1.2) else ((MM P 44 [(2, ((a0 : Nat) : Int)), (0, a2)] q1.2).bind fun q2 => (if wr q2.1 ≠ 0 then ((MM P 246 [(2, (((a0 + 105) : Nat) : Int)), (2, (((a0 + 3) : Nat) : Int)), (0, a1), (0, a2)] q2.2).bind fun q3 => ((MM P 251 [(2, (((a0 + 110) : Nat) : Int)), (2, (((a0 + 105) : Nat) : Int))] q3.2).bind fun q4 => some (q4.1, q4.2))) else some ((-1), q2.2))))) := by
  have hT := cT_283
  refine Eq.trans (MM_def sm_283 (Nat.le_of_ble_eq_true rfl)) ?_
  change zB P 283 0 [(2, ((a0 : Nat) : Int)), (0, a1), (0, a2)] [] d = _
  refine Eq.trans (x1 (h := 0) hT rfl rfl (by decide)) ?_
  refine Eq.trans (x34 (as := [(0, a1)]) (st' := []) (h := 1) hT rfl sm_43 rfl) ?_
  refine xbd (fun q1 => ?_)
  rw [rv_43]
  change zB P 283 2 [(2, ((a0 : Nat) : Int)), (0, a1), (0, a2)] [(0, q1.1)] q1.2 = _
  refine Eq.trans (x16_0 (h := 2) hT rfl) ?_
  refine xit (fun _ => ?_) (fun _ => ?_)
  · refine Eq.trans (x0 (h := 7) hT rfl) ?_
    exact x202 (h := 8) hT rfl
  · refine Eq.trans (x1 (h := 3) hT rfl rfl (by decide)) ?_
    refine Eq.trans (x1 (h := 4) hT rfl rfl (by decide)) ?_
    refine Eq.trans (x31 (r := a0) (cl := 11) (as := [(0, a2)]) (st' := []) (h := 5) hT rfl sm_44 rfl ha0) ?_
    refine xbd (fun q2 => ?_)
    rw [rv_44]
    change zB P 283 6 [(2, ((a0 : Nat) : Int)), (0, a1), (0, a2)] [(0, q2.1)] q2.2 = _
    refine Eq.trans (x16_1 (h := 6) hT rfl) ?_
    refine xit (fun _ => ?_) (fun _ => ?_)
    · refine Eq.trans (x1 (h := 9) hT rfl rfl (by decide)) ?_
      refine Eq.trans (x21r (r := a0) (cl := 11) (o := 105) (h := 10) hT rfl ha0 (by decide) rfl) ?_
      refine Eq.trans (x1 (h := 11) hT rfl rfl (by decide)) ?_
      refine Eq.trans (x21r (r := a0) (cl := 11) (o := 3) (h := 12) hT rfl ha0 (by decide) rfl) ?_
      refine Eq.trans (x1 (h := 13) hT rfl rfl (by decide)) ?_
      refine Eq.trans (x1 (h := 14) hT rfl rfl (by decide)) ?_
      refine Eq.trans (x31 (r := (a0 + 105)) (cl := 1) (as := [(2, (((a0 + 3) : Nat) : Int)), (0, a1), (0, a2)]) (st' := []) (h := 15) hT rfl sm_246 rfl (kd_11_8 ha0)) ?_
      refine xbd (fun q3 => ?_)
      rw [rv_246]
      change zB P 283 16 [(2, ((a0 : Nat) : Int)), (0, a1), (0, a2)] [] q3.2 = _
      refine Eq.trans (x1 (h := 16) hT rfl rfl (by decide)) ?_
      refine Eq.trans (x21r (r := a0) (cl := 11) (o := 110) (h := 17) hT rfl ha0 (by decide) rfl) ?_
      refine Eq.trans (x1 (h := 18) hT rfl rfl (by decide)) ?_
      refine Eq.trans (x21r (r := a0) (cl := 11) (o := 105) (h := 19) hT rfl ha0 (by decide) rfl) ?_
      refine Eq.trans (x31 (r := (a0 + 110)) (cl := 8) (as := [(2, (((a0 + 105) : Nat) : Int))]) (st' := []) (h := 20) hT rfl sm_251 rfl (kd_11_9 ha0)) ?_
      refine xbd (fun q4 => ?_)
      rw [rv_251]
      change zB P 283 21 [(2, ((a0 : Nat) : Int)), (0, a1), (0, a2)] [(1, q4.1)] q4.2 = _
      exact x202 (h := 21) hT rfl
    · refine Eq.trans (x0 (h := 7) hT rfl) ?_
      exact x202 (h := 8) hT rfl
/-! WordLinks.takePairs()I -/
set_option maxRecDepth 100000 in
theorem e_284 {P : zP} {d : zD P} {a0 : Nat} (ha0 : zkd a0 = 11) : MM P 284 [(2, ((a0 : Nat) : Int))] d = ((MM P 213 [(2, ((((a0 + 3) + 1) : Nat) : Int)), (2, (((a0 + 87) : Nat) : Int)), (2, (((a0 + 90) : Nat) : Int))] d).bind fun q1 => (if wr q1.1 < 0 then some (q1.1, q1.2) else ((MM P 249 [(2, (((a0 + 98) : Nat) : Int)), (2, (((a0 + 3) : Nat) : Int))] q1.2).bind fun q2 => some (q1.1, q2.2)))) := by
  have hT := cT_284
  refine Eq.trans (MM_def sm_284 (Nat.le_of_ble_eq_true rfl)) ?_
  change zB P 284 0 [(2, ((a0 : Nat) : Int)), (3, 0)] [] d = _
  refine Eq.trans (x1 (h := 0) hT rfl rfl (by decide)) ?_
  refine Eq.trans (x21r (r := a0) (cl := 11) (o := 3) (h := 1) hT rfl ha0 (by decide) rfl) ?_
  refine Eq.trans (x21r (r := (a0 + 3)) (cl := 9) (o := 1) (h := 2) hT rfl (kd_11_1 ha0) (by decide) rfl) ?_
  refine Eq.trans (x1 (h := 3) hT rfl rfl (by decide)) ?_
  refine Eq.trans (x21r (r := a0) (cl := 11) (o := 87) (h := 4) hT rfl ha0 (by decide) rfl) ?_
  refine Eq.trans (x1 (h := 5) hT rfl rfl (by decide)) ?_
  refine Eq.trans (x21r (r := a0) (cl := 11) (o := 90) (h := 6) hT rfl ha0 (by decide) rfl) ?_
  refine Eq.trans (x31 (r := ((a0 + 3) + 1)) (cl := 0) (as := [(2, (((a0 + 87) : Nat) : Int)), (2, (((a0 + 90) : Nat) : Int))]) (st' := []) (h := 7) hT rfl sm_213 rfl (kd_9_0 (kd_11_1 ha0))) ?_
  refine xbd (fun q1 => ?_)
  rw [rv_213]
  change zB P 284 8 [(2, ((a0 : Nat) : Int)), (3, 0)] [(0, q1.1)] q1.2 = _
  refine Eq.trans (x2 (ls' := [(2, ((a0 : Nat) : Int)), (0, q1.1)]) (h := 8) hT rfl (Nat.le_of_ble_eq_true rfl) rfl) ?_
  refine Eq.trans (x1 (h := 9) hT rfl rfl (by decide)) ?_
  refine Eq.trans (x16_2 (h := 10) hT rfl) ?_
  refine xit (fun _ => ?_) (fun _ => ?_)
  · refine Eq.trans (x1 (h := 16) hT rfl rfl (by decide)) ?_
    exact x201 (h := 17) hT rfl
  · refine Eq.trans (x1 (h := 11) hT rfl rfl (by decide)) ?_
    refine Eq.trans (x21r (r := a0) (cl := 11) (o := 98) (h := 12) hT rfl ha0 (by decide) rfl) ?_
    refine Eq.trans (x1 (h := 13) hT rfl rfl (by decide)) ?_
    refine Eq.trans (x21r (r := a0) (cl := 11) (o := 3) (h := 14) hT rfl ha0 (by decide) rfl) ?_
    refine Eq.trans (x31 (r := (a0 + 98)) (cl := 6) (as := [(2, (((a0 + 3) : Nat) : Int))]) (st' := []) (h := 15) hT rfl sm_249 rfl (kd_11_7 ha0)) ?_
    refine xbd (fun q2 => ?_)
    rw [rv_249]
    change zB P 284 16 [(2, ((a0 : Nat) : Int)), (0, q1.1)] [] q2.2 = _
    refine Eq.trans (x1 (h := 16) hT rfl rfl (by decide)) ?_
    exact x201 (h := 17) hT rfl
/-! WordLinks.twins(I)I -/
set_option maxRecDepth 100000 in
theorem e_285 {P : zP} {d : zD P} {a0 : Nat} {a1 : Int} (ha0 : zkd a0 = 11) : MM P 285 [(2, ((a0 : Nat) : Int)), (0, a1)] d = (if wr a1 ≠ 0 then (if wr a1 < wr 10 then some ((-1), d) else ((MM P 126 [(2, ((a0 : Nat) : Int)), (0, 0), (0, (a1 - 10))] d).bind fun q1 => (if wr q1.1 ≠ 0 then ((MM P 226 [(2, (((a0 + 3) : Nat) : Int)), (0, (a1 - 10))] q1.2).bind fun q2 => (if 0 ≤ wr q2.1 then some (q2.1, q2.2) else some ((-2), q2.2))) else some ((-1), q1.2)))) else ((MM P 255 [(2, ((a0 : Nat) : Int))] d).bind fun q3 => some (q3.1, q3.2))) := by
  have hT := cT_285
  refine Eq.trans (MM_def sm_285 (Nat.le_of_ble_eq_true rfl)) ?_
  change zB P 285 0 [(2, ((a0 : Nat) : Int)), (0, a1), (3, 0)] [] d = _
  refine Eq.trans (x1 (h := 0) hT rfl rfl (by decide)) ?_
  refine Eq.trans (x16_1 (h := 1) hT rfl) ?_
  refine xit (fun _ => ?_) (fun _ => ?_)
  · refine Eq.trans (x1 (h := 5) hT rfl rfl (by decide)) ?_
    refine Eq.trans (x0 (h := 6) hT rfl) ?_
    refine Eq.trans (x17_2 (h := 7) hT rfl) ?_
    refine xit (fun _ => ?_) (fun _ => ?_)
    · refine Eq.trans (x0 (h := 15) hT rfl) ?_
      exact x201 (h := 16) hT rfl
    · refine Eq.trans (x1 (h := 8) hT rfl rfl (by decide)) ?_
      refine Eq.trans (x0 (h := 9) hT rfl) ?_
      refine Eq.trans (x1 (h := 10) hT rfl rfl (by decide)) ?_
      refine Eq.trans (x0 (h := 11) hT rfl) ?_
      refine Eq.trans (x5_1 (h := 12) hT rfl) ?_
      refine Eq.trans (x31 (r := a0) (cl := 11) (as := [(0, 0), (0, (a1 - 10))]) (st' := []) (h := 13) hT rfl sm_126 rfl ha0) ?_
      refine xbd (fun q1 => ?_)
      rw [rv_126]
      change zB P 285 14 [(2, ((a0 : Nat) : Int)), (0, a1), (3, 0)] [(0, q1.1)] q1.2 = _
      refine Eq.trans (x16_1 (h := 14) hT rfl) ?_
      refine xit (fun _ => ?_) (fun _ => ?_)
      · refine Eq.trans (x1 (h := 17) hT rfl rfl (by decide)) ?_
        refine Eq.trans (x21r (r := a0) (cl := 11) (o := 3) (h := 18) hT rfl ha0 (by decide) rfl) ?_
        refine Eq.trans (x1 (h := 19) hT rfl rfl (by decide)) ?_
        refine Eq.trans (x0 (h := 20) hT rfl) ?_
        refine Eq.trans (x5_1 (h := 21) hT rfl) ?_
        refine Eq.trans (x31 (r := (a0 + 3)) (cl := 9) (as := [(0, (a1 - 10))]) (st' := []) (h := 22) hT rfl sm_226 rfl (kd_11_1 ha0)) ?_
        refine xbd (fun q2 => ?_)
        rw [rv_226]
        change zB P 285 23 [(2, ((a0 : Nat) : Int)), (0, a1), (3, 0)] [(0, q2.1)] q2.2 = _
        refine Eq.trans (x2 (ls' := [(2, ((a0 : Nat) : Int)), (0, a1), (0, q2.1)]) (h := 23) hT rfl (Nat.le_of_ble_eq_true rfl) rfl) ?_
        refine Eq.trans (x1 (h := 24) hT rfl rfl (by decide)) ?_
        refine Eq.trans (x16_3 (h := 25) hT rfl) ?_
        refine xit (fun _ => ?_) (fun _ => ?_)
        · refine Eq.trans (x1 (h := 28) hT rfl rfl (by decide)) ?_
          exact x201 (h := 29) hT rfl
        · refine Eq.trans (x0 (h := 26) hT rfl) ?_
          refine Eq.trans (x18 (h := 27) hT rfl) ?_
          exact x201 (h := 29) hT rfl
      · refine Eq.trans (x0 (h := 15) hT rfl) ?_
        exact x201 (h := 16) hT rfl
  · refine Eq.trans (x1 (h := 2) hT rfl rfl (by decide)) ?_
    refine Eq.trans (x31 (r := a0) (cl := 11) (as := []) (st' := []) (h := 3) hT rfl sm_255 rfl ha0) ?_
    refine xbd (fun q3 => ?_)
    rw [rv_255]
    change zB P 285 4 [(2, ((a0 : Nat) : Int)), (0, a1), (3, 0)] [(0, q3.1)] q3.2 = _
    exact x201 (h := 4) hT rfl
/-! WordLinksModel.byLetters(Z)Z -/
set_option maxRecDepth 100000 in
theorem e_287 {P : zP} {d : zD P} {a0 : Nat} {a1 : Int} (ha0 : zkd a0 = 12) : MM P 287 [(2, ((a0 : Nat) : Int)), (0, a1)] d = (if zin 2 18180 then (if wr a1 = 0 then (if wr ((d.m ((a0 + 1)) (zix 2))) ≠ wr 0 then (if wr a1 = 0 then (if zin 2 18180 then ((MM P 265 [(2, ((a0 : Nat) : Int))] ((d.up ((a0 + 1)) (zix 2) 0))).bind fun q3 => some (1, q3.2)) else none) else (if zin 2 18180 then ((MM P 265 [(2, ((a0 : Nat) : Int))] ((d.up ((a0 + 1)) (zix 2) 1))).bind fun q5 => some (1, q5.2)) else none)) else some (0, d)) else (if wr ((d.m ((a0 + 1)) (zix 2))) ≠ wr 1 then (if wr a1 = 0 then (if zin 2 18180 then ((MM P 265 [(2, ((a0 : Nat) : Int))] ((d.up ((a0 + 1)) (zix 2) 0))).bind fun q7 => some (1, q7.2)) else none) else (if zin 2 18180 then ((MM P 265 [(2, ((a0 : Nat) : Int))] ((d.up ((a0 + 1)) (zix 2) 1))).bind fun q9 => some (1, q9.2)) else none)) else some (0, d))) else none) := by
  have hT := cT_287
  refine Eq.trans (MM_def sm_287 (Nat.le_of_ble_eq_true rfl)) ?_
  change zB P 287 0 [(2, ((a0 : Nat) : Int)), (0, a1)] [] d = _
  refine Eq.trans (x1 (h := 0) hT rfl rfl (by decide)) ?_
  refine Eq.trans (x21r (r := a0) (cl := 12) (o := 1) (h := 1) hT rfl ha0 (by decide) rfl) ?_
  refine Eq.trans (x0 (h := 2) hT rfl) ?_
  refine Eq.trans (x24 (r := (a0 + 1)) (n := 18180) (h := 3) hT rfl (Or.inl (kd_12_0 ha0)) (ln_12_0 ha0)) ?_
  refine xig (fun hz1 => ?_)
  refine Eq.trans (x1 (h := 4) hT rfl rfl (by decide)) ?_
  refine Eq.trans (x16_0 (h := 5) hT rfl) ?_
  refine xit (fun _ => ?_) (fun _ => ?_)
  · refine Eq.trans (x0 (h := 8) hT rfl) ?_
    refine Eq.trans (x17_1 (h := 9) hT rfl) ?_
    refine xit (fun _ => ?_) (fun _ => ?_)
    · refine Eq.trans (x1 (h := 12) hT rfl rfl (by decide)) ?_
      refine Eq.trans (x21r (r := a0) (cl := 12) (o := 1) (h := 13) hT rfl ha0 (by decide) rfl) ?_
      refine Eq.trans (x0 (h := 14) hT rfl) ?_
      refine Eq.trans (x1 (h := 15) hT rfl rfl (by decide)) ?_
      refine Eq.trans (x16_0 (h := 16) hT rfl) ?_
      refine xit (fun _ => ?_) (fun _ => ?_)
      · refine Eq.trans (x0 (h := 19) hT rfl) ?_
        refine Eq.trans (x25a (r := (a0 + 1)) (n := 18180) (h := 20) hT rfl (kd_12_0 ha0) (ln_12_0 ha0) (by decide) rfl) ?_
        refine xig (fun hz2 => ?_)
        refine Eq.trans (x1 (h := 21) hT rfl rfl (by decide)) ?_
        refine Eq.trans (x31 (r := a0) (cl := 12) (as := []) (st' := []) (h := 22) hT rfl sm_265 rfl ha0) ?_
        refine xbd (fun q3 => ?_)
        rw [rv_265]
        change zB P 287 23 [(2, ((a0 : Nat) : Int)), (0, a1)] [] q3.2 = _
        refine Eq.trans (x0 (h := 23) hT rfl) ?_
        exact x203c (h := 24) hT rfl (by decide)
      · refine Eq.trans (x0 (h := 17) hT rfl) ?_
        refine Eq.trans (x18 (h := 18) hT rfl) ?_
        refine Eq.trans (x25a (r := (a0 + 1)) (n := 18180) (h := 20) hT rfl (kd_12_0 ha0) (ln_12_0 ha0) (by decide) rfl) ?_
        refine xig (fun hz4 => ?_)
        refine Eq.trans (x1 (h := 21) hT rfl rfl (by decide)) ?_
        refine Eq.trans (x31 (r := a0) (cl := 12) (as := []) (st' := []) (h := 22) hT rfl sm_265 rfl ha0) ?_
        refine xbd (fun q5 => ?_)
        rw [rv_265]
        change zB P 287 23 [(2, ((a0 : Nat) : Int)), (0, a1)] [] q5.2 = _
        refine Eq.trans (x0 (h := 23) hT rfl) ?_
        exact x203c (h := 24) hT rfl (by decide)
    · refine Eq.trans (x0 (h := 10) hT rfl) ?_
      exact x203c (h := 11) hT rfl (by decide)
  · refine Eq.trans (x0 (h := 6) hT rfl) ?_
    refine Eq.trans (x18 (h := 7) hT rfl) ?_
    refine Eq.trans (x17_1 (h := 9) hT rfl) ?_
    refine xit (fun _ => ?_) (fun _ => ?_)
    · refine Eq.trans (x1 (h := 12) hT rfl rfl (by decide)) ?_
      refine Eq.trans (x21r (r := a0) (cl := 12) (o := 1) (h := 13) hT rfl ha0 (by decide) rfl) ?_
      refine Eq.trans (x0 (h := 14) hT rfl) ?_
      refine Eq.trans (x1 (h := 15) hT rfl rfl (by decide)) ?_
      refine Eq.trans (x16_0 (h := 16) hT rfl) ?_
      refine xit (fun _ => ?_) (fun _ => ?_)
      · refine Eq.trans (x0 (h := 19) hT rfl) ?_
        refine Eq.trans (x25a (r := (a0 + 1)) (n := 18180) (h := 20) hT rfl (kd_12_0 ha0) (ln_12_0 ha0) (by decide) rfl) ?_
        refine xig (fun hz6 => ?_)
        refine Eq.trans (x1 (h := 21) hT rfl rfl (by decide)) ?_
        refine Eq.trans (x31 (r := a0) (cl := 12) (as := []) (st' := []) (h := 22) hT rfl sm_265 rfl ha0) ?_
        refine xbd (fun q7 => ?_)
        rw [rv_265]
        change zB P 287 23 [(2, ((a0 : Nat) : Int)), (0, a1)] [] q7.2 = _
        refine Eq.trans (x0 (h := 23) hT rfl) ?_
        exact x203c (h := 24) hT rfl (by decide)
      · refine Eq.trans (x0 (h := 17) hT rfl) ?_
        refine Eq.trans (x18 (h := 18) hT rfl) ?_
        refine Eq.trans (x25a (r := (a0 + 1)) (n := 18180) (h := 20) hT rfl (kd_12_0 ha0) (ln_12_0 ha0) (by decide) rfl) ?_
        refine xig (fun hz8 => ?_)
        refine Eq.trans (x1 (h := 21) hT rfl rfl (by decide)) ?_
        refine Eq.trans (x31 (r := a0) (cl := 12) (as := []) (st' := []) (h := 22) hT rfl sm_265 rfl ha0) ?_
        refine xbd (fun q9 => ?_)
        rw [rv_265]
        change zB P 287 23 [(2, ((a0 : Nat) : Int)), (0, a1)] [] q9.2 = _
        refine Eq.trans (x0 (h := 23) hT rfl) ?_
        exact x203c (h := 24) hT rfl (by decide)
    · refine Eq.trans (x0 (h := 10) hT rfl) ?_
      exact x203c (h := 11) hT rfl (by decide)
/-! WordLinksModel.counted(III)I -/
set_option maxRecDepth 100000 in
theorem e_288 {P : zP} {d : zD P} {a0 : Nat} {a1 : Int} {a2 : Int} {a3 : Int} (ha0 : zkd a0 = 12) : MM P 288 [(2, ((a0 : Nat) : Int)), (0, a1), (0, a2), (0, a3)] d = ((MM P 194 [(2, ((a0 : Nat) : Int)), (0, a1), (0, a2), (0, a3)] d).bind fun q1 => (if wr q1.1 ≠ 0 then ((MM P 146 [(2, ((a0 : Nat) : Int)), (0, a1), (0, a2), (0, a3)] q1.2).bind fun q2 => (if wr q2.1 ≠ 0 then ((MM P 261 [(2, ((a0 : Nat) : Int)), (0, a1)] q2.2).bind fun q3 => (if zin (((40 * a2) + a3)) 1600 then some ((q3.2.m ((a0 + 15)) (zix (((40 * a2) + a3)))), q3.2) else none)) else some ((-2), q2.2))) else some ((-1), q1.2))) := by
  have hT := cT_288
  refine Eq.trans (MM_def sm_288 (Nat.le_of_ble_eq_true rfl)) ?_
  change zB P 288 0 [(2, ((a0 : Nat) : Int)), (0, a1), (0, a2), (0, a3)] [] d = _
  refine Eq.trans (x1 (h := 0) hT rfl rfl (by decide)) ?_
  refine Eq.trans (x1 (h := 1) hT rfl rfl (by decide)) ?_
  refine Eq.trans (x1 (h := 2) hT rfl rfl (by decide)) ?_
  refine Eq.trans (x1 (h := 3) hT rfl rfl (by decide)) ?_
  refine Eq.trans (x31 (r := a0) (cl := 12) (as := [(0, a1), (0, a2), (0, a3)]) (st' := []) (h := 4) hT rfl sm_194 rfl ha0) ?_
  refine xbd (fun q1 => ?_)
  rw [rv_194]
  change zB P 288 5 [(2, ((a0 : Nat) : Int)), (0, a1), (0, a2), (0, a3)] [(0, q1.1)] q1.2 = _
  refine Eq.trans (x16_1 (h := 5) hT rfl) ?_
  refine xit (fun _ => ?_) (fun _ => ?_)
  · refine Eq.trans (x1 (h := 8) hT rfl rfl (by decide)) ?_
    refine Eq.trans (x1 (h := 9) hT rfl rfl (by decide)) ?_
    refine Eq.trans (x1 (h := 10) hT rfl rfl (by decide)) ?_
    refine Eq.trans (x1 (h := 11) hT rfl rfl (by decide)) ?_
    refine Eq.trans (x31 (r := a0) (cl := 12) (as := [(0, a1), (0, a2), (0, a3)]) (st' := []) (h := 12) hT rfl sm_146 rfl ha0) ?_
    refine xbd (fun q2 => ?_)
    rw [rv_146]
    change zB P 288 13 [(2, ((a0 : Nat) : Int)), (0, a1), (0, a2), (0, a3)] [(0, q2.1)] q2.2 = _
    refine Eq.trans (x16_1 (h := 13) hT rfl) ?_
    refine xit (fun _ => ?_) (fun _ => ?_)
    · refine Eq.trans (x1 (h := 16) hT rfl rfl (by decide)) ?_
      refine Eq.trans (x1 (h := 17) hT rfl rfl (by decide)) ?_
      refine Eq.trans (x31 (r := a0) (cl := 12) (as := [(0, a1)]) (st' := []) (h := 18) hT rfl sm_261 rfl ha0) ?_
      refine xbd (fun q3 => ?_)
      rw [rv_261]
      change zB P 288 19 [(2, ((a0 : Nat) : Int)), (0, a1), (0, a2), (0, a3)] [] q3.2 = _
      refine Eq.trans (x1 (h := 19) hT rfl rfl (by decide)) ?_
      refine Eq.trans (x21r (r := a0) (cl := 12) (o := 15) (h := 20) hT rfl ha0 (by decide) rfl) ?_
      refine Eq.trans (x0 (h := 21) hT rfl) ?_
      refine Eq.trans (x1 (h := 22) hT rfl rfl (by decide)) ?_
      refine Eq.trans (x5_2 (h := 23) hT rfl) ?_
      refine Eq.trans (x1 (h := 24) hT rfl rfl (by decide)) ?_
      refine Eq.trans (x5_0 (h := 25) hT rfl) ?_
      refine Eq.trans (x24 (r := (a0 + 15)) (n := 1600) (h := 26) hT rfl (Or.inl (kd_12_22 ha0)) (ln_12_22 ha0)) ?_
      refine xig (fun hz4 => ?_)
      exact x201 (h := 27) hT rfl
    · refine Eq.trans (x0 (h := 14) hT rfl) ?_
      exact x201 (h := 15) hT rfl
  · refine Eq.trans (x0 (h := 6) hT rfl) ?_
    exact x201 (h := 7) hT rfl
/-! WordLinksModel.drop()I -/
set_option maxRecDepth 100000 in
theorem e_289 {P : zP} {d : zD P} {a0 : Nat} (ha0 : zkd a0 = 12) : MM P 289 [(2, ((a0 : Nat) : Int))] d = (if zin 0 18180 then (if wr ((d.m ((a0 + 1)) (zix 0))) ≠ 0 then (if zin 0 18180 then (if zin 0 18180 then zB P 289 19 [(2, ((a0 : Nat) : Int)), (0, 0)] [] ((d.up ((a0 + 1)) (zix 0) (((d.m ((a0 + 1)) (zix 0)) - 1)))) else none) else none) else some ((-1), d)) else none) := by
  have hT := cT_289
  refine Eq.trans (MM_def sm_289 (Nat.le_of_ble_eq_true rfl)) ?_
  change zB P 289 0 [(2, ((a0 : Nat) : Int)), (3, 0)] [] d = _
  refine Eq.trans (x1 (h := 0) hT rfl rfl (by decide)) ?_
  refine Eq.trans (x21r (r := a0) (cl := 12) (o := 1) (h := 1) hT rfl ha0 (by decide) rfl) ?_
  refine Eq.trans (x0 (h := 2) hT rfl) ?_
  refine Eq.trans (x24 (r := (a0 + 1)) (n := 18180) (h := 3) hT rfl (Or.inl (kd_12_0 ha0)) (ln_12_0 ha0)) ?_
  refine xig (fun hz1 => ?_)
  refine Eq.trans (x16_1 (h := 4) hT rfl) ?_
  refine xit (fun _ => ?_) (fun _ => ?_)
  · refine Eq.trans (x1 (h := 7) hT rfl rfl (by decide)) ?_
    refine Eq.trans (x21r (r := a0) (cl := 12) (o := 1) (h := 8) hT rfl ha0 (by decide) rfl) ?_
    refine Eq.trans (x0 (h := 9) hT rfl) ?_
    refine Eq.trans (x1 (h := 10) hT rfl rfl (by decide)) ?_
    refine Eq.trans (x21r (r := a0) (cl := 12) (o := 1) (h := 11) hT rfl ha0 (by decide) rfl) ?_
    refine Eq.trans (x0 (h := 12) hT rfl) ?_
    refine Eq.trans (x24 (r := (a0 + 1)) (n := 18180) (h := 13) hT rfl (Or.inl (kd_12_0 ha0)) (ln_12_0 ha0)) ?_
    refine xig (fun hz2 => ?_)
    refine Eq.trans (x0 (h := 14) hT rfl) ?_
    refine Eq.trans (x5_1 (h := 15) hT rfl) ?_
    refine Eq.trans (x25a (r := (a0 + 1)) (n := 18180) (h := 16) hT rfl (kd_12_0 ha0) (ln_12_0 ha0) (by decide) rfl) ?_
    refine xig (fun hz3 => ?_)
    refine Eq.trans (x0 (h := 17) hT rfl) ?_
    refine Eq.trans (x2 (ls' := [(2, ((a0 : Nat) : Int)), (0, 0)]) (h := 18) hT rfl (Nat.le_of_ble_eq_true rfl) rfl) ?_
    exact rfl
  · refine Eq.trans (x0 (h := 5) hT rfl) ?_
    exact x201 (h := 6) hT rfl
set_option maxRecDepth 100000 in
theorem q_289_19 {P : zP} {d : zD P} {a0 : Nat} {a1 : Int} (ha0 : zkd a0 = 12) : zB P 289 19 [(2, ((a0 : Nat) : Int)), (0, a1)] [] d = (if wr 2 ≤ wr a1 then ((MM P 265 [(2, ((a0 : Nat) : Int))] d).bind fun q4 => (if zin 0 18180 then some ((q4.2.m ((a0 + 1)) (zix 0)), q4.2) else none)) else zB P 289 22 [(2, ((a0 : Nat) : Int)), (0, a1)] [] d) := by
  have hT := cT_289
  refine Eq.trans (x1 (h := 19) hT rfl rfl (by decide)) ?_
  refine Eq.trans (x0 (h := 20) hT rfl) ?_
  refine Eq.trans (x17_3 (h := 21) hT rfl) ?_
  refine xit (fun _ => ?_) (fun _ => ?_)
  · refine Eq.trans (x1 (h := 49) hT rfl rfl (by decide)) ?_
    refine Eq.trans (x31 (r := a0) (cl := 12) (as := []) (st' := []) (h := 50) hT rfl sm_265 rfl ha0) ?_
    refine xbd (fun q4 => ?_)
    rw [rv_265]
    change zB P 289 51 [(2, ((a0 : Nat) : Int)), (0, a1)] [] q4.2 = _
    refine Eq.trans (x1 (h := 51) hT rfl rfl (by decide)) ?_
    refine Eq.trans (x21r (r := a0) (cl := 12) (o := 1) (h := 52) hT rfl ha0 (by decide) rfl) ?_
    refine Eq.trans (x0 (h := 53) hT rfl) ?_
    refine Eq.trans (x24 (r := (a0 + 1)) (n := 18180) (h := 54) hT rfl (Or.inl (kd_12_0 ha0)) (ln_12_0 ha0)) ?_
    refine xig (fun hz5 => ?_)
    exact x201 (h := 55) hT rfl
  · exact rfl
set_option maxRecDepth 100000 in
theorem q_289_22 {P : zP} {d : zD P} {a0 : Nat} {a1 : Int} (ha0 : zkd a0 = 12) : zB P 289 22 [(2, ((a0 : Nat) : Int)), (0, a1)] [] d = ((MM P 81 [(2, ((a0 : Nat) : Int)), (0, a1)] d).bind fun q6 => (if wr q6.1 ≤ 0 then zB P 289 19 [(2, ((a0 : Nat) : Int)), (0, (a1 + 1))] [] q6.2 else ((MM P 81 [(2, ((a0 : Nat) : Int)), (0, a1)] q6.2).bind fun q7 => ((MM P 148 [(2, ((a0 : Nat) : Int)), (0, a1), (0, (q7.1 - 1))] q7.2).bind fun q8 => (if wr q8.1 ≠ 0 then zB P 289 19 [(2, ((a0 : Nat) : Int)), (0, (a1 + 1))] [] q8.2 else ((MM P 81 [(2, ((a0 : Nat) : Int)), (0, a1)] q8.2).bind fun q9 => (if zin ((4 + a1)) 18180 then zB P 289 22 [(2, ((a0 : Nat) : Int)), (0, a1)] [] ((q9.2.up ((a0 + 1)) (zix ((4 + a1))) ((q9.1 - 1)))) else none))))))) := by
  have hT := cT_289
  refine Eq.trans (x1 (h := 22) hT rfl rfl (by decide)) ?_
  refine Eq.trans (x1 (h := 23) hT rfl rfl (by decide)) ?_
  refine Eq.trans (x31 (r := a0) (cl := 12) (as := [(0, a1)]) (st' := []) (h := 24) hT rfl sm_81 rfl ha0) ?_
  refine xbd (fun q6 => ?_)
  rw [rv_81]
  change zB P 289 25 [(2, ((a0 : Nat) : Int)), (0, a1)] [(0, q6.1)] q6.2 = _
  refine Eq.trans (x16_5 (h := 25) hT rfl) ?_
  refine xit (fun _ => ?_) (fun _ => ?_)
  · refine Eq.trans (x4 (ls' := [(2, ((a0 : Nat) : Int)), (0, (a1 + 1))]) (h := 47) hT rfl rfl rfl) ?_
    refine Eq.trans (x18 (h := 48) hT rfl) ?_
    exact rfl
  · refine Eq.trans (x1 (h := 26) hT rfl rfl (by decide)) ?_
    refine Eq.trans (x1 (h := 27) hT rfl rfl (by decide)) ?_
    refine Eq.trans (x1 (h := 28) hT rfl rfl (by decide)) ?_
    refine Eq.trans (x1 (h := 29) hT rfl rfl (by decide)) ?_
    refine Eq.trans (x31 (r := a0) (cl := 12) (as := [(0, a1)]) (st' := [(0, a1), (2, ((a0 : Nat) : Int))]) (h := 30) hT rfl sm_81 rfl ha0) ?_
    refine xbd (fun q7 => ?_)
    rw [rv_81]
    change zB P 289 31 [(2, ((a0 : Nat) : Int)), (0, a1)] [(0, q7.1), (0, a1), (2, ((a0 : Nat) : Int))] q7.2 = _
    refine Eq.trans (x0 (h := 31) hT rfl) ?_
    refine Eq.trans (x5_1 (h := 32) hT rfl) ?_
    refine Eq.trans (x31 (r := a0) (cl := 12) (as := [(0, a1), (0, (q7.1 - 1))]) (st' := []) (h := 33) hT rfl sm_148 rfl ha0) ?_
    refine xbd (fun q8 => ?_)
    rw [rv_148]
    change zB P 289 34 [(2, ((a0 : Nat) : Int)), (0, a1)] [(0, q8.1)] q8.2 = _
    refine Eq.trans (x16_1 (h := 34) hT rfl) ?_
    refine xit (fun _ => ?_) (fun _ => ?_)
    · refine Eq.trans (x4 (ls' := [(2, ((a0 : Nat) : Int)), (0, (a1 + 1))]) (h := 47) hT rfl rfl rfl) ?_
      refine Eq.trans (x18 (h := 48) hT rfl) ?_
      exact rfl
    · refine Eq.trans (x1 (h := 35) hT rfl rfl (by decide)) ?_
      refine Eq.trans (x21r (r := a0) (cl := 12) (o := 1) (h := 36) hT rfl ha0 (by decide) rfl) ?_
      refine Eq.trans (x0 (h := 37) hT rfl) ?_
      refine Eq.trans (x1 (h := 38) hT rfl rfl (by decide)) ?_
      refine Eq.trans (x5_0 (h := 39) hT rfl) ?_
      refine Eq.trans (x1 (h := 40) hT rfl rfl (by decide)) ?_
      refine Eq.trans (x1 (h := 41) hT rfl rfl (by decide)) ?_
      refine Eq.trans (x31 (r := a0) (cl := 12) (as := [(0, a1)]) (st' := [(0, (4 + a1)), (2, (((a0 + 1) : Nat) : Int))]) (h := 42) hT rfl sm_81 rfl ha0) ?_
      refine xbd (fun q9 => ?_)
      rw [rv_81]
      change zB P 289 43 [(2, ((a0 : Nat) : Int)), (0, a1)] [(0, q9.1), (0, (4 + a1)), (2, (((a0 + 1) : Nat) : Int))] q9.2 = _
      refine Eq.trans (x0 (h := 43) hT rfl) ?_
      refine Eq.trans (x5_1 (h := 44) hT rfl) ?_
      refine Eq.trans (x25a (r := (a0 + 1)) (n := 18180) (h := 45) hT rfl (kd_12_0 ha0) (ln_12_0 ha0) (by decide) rfl) ?_
      refine xig (fun hz10 => ?_)
      refine Eq.trans (x18 (h := 46) hT rfl) ?_
      exact rfl
/-! WordLinksModel.even()I -/
set_option maxRecDepth 100000 in
theorem e_290 {P : zP} {d : zD P} {a0 : Nat} (ha0 : zkd a0 = 12) : MM P 290 [(2, ((a0 : Nat) : Int))] d = ((MM P 50 [(2, ((a0 : Nat) : Int)), (0, 0), (0, 2)] d).bind fun q1 => ((MM P 265 [(2, ((a0 : Nat) : Int))] q1.2).bind fun q2 => ((MM P 65 [(2, ((a0 : Nat) : Int)), (0, 0), (0, 2)] q2.2).bind fun q3 => ((MM P 65 [(2, ((a0 : Nat) : Int)), (0, 1), (0, 2)] q3.2).bind fun q4 => some ((q3.1 + q4.1), q4.2))))) := by
  have hT := cT_290
  refine Eq.trans (MM_def sm_290 (Nat.le_of_ble_eq_true rfl)) ?_
  change zB P 290 0 [(2, ((a0 : Nat) : Int))] [] d = _
  refine Eq.trans (x1 (h := 0) hT rfl rfl (by decide)) ?_
  refine Eq.trans (x0 (h := 1) hT rfl) ?_
  refine Eq.trans (x0 (h := 2) hT rfl) ?_
  refine Eq.trans (x31 (r := a0) (cl := 12) (as := [(0, 0), (0, 2)]) (st' := []) (h := 3) hT rfl sm_50 rfl ha0) ?_
  refine xbd (fun q1 => ?_)
  rw [rv_50]
  change zB P 290 4 [(2, ((a0 : Nat) : Int))] [] q1.2 = _
  refine Eq.trans (x1 (h := 4) hT rfl rfl (by decide)) ?_
  refine Eq.trans (x31 (r := a0) (cl := 12) (as := []) (st' := []) (h := 5) hT rfl sm_265 rfl ha0) ?_
  refine xbd (fun q2 => ?_)
  rw [rv_265]
  change zB P 290 6 [(2, ((a0 : Nat) : Int))] [] q2.2 = _
  refine Eq.trans (x1 (h := 6) hT rfl rfl (by decide)) ?_
  refine Eq.trans (x0 (h := 7) hT rfl) ?_
  refine Eq.trans (x0 (h := 8) hT rfl) ?_
  refine Eq.trans (x31 (r := a0) (cl := 12) (as := [(0, 0), (0, 2)]) (st' := []) (h := 9) hT rfl sm_65 rfl ha0) ?_
  refine xbd (fun q3 => ?_)
  rw [rv_65]
  change zB P 290 10 [(2, ((a0 : Nat) : Int))] [(0, q3.1)] q3.2 = _
  refine Eq.trans (x1 (h := 10) hT rfl rfl (by decide)) ?_
  refine Eq.trans (x0 (h := 11) hT rfl) ?_
  refine Eq.trans (x0 (h := 12) hT rfl) ?_
  refine Eq.trans (x31 (r := a0) (cl := 12) (as := [(0, 1), (0, 2)]) (st' := [(0, q3.1)]) (h := 13) hT rfl sm_65 rfl ha0) ?_
  refine xbd (fun q4 => ?_)
  rw [rv_65]
  change zB P 290 14 [(2, ((a0 : Nat) : Int))] [(0, q4.1), (0, q3.1)] q4.2 = _
  refine Eq.trans (x5_0 (h := 14) hT rfl) ?_
  exact x201 (h := 15) hT rfl
/-! WordLinksModel.findsLinks(II)V -/
set_option maxRecDepth 100000 in
theorem e_291 {P : zP} {d : zD P} {a0 : Nat} {a1 : Int} {a2 : Int} (ha0 : zkd a0 = 12) : MM P 291 [(2, ((a0 : Nat) : Int)), (0, a1), (0, a2)] d = ((MM P 264 [(2, ((a0 : Nat) : Int)), (0, a2), (2, (((a0 + 17) : Nat) : Int))] d).bind fun q1 => ((MM P 263 [(2, ((a0 : Nat) : Int)), (0, a2), (2, (((a0 + 19) : Nat) : Int))] q1.2).bind fun q2 => zB P 291 12 [(2, ((a0 : Nat) : Int)), (0, a1), (0, a2), (0, 0)] [] q2.2)) := by
  have hT := cT_291
  refine Eq.trans (MM_def sm_291 (Nat.le_of_ble_eq_true rfl)) ?_
  change zB P 291 0 [(2, ((a0 : Nat) : Int)), (0, a1), (0, a2), (3, 0)] [] d = _
  refine Eq.trans (x1 (h := 0) hT rfl rfl (by decide)) ?_
  refine Eq.trans (x1 (h := 1) hT rfl rfl (by decide)) ?_
  refine Eq.trans (x1 (h := 2) hT rfl rfl (by decide)) ?_
  refine Eq.trans (x21r (r := a0) (cl := 12) (o := 17) (h := 3) hT rfl ha0 (by decide) rfl) ?_
  refine Eq.trans (x31 (r := a0) (cl := 12) (as := [(0, a2), (2, (((a0 + 17) : Nat) : Int))]) (st' := []) (h := 4) hT rfl sm_264 rfl ha0) ?_
  refine xbd (fun q1 => ?_)
  rw [rv_264]
  change zB P 291 5 [(2, ((a0 : Nat) : Int)), (0, a1), (0, a2), (3, 0)] [] q1.2 = _
  refine Eq.trans (x1 (h := 5) hT rfl rfl (by decide)) ?_
  refine Eq.trans (x1 (h := 6) hT rfl rfl (by decide)) ?_
  refine Eq.trans (x1 (h := 7) hT rfl rfl (by decide)) ?_
  refine Eq.trans (x21r (r := a0) (cl := 12) (o := 19) (h := 8) hT rfl ha0 (by decide) rfl) ?_
  refine Eq.trans (x31 (r := a0) (cl := 12) (as := [(0, a2), (2, (((a0 + 19) : Nat) : Int))]) (st' := []) (h := 9) hT rfl sm_263 rfl ha0) ?_
  refine xbd (fun q2 => ?_)
  rw [rv_263]
  change zB P 291 10 [(2, ((a0 : Nat) : Int)), (0, a1), (0, a2), (3, 0)] [] q2.2 = _
  refine Eq.trans (x0 (h := 10) hT rfl) ?_
  refine Eq.trans (x2 (ls' := [(2, ((a0 : Nat) : Int)), (0, a1), (0, a2), (0, 0)]) (h := 11) hT rfl (Nat.le_of_ble_eq_true rfl) rfl) ?_
  exact rfl
set_option maxRecDepth 100000 in
theorem q_291_12 {P : zP} {d : zD P} {a0 : Nat} {a1 : Int} {a2 : Int} {a3 : Int} (ha0 : zkd a0 = 12) : zB P 291 12 [(2, ((a0 : Nat) : Int)), (0, a1), (0, a2), (0, a3)] [] d = (if wr 6 ≤ wr a3 then (if wr a1 ≤ wr 3 then zB P 291 78 [(2, ((a0 : Nat) : Int)), (0, a1), (0, a2), (0, 0)] [] d else zB P 291 78 [(2, ((a0 : Nat) : Int)), (0, a1), (0, a2), (0, 1)] [] d) else (if zin a3 6 then (if zin a3 6 then (if zin a3 6 then (if wr a1 ≠ wr 1 then (if wr a1 = wr 2 then (if zin a3 6 then (if zin a3 6 then (if zin a3 6 then (if wr a1 ≠ wr 3 then zB P 291 12 [(2, ((a0 : Nat) : Int)), (0, a1), (0, a2), (0, (a3 + 1))] [] ((((d.up ((a0 + 18)) (zix a3) ((zbin 4 ((d.m ((a0 + 17)) (zix a3))) ((d.m ((a0 + 19)) (zix a3))))))).up ((a0 + 17)) (zix a3) ((zbin 3 ((((d.up ((a0 + 18)) (zix a3) ((zbin 4 ((d.m ((a0 + 17)) (zix a3))) ((d.m ((a0 + 19)) (zix a3))))))).m ((a0 + 17)) (zix a3))) ((((d.up ((a0 + 18)) (zix a3) ((zbin 4 ((d.m ((a0 + 17)) (zix a3))) ((d.m ((a0 + 19)) (zix a3))))))).m ((a0 + 19)) (zix a3))))))) else (if zin a3 6 then (if zin a3 6 then zB P 291 12 [(2, ((a0 : Nat) : Int)), (0, a1), (0, a2), (0, (a3 + 1))] [] ((((((d.up ((a0 + 18)) (zix a3) ((zbin 4 ((d.m ((a0 + 17)) (zix a3))) ((d.m ((a0 + 19)) (zix a3))))))).up ((a0 + 17)) (zix a3) ((zbin 3 ((((d.up ((a0 + 18)) (zix a3) ((zbin 4 ((d.m ((a0 + 17)) (zix a3))) ((d.m ((a0 + 19)) (zix a3))))))).m ((a0 + 17)) (zix a3))) ((((d.up ((a0 + 18)) (zix a3) ((zbin 4 ((d.m ((a0 + 17)) (zix a3))) ((d.m ((a0 + 19)) (zix a3))))))).m ((a0 + 19)) (zix a3))))))).up ((a0 + 17)) (zix a3) ((((((d.up ((a0 + 18)) (zix a3) ((zbin 4 ((d.m ((a0 + 17)) (zix a3))) ((d.m ((a0 + 19)) (zix a3))))))).up ((a0 + 17)) (zix a3) ((zbin 3 ((((d.up ((a0 + 18)) (zix a3) ((zbin 4 ((d.m ((a0 + 17)) (zix a3))) ((d.m ((a0 + 19)) (zix a3))))))).m ((a0 + 17)) (zix a3))) ((((d.up ((a0 + 18)) (zix a3) ((zbin 4 ((d.m ((a0 + 17)) (zix a3))) ((d.m ((a0 + 19)) (zix a3))))))).m ((a0 + 19)) (zix a3))))))).m ((a0 + 18)) (zix a3))))) else none) else none)) else none) else none) else none) else (if wr a1 ≤ wr 3 then (if wr a1 ≠ wr 3 then zB P 291 12 [(2, ((a0 : Nat) : Int)), (0, a1), (0, a2), (0, (a3 + 1))] [] ((d.up ((a0 + 18)) (zix a3) ((zbin 4 ((d.m ((a0 + 17)) (zix a3))) ((d.m ((a0 + 19)) (zix a3))))))) else (if zin a3 6 then (if zin a3 6 then zB P 291 12 [(2, ((a0 : Nat) : Int)), (0, a1), (0, a2), (0, (a3 + 1))] [] ((((d.up ((a0 + 18)) (zix a3) ((zbin 4 ((d.m ((a0 + 17)) (zix a3))) ((d.m ((a0 + 19)) (zix a3))))))).up ((a0 + 17)) (zix a3) ((((d.up ((a0 + 18)) (zix a3) ((zbin 4 ((d.m ((a0 + 17)) (zix a3))) ((d.m ((a0 + 19)) (zix a3))))))).m ((a0 + 18)) (zix a3))))) else none) else none)) else (if zin a3 6 then (if zin a3 6 then (if zin a3 6 then (if wr a1 ≠ wr 3 then zB P 291 12 [(2, ((a0 : Nat) : Int)), (0, a1), (0, a2), (0, (a3 + 1))] [] ((((d.up ((a0 + 18)) (zix a3) ((zbin 4 ((d.m ((a0 + 17)) (zix a3))) ((d.m ((a0 + 19)) (zix a3))))))).up ((a0 + 17)) (zix a3) ((zbin 3 ((((d.up ((a0 + 18)) (zix a3) ((zbin 4 ((d.m ((a0 + 17)) (zix a3))) ((d.m ((a0 + 19)) (zix a3))))))).m ((a0 + 17)) (zix a3))) ((((d.up ((a0 + 18)) (zix a3) ((zbin 4 ((d.m ((a0 + 17)) (zix a3))) ((d.m ((a0 + 19)) (zix a3))))))).m ((a0 + 19)) (zix a3))))))) else (if zin a3 6 then (if zin a3 6 then zB P 291 12 [(2, ((a0 : Nat) : Int)), (0, a1), (0, a2), (0, (a3 + 1))] [] ((((((d.up ((a0 + 18)) (zix a3) ((zbin 4 ((d.m ((a0 + 17)) (zix a3))) ((d.m ((a0 + 19)) (zix a3))))))).up ((a0 + 17)) (zix a3) ((zbin 3 ((((d.up ((a0 + 18)) (zix a3) ((zbin 4 ((d.m ((a0 + 17)) (zix a3))) ((d.m ((a0 + 19)) (zix a3))))))).m ((a0 + 17)) (zix a3))) ((((d.up ((a0 + 18)) (zix a3) ((zbin 4 ((d.m ((a0 + 17)) (zix a3))) ((d.m ((a0 + 19)) (zix a3))))))).m ((a0 + 19)) (zix a3))))))).up ((a0 + 17)) (zix a3) ((((((d.up ((a0 + 18)) (zix a3) ((zbin 4 ((d.m ((a0 + 17)) (zix a3))) ((d.m ((a0 + 19)) (zix a3))))))).up ((a0 + 17)) (zix a3) ((zbin 3 ((((d.up ((a0 + 18)) (zix a3) ((zbin 4 ((d.m ((a0 + 17)) (zix a3))) ((d.m ((a0 + 19)) (zix a3))))))).m ((a0 + 17)) (zix a3))) ((((d.up ((a0 + 18)) (zix a3) ((zbin 4 ((d.m ((a0 + 17)) (zix a3))) ((d.m ((a0 + 19)) (zix a3))))))).m ((a0 + 19)) (zix a3))))))).m ((a0 + 18)) (zix a3))))) else none) else none)) else none) else none) else none))) else (if zin a3 6 then (if zin a3 6 then (if wr a1 = wr 2 then (if zin a3 6 then (if zin a3 6 then (if zin a3 6 then (if wr a1 ≠ wr 3 then zB P 291 12 [(2, ((a0 : Nat) : Int)), (0, a1), (0, a2), (0, (a3 + 1))] [] ((((((d.up ((a0 + 18)) (zix a3) ((zbin 4 ((d.m ((a0 + 17)) (zix a3))) ((d.m ((a0 + 19)) (zix a3))))))).up ((a0 + 17)) (zix a3) ((((d.up ((a0 + 18)) (zix a3) ((zbin 4 ((d.m ((a0 + 17)) (zix a3))) ((d.m ((a0 + 19)) (zix a3))))))).m ((a0 + 19)) (zix a3))))).up ((a0 + 17)) (zix a3) ((zbin 3 ((((((d.up ((a0 + 18)) (zix a3) ((zbin 4 ((d.m ((a0 + 17)) (zix a3))) ((d.m ((a0 + 19)) (zix a3))))))).up ((a0 + 17)) (zix a3) ((((d.up ((a0 + 18)) (zix a3) ((zbin 4 ((d.m ((a0 + 17)) (zix a3))) ((d.m ((a0 + 19)) (zix a3))))))).m ((a0 + 19)) (zix a3))))).m ((a0 + 17)) (zix a3))) ((((((d.up ((a0 + 18)) (zix a3) ((zbin 4 ((d.m ((a0 + 17)) (zix a3))) ((d.m ((a0 + 19)) (zix a3))))))).up ((a0 + 17)) (zix a3) ((((d.up ((a0 + 18)) (zix a3) ((zbin 4 ((d.m ((a0 + 17)) (zix a3))) ((d.m ((a0 + 19)) (zix a3))))))).m ((a0 + 19)) (zix a3))))).m ((a0 + 19)) (zix a3))))))) else (if zin a3 6 then (if zin a3 6 then zB P 291 12 [(2, ((a0 : Nat) : Int)), (0, a1), (0, a2), (0, (a3 + 1))] [] ((((((((d.up ((a0 + 18)) (zix a3) ((zbin 4 ((d.m ((a0 + 17)) (zix a3))) ((d.m ((a0 + 19)) (zix a3))))))).up ((a0 + 17)) (zix a3) ((((d.up ((a0 + 18)) (zix a3) ((zbin 4 ((d.m ((a0 + 17)) (zix a3))) ((d.m ((a0 + 19)) (zix a3))))))).m ((a0 + 19)) (zix a3))))).up ((a0 + 17)) (zix a3) ((zbin 3 ((((((d.up ((a0 + 18)) (zix a3) ((zbin 4 ((d.m ((a0 + 17)) (zix a3))) ((d.m ((a0 + 19)) (zix a3))))))).up ((a0 + 17)) (zix a3) ((((d.up ((a0 + 18)) (zix a3) ((zbin 4 ((d.m ((a0 + 17)) (zix a3))) ((d.m ((a0 + 19)) (zix a3))))))).m ((a0 + 19)) (zix a3))))).m ((a0 + 17)) (zix a3))) ((((((d.up ((a0 + 18)) (zix a3) ((zbin 4 ((d.m ((a0 + 17)) (zix a3))) ((d.m ((a0 + 19)) (zix a3))))))).up ((a0 + 17)) (zix a3) ((((d.up ((a0 + 18)) (zix a3) ((zbin 4 ((d.m ((a0 + 17)) (zix a3))) ((d.m ((a0 + 19)) (zix a3))))))).m ((a0 + 19)) (zix a3))))).m ((a0 + 19)) (zix a3))))))).up ((a0 + 17)) (zix a3) ((((((((d.up ((a0 + 18)) (zix a3) ((zbin 4 ((d.m ((a0 + 17)) (zix a3))) ((d.m ((a0 + 19)) (zix a3))))))).up ((a0 + 17)) (zix a3) ((((d.up ((a0 + 18)) (zix a3) ((zbin 4 ((d.m ((a0 + 17)) (zix a3))) ((d.m ((a0 + 19)) (zix a3))))))).m ((a0 + 19)) (zix a3))))).up ((a0 + 17)) (zix a3) ((zbin 3 ((((((d.up ((a0 + 18)) (zix a3) ((zbin 4 ((d.m ((a0 + 17)) (zix a3))) ((d.m ((a0 + 19)) (zix a3))))))).up ((a0 + 17)) (zix a3) ((((d.up ((a0 + 18)) (zix a3) ((zbin 4 ((d.m ((a0 + 17)) (zix a3))) ((d.m ((a0 + 19)) (zix a3))))))).m ((a0 + 19)) (zix a3))))).m ((a0 + 17)) (zix a3))) ((((((d.up ((a0 + 18)) (zix a3) ((zbin 4 ((d.m ((a0 + 17)) (zix a3))) ((d.m ((a0 + 19)) (zix a3))))))).up ((a0 + 17)) (zix a3) ((((d.up ((a0 + 18)) (zix a3) ((zbin 4 ((d.m ((a0 + 17)) (zix a3))) ((d.m ((a0 + 19)) (zix a3))))))).m ((a0 + 19)) (zix a3))))).m ((a0 + 19)) (zix a3))))))).m ((a0 + 18)) (zix a3))))) else none) else none)) else none) else none) else none) else (if wr a1 ≤ wr 3 then (if wr a1 ≠ wr 3 then zB P 291 12 [(2, ((a0 : Nat) : Int)), (0, a1), (0, a2), (0, (a3 + 1))] [] ((((d.up ((a0 + 18)) (zix a3) ((zbin 4 ((d.m ((a0 + 17)) (zix a3))) ((d.m ((a0 + 19)) (zix a3))))))).up ((a0 + 17)) (zix a3) ((((d.up ((a0 + 18)) (zix a3) ((zbin 4 ((d.m ((a0 + 17)) (zix a3))) ((d.m ((a0 + 19)) (zix a3))))))).m ((a0 + 19)) (zix a3))))) else (if zin a3 6 then (if zin a3 6 then zB P 291 12 [(2, ((a0 : Nat) : Int)), (0, a1), (0, a2), (0, (a3 + 1))] [] ((((((d.up ((a0 + 18)) (zix a3) ((zbin 4 ((d.m ((a0 + 17)) (zix a3))) ((d.m ((a0 + 19)) (zix a3))))))).up ((a0 + 17)) (zix a3) ((((d.up ((a0 + 18)) (zix a3) ((zbin 4 ((d.m ((a0 + 17)) (zix a3))) ((d.m ((a0 + 19)) (zix a3))))))).m ((a0 + 19)) (zix a3))))).up ((a0 + 17)) (zix a3) ((((((d.up ((a0 + 18)) (zix a3) ((zbin 4 ((d.m ((a0 + 17)) (zix a3))) ((d.m ((a0 + 19)) (zix a3))))))).up ((a0 + 17)) (zix a3) ((((d.up ((a0 + 18)) (zix a3) ((zbin 4 ((d.m ((a0 + 17)) (zix a3))) ((d.m ((a0 + 19)) (zix a3))))))).m ((a0 + 19)) (zix a3))))).m ((a0 + 18)) (zix a3))))) else none) else none)) else (if zin a3 6 then (if zin a3 6 then (if zin a3 6 then (if wr a1 ≠ wr 3 then zB P 291 12 [(2, ((a0 : Nat) : Int)), (0, a1), (0, a2), (0, (a3 + 1))] [] ((((((d.up ((a0 + 18)) (zix a3) ((zbin 4 ((d.m ((a0 + 17)) (zix a3))) ((d.m ((a0 + 19)) (zix a3))))))).up ((a0 + 17)) (zix a3) ((((d.up ((a0 + 18)) (zix a3) ((zbin 4 ((d.m ((a0 + 17)) (zix a3))) ((d.m ((a0 + 19)) (zix a3))))))).m ((a0 + 19)) (zix a3))))).up ((a0 + 17)) (zix a3) ((zbin 3 ((((((d.up ((a0 + 18)) (zix a3) ((zbin 4 ((d.m ((a0 + 17)) (zix a3))) ((d.m ((a0 + 19)) (zix a3))))))).up ((a0 + 17)) (zix a3) ((((d.up ((a0 + 18)) (zix a3) ((zbin 4 ((d.m ((a0 + 17)) (zix a3))) ((d.m ((a0 + 19)) (zix a3))))))).m ((a0 + 19)) (zix a3))))).m ((a0 + 17)) (zix a3))) ((((((d.up ((a0 + 18)) (zix a3) ((zbin 4 ((d.m ((a0 + 17)) (zix a3))) ((d.m ((a0 + 19)) (zix a3))))))).up ((a0 + 17)) (zix a3) ((((d.up ((a0 + 18)) (zix a3) ((zbin 4 ((d.m ((a0 + 17)) (zix a3))) ((d.m ((a0 + 19)) (zix a3))))))).m ((a0 + 19)) (zix a3))))).m ((a0 + 19)) (zix a3))))))) else (if zin a3 6 then (if zin a3 6 then zB P 291 12 [(2, ((a0 : Nat) : Int)), (0, a1), (0, a2), (0, (a3 + 1))] [] ((((((((d.up ((a0 + 18)) (zix a3) ((zbin 4 ((d.m ((a0 + 17)) (zix a3))) ((d.m ((a0 + 19)) (zix a3))))))).up ((a0 + 17)) (zix a3) ((((d.up ((a0 + 18)) (zix a3) ((zbin 4 ((d.m ((a0 + 17)) (zix a3))) ((d.m ((a0 + 19)) (zix a3))))))).m ((a0 + 19)) (zix a3))))).up ((a0 + 17)) (zix a3) ((zbin 3 ((((((d.up ((a0 + 18)) (zix a3) ((zbin 4 ((d.m ((a0 + 17)) (zix a3))) ((d.m ((a0 + 19)) (zix a3))))))).up ((a0 + 17)) (zix a3) ((((d.up ((a0 + 18)) (zix a3) ((zbin 4 ((d.m ((a0 + 17)) (zix a3))) ((d.m ((a0 + 19)) (zix a3))))))).m ((a0 + 19)) (zix a3))))).m ((a0 + 17)) (zix a3))) ((((((d.up ((a0 + 18)) (zix a3) ((zbin 4 ((d.m ((a0 + 17)) (zix a3))) ((d.m ((a0 + 19)) (zix a3))))))).up ((a0 + 17)) (zix a3) ((((d.up ((a0 + 18)) (zix a3) ((zbin 4 ((d.m ((a0 + 17)) (zix a3))) ((d.m ((a0 + 19)) (zix a3))))))).m ((a0 + 19)) (zix a3))))).m ((a0 + 19)) (zix a3))))))).up ((a0 + 17)) (zix a3) ((((((((d.up ((a0 + 18)) (zix a3) ((zbin 4 ((d.m ((a0 + 17)) (zix a3))) ((d.m ((a0 + 19)) (zix a3))))))).up ((a0 + 17)) (zix a3) ((((d.up ((a0 + 18)) (zix a3) ((zbin 4 ((d.m ((a0 + 17)) (zix a3))) ((d.m ((a0 + 19)) (zix a3))))))).m ((a0 + 19)) (zix a3))))).up ((a0 + 17)) (zix a3) ((zbin 3 ((((((d.up ((a0 + 18)) (zix a3) ((zbin 4 ((d.m ((a0 + 17)) (zix a3))) ((d.m ((a0 + 19)) (zix a3))))))).up ((a0 + 17)) (zix a3) ((((d.up ((a0 + 18)) (zix a3) ((zbin 4 ((d.m ((a0 + 17)) (zix a3))) ((d.m ((a0 + 19)) (zix a3))))))).m ((a0 + 19)) (zix a3))))).m ((a0 + 17)) (zix a3))) ((((((d.up ((a0 + 18)) (zix a3) ((zbin 4 ((d.m ((a0 + 17)) (zix a3))) ((d.m ((a0 + 19)) (zix a3))))))).up ((a0 + 17)) (zix a3) ((((d.up ((a0 + 18)) (zix a3) ((zbin 4 ((d.m ((a0 + 17)) (zix a3))) ((d.m ((a0 + 19)) (zix a3))))))).m ((a0 + 19)) (zix a3))))).m ((a0 + 19)) (zix a3))))))).m ((a0 + 18)) (zix a3))))) else none) else none)) else none) else none) else none))) else none) else none)) else none) else none) else none)) := by
  have hT := cT_291
  refine Eq.trans (x1 (h := 12) hT rfl rfl (by decide)) ?_
  refine Eq.trans (x0 (h := 13) hT rfl) ?_
  refine Eq.trans (x17_3 (h := 14) hT rfl) ?_
  refine xit (fun _ => ?_) (fun _ => ?_)
  · refine Eq.trans (x1 (h := 71) hT rfl rfl (by decide)) ?_
    refine Eq.trans (x0 (h := 72) hT rfl) ?_
    refine Eq.trans (x17_5 (h := 73) hT rfl) ?_
    refine xit (fun _ => ?_) (fun _ => ?_)
    · refine Eq.trans (x0 (h := 76) hT rfl) ?_
      refine Eq.trans (x2 (ls' := [(2, ((a0 : Nat) : Int)), (0, a1), (0, a2), (0, 0)]) (h := 77) hT rfl (Nat.le_of_ble_eq_true rfl) rfl) ?_
      exact rfl
    · refine Eq.trans (x0 (h := 74) hT rfl) ?_
      refine Eq.trans (x18 (h := 75) hT rfl) ?_
      refine Eq.trans (x2 (ls' := [(2, ((a0 : Nat) : Int)), (0, a1), (0, a2), (0, 1)]) (h := 77) hT rfl (Nat.le_of_ble_eq_true rfl) rfl) ?_
      exact rfl
  · refine Eq.trans (x1 (h := 15) hT rfl rfl (by decide)) ?_
    refine Eq.trans (x21r (r := a0) (cl := 12) (o := 18) (h := 16) hT rfl ha0 (by decide) rfl) ?_
    refine Eq.trans (x1 (h := 17) hT rfl rfl (by decide)) ?_
    refine Eq.trans (x1 (h := 18) hT rfl rfl (by decide)) ?_
    refine Eq.trans (x21r (r := a0) (cl := 12) (o := 17) (h := 19) hT rfl ha0 (by decide) rfl) ?_
    refine Eq.trans (x1 (h := 20) hT rfl rfl (by decide)) ?_
    refine Eq.trans (x24 (r := (a0 + 17)) (n := 6) (h := 21) hT rfl (Or.inl (kd_12_24 ha0)) (ln_12_24 ha0)) ?_
    refine xig (fun hz3 => ?_)
    refine Eq.trans (x1 (h := 22) hT rfl rfl (by decide)) ?_
    refine Eq.trans (x21r (r := a0) (cl := 12) (o := 19) (h := 23) hT rfl ha0 (by decide) rfl) ?_
    refine Eq.trans (x1 (h := 24) hT rfl rfl (by decide)) ?_
    refine Eq.trans (x24 (r := (a0 + 19)) (n := 6) (h := 25) hT rfl (Or.inl (kd_12_26 ha0)) (ln_12_26 ha0)) ?_
    refine xig (fun hz4 => ?_)
    refine Eq.trans (x5n (h := 26) hT rfl) ?_
    refine Eq.trans (x25a (r := (a0 + 18)) (n := 6) (h := 27) hT rfl (kd_12_25 ha0) (ln_12_25 ha0) (by decide) rfl) ?_
    refine xig (fun hz5 => ?_)
    refine Eq.trans (x1 (h := 28) hT rfl rfl (by decide)) ?_
    refine Eq.trans (x0 (h := 29) hT rfl) ?_
    refine Eq.trans (x17_1 (h := 30) hT rfl) ?_
    refine xit (fun _ => ?_) (fun _ => ?_)
    · refine Eq.trans (x1 (h := 39) hT rfl rfl (by decide)) ?_
      refine Eq.trans (x0 (h := 40) hT rfl) ?_
      refine Eq.trans (x17_0 (h := 41) hT rfl) ?_
      refine xit (fun _ => ?_) (fun _ => ?_)
      · refine Eq.trans (x1 (h := 45) hT rfl rfl (by decide)) ?_
        refine Eq.trans (x21r (r := a0) (cl := 12) (o := 17) (h := 46) hT rfl ha0 (by decide) rfl) ?_
        refine Eq.trans (x1 (h := 47) hT rfl rfl (by decide)) ?_
        refine Eq.trans (x1 (h := 48) hT rfl rfl (by decide)) ?_
        refine Eq.trans (x21r (r := a0) (cl := 12) (o := 17) (h := 49) hT rfl ha0 (by decide) rfl) ?_
        refine Eq.trans (x1 (h := 50) hT rfl rfl (by decide)) ?_
        refine Eq.trans (x24 (r := (a0 + 17)) (n := 6) (h := 51) hT rfl (Or.inl (kd_12_24 ha0)) (ln_12_24 ha0)) ?_
        refine xig (fun hz6 => ?_)
        refine Eq.trans (x1 (h := 52) hT rfl rfl (by decide)) ?_
        refine Eq.trans (x21r (r := a0) (cl := 12) (o := 19) (h := 53) hT rfl ha0 (by decide) rfl) ?_
        refine Eq.trans (x1 (h := 54) hT rfl rfl (by decide)) ?_
        refine Eq.trans (x24 (r := (a0 + 19)) (n := 6) (h := 55) hT rfl (Or.inl (kd_12_26 ha0)) (ln_12_26 ha0)) ?_
        refine xig (fun hz7 => ?_)
        refine Eq.trans (x5n (h := 56) hT rfl) ?_
        refine Eq.trans (x25a (r := (a0 + 17)) (n := 6) (h := 57) hT rfl (kd_12_24 ha0) (ln_12_24 ha0) (by decide) rfl) ?_
        refine xig (fun hz8 => ?_)
        refine Eq.trans (x1 (h := 58) hT rfl rfl (by decide)) ?_
        refine Eq.trans (x0 (h := 59) hT rfl) ?_
        refine Eq.trans (x17_1 (h := 60) hT rfl) ?_
        refine xit (fun _ => ?_) (fun _ => ?_)
        · refine Eq.trans (x4 (ls' := [(2, ((a0 : Nat) : Int)), (0, a1), (0, a2), (0, (a3 + 1))]) (h := 69) hT rfl rfl rfl) ?_
          refine Eq.trans (x18 (h := 70) hT rfl) ?_
          exact rfl
        · refine Eq.trans (x1 (h := 61) hT rfl rfl (by decide)) ?_
          refine Eq.trans (x21r (r := a0) (cl := 12) (o := 17) (h := 62) hT rfl ha0 (by decide) rfl) ?_
          refine Eq.trans (x1 (h := 63) hT rfl rfl (by decide)) ?_
          refine Eq.trans (x1 (h := 64) hT rfl rfl (by decide)) ?_
          refine Eq.trans (x21r (r := a0) (cl := 12) (o := 18) (h := 65) hT rfl ha0 (by decide) rfl) ?_
          refine Eq.trans (x1 (h := 66) hT rfl rfl (by decide)) ?_
          refine Eq.trans (x24 (r := (a0 + 18)) (n := 6) (h := 67) hT rfl (Or.inl (kd_12_25 ha0)) (ln_12_25 ha0)) ?_
          refine xig (fun hz9 => ?_)
          refine Eq.trans (x25a (r := (a0 + 17)) (n := 6) (h := 68) hT rfl (kd_12_24 ha0) (ln_12_24 ha0) (by decide) rfl) ?_
          refine xig (fun hz10 => ?_)
          refine Eq.trans (x4 (ls' := [(2, ((a0 : Nat) : Int)), (0, a1), (0, a2), (0, (a3 + 1))]) (h := 69) hT rfl rfl rfl) ?_
          refine Eq.trans (x18 (h := 70) hT rfl) ?_
          exact rfl
      · refine Eq.trans (x1 (h := 42) hT rfl rfl (by decide)) ?_
        refine Eq.trans (x0 (h := 43) hT rfl) ?_
        refine Eq.trans (x17_5 (h := 44) hT rfl) ?_
        refine xit (fun _ => ?_) (fun _ => ?_)
        · refine Eq.trans (x1 (h := 58) hT rfl rfl (by decide)) ?_
          refine Eq.trans (x0 (h := 59) hT rfl) ?_
          refine Eq.trans (x17_1 (h := 60) hT rfl) ?_
          refine xit (fun _ => ?_) (fun _ => ?_)
          · refine Eq.trans (x4 (ls' := [(2, ((a0 : Nat) : Int)), (0, a1), (0, a2), (0, (a3 + 1))]) (h := 69) hT rfl rfl rfl) ?_
            refine Eq.trans (x18 (h := 70) hT rfl) ?_
            exact rfl
          · refine Eq.trans (x1 (h := 61) hT rfl rfl (by decide)) ?_
            refine Eq.trans (x21r (r := a0) (cl := 12) (o := 17) (h := 62) hT rfl ha0 (by decide) rfl) ?_
            refine Eq.trans (x1 (h := 63) hT rfl rfl (by decide)) ?_
            refine Eq.trans (x1 (h := 64) hT rfl rfl (by decide)) ?_
            refine Eq.trans (x21r (r := a0) (cl := 12) (o := 18) (h := 65) hT rfl ha0 (by decide) rfl) ?_
            refine Eq.trans (x1 (h := 66) hT rfl rfl (by decide)) ?_
            refine Eq.trans (x24 (r := (a0 + 18)) (n := 6) (h := 67) hT rfl (Or.inl (kd_12_25 ha0)) (ln_12_25 ha0)) ?_
            refine xig (fun hz11 => ?_)
            refine Eq.trans (x25a (r := (a0 + 17)) (n := 6) (h := 68) hT rfl (kd_12_24 ha0) (ln_12_24 ha0) (by decide) rfl) ?_
            refine xig (fun hz12 => ?_)
            refine Eq.trans (x4 (ls' := [(2, ((a0 : Nat) : Int)), (0, a1), (0, a2), (0, (a3 + 1))]) (h := 69) hT rfl rfl rfl) ?_
            refine Eq.trans (x18 (h := 70) hT rfl) ?_
            exact rfl
        · refine Eq.trans (x1 (h := 45) hT rfl rfl (by decide)) ?_
          refine Eq.trans (x21r (r := a0) (cl := 12) (o := 17) (h := 46) hT rfl ha0 (by decide) rfl) ?_
          refine Eq.trans (x1 (h := 47) hT rfl rfl (by decide)) ?_
          refine Eq.trans (x1 (h := 48) hT rfl rfl (by decide)) ?_
          refine Eq.trans (x21r (r := a0) (cl := 12) (o := 17) (h := 49) hT rfl ha0 (by decide) rfl) ?_
          refine Eq.trans (x1 (h := 50) hT rfl rfl (by decide)) ?_
          refine Eq.trans (x24 (r := (a0 + 17)) (n := 6) (h := 51) hT rfl (Or.inl (kd_12_24 ha0)) (ln_12_24 ha0)) ?_
          refine xig (fun hz13 => ?_)
          refine Eq.trans (x1 (h := 52) hT rfl rfl (by decide)) ?_
          refine Eq.trans (x21r (r := a0) (cl := 12) (o := 19) (h := 53) hT rfl ha0 (by decide) rfl) ?_
          refine Eq.trans (x1 (h := 54) hT rfl rfl (by decide)) ?_
          refine Eq.trans (x24 (r := (a0 + 19)) (n := 6) (h := 55) hT rfl (Or.inl (kd_12_26 ha0)) (ln_12_26 ha0)) ?_
          refine xig (fun hz14 => ?_)
          refine Eq.trans (x5n (h := 56) hT rfl) ?_
          refine Eq.trans (x25a (r := (a0 + 17)) (n := 6) (h := 57) hT rfl (kd_12_24 ha0) (ln_12_24 ha0) (by decide) rfl) ?_
          refine xig (fun hz15 => ?_)
          refine Eq.trans (x1 (h := 58) hT rfl rfl (by decide)) ?_
          refine Eq.trans (x0 (h := 59) hT rfl) ?_
          refine Eq.trans (x17_1 (h := 60) hT rfl) ?_
          refine xit (fun _ => ?_) (fun _ => ?_)
          · refine Eq.trans (x4 (ls' := [(2, ((a0 : Nat) : Int)), (0, a1), (0, a2), (0, (a3 + 1))]) (h := 69) hT rfl rfl rfl) ?_
            refine Eq.trans (x18 (h := 70) hT rfl) ?_
            exact rfl
          · refine Eq.trans (x1 (h := 61) hT rfl rfl (by decide)) ?_
            refine Eq.trans (x21r (r := a0) (cl := 12) (o := 17) (h := 62) hT rfl ha0 (by decide) rfl) ?_
            refine Eq.trans (x1 (h := 63) hT rfl rfl (by decide)) ?_
            refine Eq.trans (x1 (h := 64) hT rfl rfl (by decide)) ?_
            refine Eq.trans (x21r (r := a0) (cl := 12) (o := 18) (h := 65) hT rfl ha0 (by decide) rfl) ?_
            refine Eq.trans (x1 (h := 66) hT rfl rfl (by decide)) ?_
            refine Eq.trans (x24 (r := (a0 + 18)) (n := 6) (h := 67) hT rfl (Or.inl (kd_12_25 ha0)) (ln_12_25 ha0)) ?_
            refine xig (fun hz16 => ?_)
            refine Eq.trans (x25a (r := (a0 + 17)) (n := 6) (h := 68) hT rfl (kd_12_24 ha0) (ln_12_24 ha0) (by decide) rfl) ?_
            refine xig (fun hz17 => ?_)
            refine Eq.trans (x4 (ls' := [(2, ((a0 : Nat) : Int)), (0, a1), (0, a2), (0, (a3 + 1))]) (h := 69) hT rfl rfl rfl) ?_
            refine Eq.trans (x18 (h := 70) hT rfl) ?_
            exact rfl
    · refine Eq.trans (x1 (h := 31) hT rfl rfl (by decide)) ?_
      refine Eq.trans (x21r (r := a0) (cl := 12) (o := 17) (h := 32) hT rfl ha0 (by decide) rfl) ?_
      refine Eq.trans (x1 (h := 33) hT rfl rfl (by decide)) ?_
      refine Eq.trans (x1 (h := 34) hT rfl rfl (by decide)) ?_
      refine Eq.trans (x21r (r := a0) (cl := 12) (o := 19) (h := 35) hT rfl ha0 (by decide) rfl) ?_
      refine Eq.trans (x1 (h := 36) hT rfl rfl (by decide)) ?_
      refine Eq.trans (x24 (r := (a0 + 19)) (n := 6) (h := 37) hT rfl (Or.inl (kd_12_26 ha0)) (ln_12_26 ha0)) ?_
      refine xig (fun hz18 => ?_)
      refine Eq.trans (x25a (r := (a0 + 17)) (n := 6) (h := 38) hT rfl (kd_12_24 ha0) (ln_12_24 ha0) (by decide) rfl) ?_
      refine xig (fun hz19 => ?_)
      refine Eq.trans (x1 (h := 39) hT rfl rfl (by decide)) ?_
      refine Eq.trans (x0 (h := 40) hT rfl) ?_
      refine Eq.trans (x17_0 (h := 41) hT rfl) ?_
      refine xit (fun _ => ?_) (fun _ => ?_)
      · refine Eq.trans (x1 (h := 45) hT rfl rfl (by decide)) ?_
        refine Eq.trans (x21r (r := a0) (cl := 12) (o := 17) (h := 46) hT rfl ha0 (by decide) rfl) ?_
        refine Eq.trans (x1 (h := 47) hT rfl rfl (by decide)) ?_
        refine Eq.trans (x1 (h := 48) hT rfl rfl (by decide)) ?_
        refine Eq.trans (x21r (r := a0) (cl := 12) (o := 17) (h := 49) hT rfl ha0 (by decide) rfl) ?_
        refine Eq.trans (x1 (h := 50) hT rfl rfl (by decide)) ?_
        refine Eq.trans (x24 (r := (a0 + 17)) (n := 6) (h := 51) hT rfl (Or.inl (kd_12_24 ha0)) (ln_12_24 ha0)) ?_
        refine xig (fun hz20 => ?_)
        refine Eq.trans (x1 (h := 52) hT rfl rfl (by decide)) ?_
        refine Eq.trans (x21r (r := a0) (cl := 12) (o := 19) (h := 53) hT rfl ha0 (by decide) rfl) ?_
        refine Eq.trans (x1 (h := 54) hT rfl rfl (by decide)) ?_
        refine Eq.trans (x24 (r := (a0 + 19)) (n := 6) (h := 55) hT rfl (Or.inl (kd_12_26 ha0)) (ln_12_26 ha0)) ?_
        refine xig (fun hz21 => ?_)
        refine Eq.trans (x5n (h := 56) hT rfl) ?_
        refine Eq.trans (x25a (r := (a0 + 17)) (n := 6) (h := 57) hT rfl (kd_12_24 ha0) (ln_12_24 ha0) (by decide) rfl) ?_
        refine xig (fun hz22 => ?_)
        refine Eq.trans (x1 (h := 58) hT rfl rfl (by decide)) ?_
        refine Eq.trans (x0 (h := 59) hT rfl) ?_
        refine Eq.trans (x17_1 (h := 60) hT rfl) ?_
        refine xit (fun _ => ?_) (fun _ => ?_)
        · refine Eq.trans (x4 (ls' := [(2, ((a0 : Nat) : Int)), (0, a1), (0, a2), (0, (a3 + 1))]) (h := 69) hT rfl rfl rfl) ?_
          refine Eq.trans (x18 (h := 70) hT rfl) ?_
          exact rfl
        · refine Eq.trans (x1 (h := 61) hT rfl rfl (by decide)) ?_
          refine Eq.trans (x21r (r := a0) (cl := 12) (o := 17) (h := 62) hT rfl ha0 (by decide) rfl) ?_
          refine Eq.trans (x1 (h := 63) hT rfl rfl (by decide)) ?_
          refine Eq.trans (x1 (h := 64) hT rfl rfl (by decide)) ?_
          refine Eq.trans (x21r (r := a0) (cl := 12) (o := 18) (h := 65) hT rfl ha0 (by decide) rfl) ?_
          refine Eq.trans (x1 (h := 66) hT rfl rfl (by decide)) ?_
          refine Eq.trans (x24 (r := (a0 + 18)) (n := 6) (h := 67) hT rfl (Or.inl (kd_12_25 ha0)) (ln_12_25 ha0)) ?_
          refine xig (fun hz23 => ?_)
          refine Eq.trans (x25a (r := (a0 + 17)) (n := 6) (h := 68) hT rfl (kd_12_24 ha0) (ln_12_24 ha0) (by decide) rfl) ?_
          refine xig (fun hz24 => ?_)
          refine Eq.trans (x4 (ls' := [(2, ((a0 : Nat) : Int)), (0, a1), (0, a2), (0, (a3 + 1))]) (h := 69) hT rfl rfl rfl) ?_
          refine Eq.trans (x18 (h := 70) hT rfl) ?_
          exact rfl
      · refine Eq.trans (x1 (h := 42) hT rfl rfl (by decide)) ?_
        refine Eq.trans (x0 (h := 43) hT rfl) ?_
        refine Eq.trans (x17_5 (h := 44) hT rfl) ?_
        refine xit (fun _ => ?_) (fun _ => ?_)
        · refine Eq.trans (x1 (h := 58) hT rfl rfl (by decide)) ?_
          refine Eq.trans (x0 (h := 59) hT rfl) ?_
          refine Eq.trans (x17_1 (h := 60) hT rfl) ?_
          refine xit (fun _ => ?_) (fun _ => ?_)
          · refine Eq.trans (x4 (ls' := [(2, ((a0 : Nat) : Int)), (0, a1), (0, a2), (0, (a3 + 1))]) (h := 69) hT rfl rfl rfl) ?_
            refine Eq.trans (x18 (h := 70) hT rfl) ?_
            exact rfl
          · refine Eq.trans (x1 (h := 61) hT rfl rfl (by decide)) ?_
            refine Eq.trans (x21r (r := a0) (cl := 12) (o := 17) (h := 62) hT rfl ha0 (by decide) rfl) ?_
            refine Eq.trans (x1 (h := 63) hT rfl rfl (by decide)) ?_
            refine Eq.trans (x1 (h := 64) hT rfl rfl (by decide)) ?_
            refine Eq.trans (x21r (r := a0) (cl := 12) (o := 18) (h := 65) hT rfl ha0 (by decide) rfl) ?_
            refine Eq.trans (x1 (h := 66) hT rfl rfl (by decide)) ?_
            refine Eq.trans (x24 (r := (a0 + 18)) (n := 6) (h := 67) hT rfl (Or.inl (kd_12_25 ha0)) (ln_12_25 ha0)) ?_
            refine xig (fun hz25 => ?_)
            refine Eq.trans (x25a (r := (a0 + 17)) (n := 6) (h := 68) hT rfl (kd_12_24 ha0) (ln_12_24 ha0) (by decide) rfl) ?_
            refine xig (fun hz26 => ?_)
            refine Eq.trans (x4 (ls' := [(2, ((a0 : Nat) : Int)), (0, a1), (0, a2), (0, (a3 + 1))]) (h := 69) hT rfl rfl rfl) ?_
            refine Eq.trans (x18 (h := 70) hT rfl) ?_
            exact rfl
        · refine Eq.trans (x1 (h := 45) hT rfl rfl (by decide)) ?_
          refine Eq.trans (x21r (r := a0) (cl := 12) (o := 17) (h := 46) hT rfl ha0 (by decide) rfl) ?_
          refine Eq.trans (x1 (h := 47) hT rfl rfl (by decide)) ?_
          refine Eq.trans (x1 (h := 48) hT rfl rfl (by decide)) ?_
          refine Eq.trans (x21r (r := a0) (cl := 12) (o := 17) (h := 49) hT rfl ha0 (by decide) rfl) ?_
          refine Eq.trans (x1 (h := 50) hT rfl rfl (by decide)) ?_
          refine Eq.trans (x24 (r := (a0 + 17)) (n := 6) (h := 51) hT rfl (Or.inl (kd_12_24 ha0)) (ln_12_24 ha0)) ?_
          refine xig (fun hz27 => ?_)
          refine Eq.trans (x1 (h := 52) hT rfl rfl (by decide)) ?_
          refine Eq.trans (x21r (r := a0) (cl := 12) (o := 19) (h := 53) hT rfl ha0 (by decide) rfl) ?_
          refine Eq.trans (x1 (h := 54) hT rfl rfl (by decide)) ?_
          refine Eq.trans (x24 (r := (a0 + 19)) (n := 6) (h := 55) hT rfl (Or.inl (kd_12_26 ha0)) (ln_12_26 ha0)) ?_
          refine xig (fun hz28 => ?_)
          refine Eq.trans (x5n (h := 56) hT rfl) ?_
          refine Eq.trans (x25a (r := (a0 + 17)) (n := 6) (h := 57) hT rfl (kd_12_24 ha0) (ln_12_24 ha0) (by decide) rfl) ?_
          refine xig (fun hz29 => ?_)
          refine Eq.trans (x1 (h := 58) hT rfl rfl (by decide)) ?_
          refine Eq.trans (x0 (h := 59) hT rfl) ?_
          refine Eq.trans (x17_1 (h := 60) hT rfl) ?_
          refine xit (fun _ => ?_) (fun _ => ?_)
          · refine Eq.trans (x4 (ls' := [(2, ((a0 : Nat) : Int)), (0, a1), (0, a2), (0, (a3 + 1))]) (h := 69) hT rfl rfl rfl) ?_
            refine Eq.trans (x18 (h := 70) hT rfl) ?_
            exact rfl
          · refine Eq.trans (x1 (h := 61) hT rfl rfl (by decide)) ?_
            refine Eq.trans (x21r (r := a0) (cl := 12) (o := 17) (h := 62) hT rfl ha0 (by decide) rfl) ?_
            refine Eq.trans (x1 (h := 63) hT rfl rfl (by decide)) ?_
            refine Eq.trans (x1 (h := 64) hT rfl rfl (by decide)) ?_
            refine Eq.trans (x21r (r := a0) (cl := 12) (o := 18) (h := 65) hT rfl ha0 (by decide) rfl) ?_
            refine Eq.trans (x1 (h := 66) hT rfl rfl (by decide)) ?_
            refine Eq.trans (x24 (r := (a0 + 18)) (n := 6) (h := 67) hT rfl (Or.inl (kd_12_25 ha0)) (ln_12_25 ha0)) ?_
            refine xig (fun hz30 => ?_)
            refine Eq.trans (x25a (r := (a0 + 17)) (n := 6) (h := 68) hT rfl (kd_12_24 ha0) (ln_12_24 ha0) (by decide) rfl) ?_
            refine xig (fun hz31 => ?_)
            refine Eq.trans (x4 (ls' := [(2, ((a0 : Nat) : Int)), (0, a1), (0, a2), (0, (a3 + 1))]) (h := 69) hT rfl rfl rfl) ?_
            refine Eq.trans (x18 (h := 70) hT rfl) ?_
            exact rfl
set_option maxRecDepth 100000 in
theorem q_291_78 {P : zP} {d : zD P} {a0 : Nat} {a1 : Int} {a2 : Int} {a3 : Int} (ha0 : zkd a0 = 12) : zB P 291 78 [(2, ((a0 : Nat) : Int)), (0, a1), (0, a2), (0, a3)] [] d = (if wr a3 = 0 then (if wr a1 ≠ wr 5 then some (0, d) else ((MM P 131 [(2, ((a0 : Nat) : Int)), (0, a2)] d).bind fun q32 => some (0, q32.2))) else ((MM P 200 [(2, ((a0 : Nat) : Int)), (0, a2)] d).bind fun q33 => zB P 291 78 [(2, ((a0 : Nat) : Int)), (0, a1), (0, a2), (0, q33.1)] [] q33.2)) := by
  have hT := cT_291
  refine Eq.trans (x1 (h := 78) hT rfl rfl (by decide)) ?_
  refine Eq.trans (x16_0 (h := 79) hT rfl) ?_
  refine xit (fun _ => ?_) (fun _ => ?_)
  · refine Eq.trans (x1 (h := 85) hT rfl rfl (by decide)) ?_
    refine Eq.trans (x0 (h := 86) hT rfl) ?_
    refine Eq.trans (x17_1 (h := 87) hT rfl) ?_
    refine xit (fun _ => ?_) (fun _ => ?_)
    · exact x20 (h := 91) hT rfl
    · refine Eq.trans (x1 (h := 88) hT rfl rfl (by decide)) ?_
      refine Eq.trans (x1 (h := 89) hT rfl rfl (by decide)) ?_
      refine Eq.trans (x31 (r := a0) (cl := 12) (as := [(0, a2)]) (st' := []) (h := 90) hT rfl sm_131 rfl ha0) ?_
      refine xbd (fun q32 => ?_)
      rw [rv_131]
      change zB P 291 91 [(2, ((a0 : Nat) : Int)), (0, a1), (0, a2), (0, a3)] [] q32.2 = _
      exact x20 (h := 91) hT rfl
  · refine Eq.trans (x1 (h := 80) hT rfl rfl (by decide)) ?_
    refine Eq.trans (x1 (h := 81) hT rfl rfl (by decide)) ?_
    refine Eq.trans (x31 (r := a0) (cl := 12) (as := [(0, a2)]) (st' := []) (h := 82) hT rfl sm_200 rfl ha0) ?_
    refine xbd (fun q33 => ?_)
    rw [rv_200]
    change zB P 291 83 [(2, ((a0 : Nat) : Int)), (0, a1), (0, a2), (0, a3)] [(0, q33.1)] q33.2 = _
    refine Eq.trans (x2 (ls' := [(2, ((a0 : Nat) : Int)), (0, a1), (0, a2), (0, q33.1)]) (h := 83) hT rfl (Nat.le_of_ble_eq_true rfl) rfl) ?_
    refine Eq.trans (x18 (h := 84) hT rfl) ?_
    exact rfl
/-! WordLinksModel.goesRound(I)V -/
set_option maxRecDepth 100000 in
theorem e_292 {P : zP} {d : zD P} {a0 : Nat} {a1 : Int} (ha0 : zkd a0 = 12) : MM P 292 [(2, ((a0 : Nat) : Int)), (0, a1)] d = ((MM P 261 [(2, ((a0 : Nat) : Int)), (0, a1)] d).bind fun q1 => zB P 292 5 [(2, ((a0 : Nat) : Int)), (0, a1), (0, 0)] [] q1.2) := by
  have hT := cT_292
  refine Eq.trans (MM_def sm_292 (Nat.le_of_ble_eq_true rfl)) ?_
  change zB P 292 0 [(2, ((a0 : Nat) : Int)), (0, a1), (3, 0)] [] d = _
  refine Eq.trans (x1 (h := 0) hT rfl rfl (by decide)) ?_
  refine Eq.trans (x1 (h := 1) hT rfl rfl (by decide)) ?_
  refine Eq.trans (x31 (r := a0) (cl := 12) (as := [(0, a1)]) (st' := []) (h := 2) hT rfl sm_261 rfl ha0) ?_
  refine xbd (fun q1 => ?_)
  rw [rv_261]
  change zB P 292 3 [(2, ((a0 : Nat) : Int)), (0, a1), (3, 0)] [] q1.2 = _
  refine Eq.trans (x0 (h := 3) hT rfl) ?_
  refine Eq.trans (x2 (ls' := [(2, ((a0 : Nat) : Int)), (0, a1), (0, 0)]) (h := 4) hT rfl (Nat.le_of_ble_eq_true rfl) rfl) ?_
  exact rfl
set_option maxRecDepth 100000 in
theorem q_292_5 {P : zP} {d : zD P} {a0 : Nat} {a1 : Int} {a2 : Int} (ha0 : zkd a0 = 12) : zB P 292 5 [(2, ((a0 : Nat) : Int)), (0, a1), (0, a2)] [] d = ((MM P 81 [(2, ((a0 : Nat) : Int)), (0, a1)] d).bind fun q2 => (if wr q2.1 ≤ wr a2 then (if zin 3 18180 then (if wr ((q2.2.m ((a0 + 1)) (zix 3))) ≠ 0 then zB P 292 25 [(2, ((a0 : Nat) : Int)), (0, a1), (0, 0)] [] q2.2 else some (0, q2.2)) else none) else ((MM P 240 [(2, ((a0 : Nat) : Int)), (0, a1), (0, a2), (0, 0)] q2.2).bind fun q4 => zB P 292 5 [(2, ((a0 : Nat) : Int)), (0, a1), (0, (a2 + 1))] [] q4.2))) := by
  have hT := cT_292
  refine Eq.trans (x1 (h := 5) hT rfl rfl (by decide)) ?_
  refine Eq.trans (x1 (h := 6) hT rfl rfl (by decide)) ?_
  refine Eq.trans (x1 (h := 7) hT rfl rfl (by decide)) ?_
  refine Eq.trans (x31 (r := a0) (cl := 12) (as := [(0, a1)]) (st' := [(0, a2)]) (h := 8) hT rfl sm_81 rfl ha0) ?_
  refine xbd (fun q2 => ?_)
  rw [rv_81]
  change zB P 292 9 [(2, ((a0 : Nat) : Int)), (0, a1), (0, a2)] [(0, q2.1), (0, a2)] q2.2 = _
  refine Eq.trans (x17_3 (h := 9) hT rfl) ?_
  refine xit (fun _ => ?_) (fun _ => ?_)
  · refine Eq.trans (x1 (h := 17) hT rfl rfl (by decide)) ?_
    refine Eq.trans (x21r (r := a0) (cl := 12) (o := 1) (h := 18) hT rfl ha0 (by decide) rfl) ?_
    refine Eq.trans (x0 (h := 19) hT rfl) ?_
    refine Eq.trans (x24 (r := (a0 + 1)) (n := 18180) (h := 20) hT rfl (Or.inl (kd_12_0 ha0)) (ln_12_0 ha0)) ?_
    refine xig (fun hz3 => ?_)
    refine Eq.trans (x16_1 (h := 21) hT rfl) ?_
    refine xit (fun _ => ?_) (fun _ => ?_)
    · refine Eq.trans (x0 (h := 23) hT rfl) ?_
      refine Eq.trans (x2 (ls' := [(2, ((a0 : Nat) : Int)), (0, a1), (0, 0)]) (h := 24) hT rfl (Nat.le_of_ble_eq_true rfl) rfl) ?_
      exact rfl
    · exact x20 (h := 22) hT rfl
  · refine Eq.trans (x1 (h := 10) hT rfl rfl (by decide)) ?_
    refine Eq.trans (x1 (h := 11) hT rfl rfl (by decide)) ?_
    refine Eq.trans (x1 (h := 12) hT rfl rfl (by decide)) ?_
    refine Eq.trans (x0 (h := 13) hT rfl) ?_
    refine Eq.trans (x31 (r := a0) (cl := 12) (as := [(0, a1), (0, a2), (0, 0)]) (st' := []) (h := 14) hT rfl sm_240 rfl ha0) ?_
    refine xbd (fun q4 => ?_)
    rw [rv_240]
    change zB P 292 15 [(2, ((a0 : Nat) : Int)), (0, a1), (0, a2)] [] q4.2 = _
    refine Eq.trans (x4 (ls' := [(2, ((a0 : Nat) : Int)), (0, a1), (0, (a2 + 1))]) (h := 15) hT rfl rfl rfl) ?_
    refine Eq.trans (x18 (h := 16) hT rfl) ?_
    exact rfl
set_option maxRecDepth 100000 in
theorem q_292_25 {P : zP} {d : zD P} {a0 : Nat} {a1 : Int} {a2 : Int} (ha0 : zkd a0 = 12) : zB P 292 25 [(2, ((a0 : Nat) : Int)), (0, a1), (0, a2)] [] d = (if wr 8 ≤ wr a2 then ((MM P 67 [(2, ((a0 : Nat) : Int)), (0, 8)] d).bind fun q5 => zB P 292 44 [(2, ((a0 : Nat) : Int)), (0, a1), (0, 0)] [] q5.2) else (if zin a2 8 then (if zin a2 40 then zB P 292 25 [(2, ((a0 : Nat) : Int)), (0, a1), (0, (a2 + 1))] [] ((d.up ((a0 + 11)) (zix a2) ((wr ((d.m ((a0 + 16)) (zix a2))))))) else none) else none)) := by
  have hT := cT_292
  refine Eq.trans (x1 (h := 25) hT rfl rfl (by decide)) ?_
  refine Eq.trans (x0 (h := 26) hT rfl) ?_
  refine Eq.trans (x17_3 (h := 27) hT rfl) ?_
  refine xit (fun _ => ?_) (fun _ => ?_)
  · refine Eq.trans (x1 (h := 39) hT rfl rfl (by decide)) ?_
    refine Eq.trans (x0 (h := 40) hT rfl) ?_
    refine Eq.trans (x31 (r := a0) (cl := 12) (as := [(0, 8)]) (st' := []) (h := 41) hT rfl sm_67 rfl ha0) ?_
    refine xbd (fun q5 => ?_)
    rw [rv_67]
    change zB P 292 42 [(2, ((a0 : Nat) : Int)), (0, a1), (0, a2)] [] q5.2 = _
    refine Eq.trans (x0 (h := 42) hT rfl) ?_
    refine Eq.trans (x2 (ls' := [(2, ((a0 : Nat) : Int)), (0, a1), (0, 0)]) (h := 43) hT rfl (Nat.le_of_ble_eq_true rfl) rfl) ?_
    exact rfl
  · refine Eq.trans (x1 (h := 28) hT rfl rfl (by decide)) ?_
    refine Eq.trans (x21r (r := a0) (cl := 12) (o := 11) (h := 29) hT rfl ha0 (by decide) rfl) ?_
    refine Eq.trans (x1 (h := 30) hT rfl rfl (by decide)) ?_
    refine Eq.trans (x1 (h := 31) hT rfl rfl (by decide)) ?_
    refine Eq.trans (x21r (r := a0) (cl := 12) (o := 16) (h := 32) hT rfl ha0 (by decide) rfl) ?_
    refine Eq.trans (x1 (h := 33) hT rfl rfl (by decide)) ?_
    refine Eq.trans (x24 (r := (a0 + 16)) (n := 8) (h := 34) hT rfl (Or.inl (kd_12_23 ha0)) (ln_12_23 ha0)) ?_
    refine xig (fun hz6 => ?_)
    refine Eq.trans (x12 (h := 35) hT rfl) ?_
    refine Eq.trans (x25a (r := (a0 + 11)) (n := 40) (h := 36) hT rfl (kd_12_18 ha0) (ln_12_18 ha0) (by decide) rfl) ?_
    refine xig (fun hz7 => ?_)
    refine Eq.trans (x4 (ls' := [(2, ((a0 : Nat) : Int)), (0, a1), (0, (a2 + 1))]) (h := 37) hT rfl rfl rfl) ?_
    refine Eq.trans (x18 (h := 38) hT rfl) ?_
    exact rfl
set_option maxRecDepth 100000 in
theorem q_292_44 {P : zP} {d : zD P} {a0 : Nat} {a1 : Int} {a2 : Int} (ha0 : zkd a0 = 12) : zB P 292 44 [(2, ((a0 : Nat) : Int)), (0, a1), (0, a2)] [] d = (if wr 8 ≤ wr a2 then some (0, d) else (if zin a2 40 then (if zin (((8 + (8 * a1)) + a2)) 18180 then zB P 292 44 [(2, ((a0 : Nat) : Int)), (0, a1), (0, (a2 + 1))] [] ((d.up ((a0 + 1)) (zix (((8 + (8 * a1)) + a2))) ((d.m ((a0 + 13)) (zix a2))))) else none) else none)) := by
  have hT := cT_292
  refine Eq.trans (x1 (h := 44) hT rfl rfl (by decide)) ?_
  refine Eq.trans (x0 (h := 45) hT rfl) ?_
  refine Eq.trans (x17_3 (h := 46) hT rfl) ?_
  refine xit (fun _ => ?_) (fun _ => ?_)
  · exact x20 (h := 63) hT rfl
  · refine Eq.trans (x1 (h := 47) hT rfl rfl (by decide)) ?_
    refine Eq.trans (x21r (r := a0) (cl := 12) (o := 1) (h := 48) hT rfl ha0 (by decide) rfl) ?_
    refine Eq.trans (x0 (h := 49) hT rfl) ?_
    refine Eq.trans (x0 (h := 50) hT rfl) ?_
    refine Eq.trans (x1 (h := 51) hT rfl rfl (by decide)) ?_
    refine Eq.trans (x5_2 (h := 52) hT rfl) ?_
    refine Eq.trans (x5_0 (h := 53) hT rfl) ?_
    refine Eq.trans (x1 (h := 54) hT rfl rfl (by decide)) ?_
    refine Eq.trans (x5_0 (h := 55) hT rfl) ?_
    refine Eq.trans (x1 (h := 56) hT rfl rfl (by decide)) ?_
    refine Eq.trans (x21r (r := a0) (cl := 12) (o := 13) (h := 57) hT rfl ha0 (by decide) rfl) ?_
    refine Eq.trans (x1 (h := 58) hT rfl rfl (by decide)) ?_
    refine Eq.trans (x24 (r := (a0 + 13)) (n := 40) (h := 59) hT rfl (Or.inl (kd_12_20 ha0)) (ln_12_20 ha0)) ?_
    refine xig (fun hz8 => ?_)
    refine Eq.trans (x25a (r := (a0 + 1)) (n := 18180) (h := 60) hT rfl (kd_12_0 ha0) (ln_12_0 ha0) (by decide) rfl) ?_
    refine xig (fun hz9 => ?_)
    refine Eq.trans (x4 (ls' := [(2, ((a0 : Nat) : Int)), (0, a1), (0, (a2 + 1))]) (h := 61) hT rfl rfl rfl) ?_
    refine Eq.trans (x18 (h := 62) hT rfl) ?_
    exact rfl
/-! WordLinksModel.joinsPair(IIII)V -/
set_option maxRecDepth 100000 in
theorem e_293 {P : zP} {d : zD P} {a0 : Nat} {a1 : Int} {a2 : Int} {a3 : Int} {a4 : Int} (ha0 : zkd a0 = 12) : MM P 293 [(2, ((a0 : Nat) : Int)), (0, a1), (0, a2), (0, a3), (0, a4)] d = zB P 293 2 [(2, ((a0 : Nat) : Int)), (0, a1), (0, a2), (0, a3), (0, a4), (0, 0)] [] d := by
  have hT := cT_293
  refine Eq.trans (MM_def sm_293 (Nat.le_of_ble_eq_true rfl)) ?_
  change zB P 293 0 [(2, ((a0 : Nat) : Int)), (0, a1), (0, a2), (0, a3), (0, a4), (3, 0)] [] d = _
  refine Eq.trans (x0 (h := 0) hT rfl) ?_
  refine Eq.trans (x2 (ls' := [(2, ((a0 : Nat) : Int)), (0, a1), (0, a2), (0, a3), (0, a4), (0, 0)]) (h := 1) hT rfl (Nat.le_of_ble_eq_true rfl) rfl) ?_
  exact rfl
set_option maxRecDepth 100000 in
theorem q_293_2 {P : zP} {d : zD P} {a0 : Nat} {a1 : Int} {a2 : Int} {a3 : Int} {a4 : Int} {a5 : Int} (ha0 : zkd a0 = 12) : zB P 293 2 [(2, ((a0 : Nat) : Int)), (0, a1), (0, a2), (0, a3), (0, a4), (0, a5)] [] d = (if wr 20 ≤ wr a5 then ((MM P 262 [(2, ((a0 : Nat) : Int)), (0, 0), (0, a1), (0, a2)] d).bind fun q1 => ((MM P 262 [(2, ((a0 : Nat) : Int)), (0, 1), (0, (8 + a3)), (0, a4)] q1.2).bind fun q2 => (if zin 0 18180 then (if zin 0 18180 then some (0, (q2.2.up ((a0 + 1)) (zix 0) (((q2.2.m ((a0 + 1)) (zix 0)) + 1)))) else none) else none))) else (if zin 0 18180 then (if zin (((24 + (20 * (d.m ((a0 + 1)) (zix 0)))) + a5)) 18180 then zB P 293 2 [(2, ((a0 : Nat) : Int)), (0, a1), (0, a2), (0, a3), (0, a4), (0, (a5 + 1))] [] ((d.up ((a0 + 1)) (zix (((24 + (20 * (d.m ((a0 + 1)) (zix 0)))) + a5))) 0)) else none) else none)) := by
  have hT := cT_293
  refine Eq.trans (x1 (h := 2) hT rfl rfl (by decide)) ?_
  refine Eq.trans (x0 (h := 3) hT rfl) ?_
  refine Eq.trans (x17_3 (h := 4) hT rfl) ?_
  refine xit (fun _ => ?_) (fun _ => ?_)
  · refine Eq.trans (x1 (h := 21) hT rfl rfl (by decide)) ?_
    refine Eq.trans (x0 (h := 22) hT rfl) ?_
    refine Eq.trans (x1 (h := 23) hT rfl rfl (by decide)) ?_
    refine Eq.trans (x1 (h := 24) hT rfl rfl (by decide)) ?_
    refine Eq.trans (x31 (r := a0) (cl := 12) (as := [(0, 0), (0, a1), (0, a2)]) (st' := []) (h := 25) hT rfl sm_262 rfl ha0) ?_
    refine xbd (fun q1 => ?_)
    rw [rv_262]
    change zB P 293 26 [(2, ((a0 : Nat) : Int)), (0, a1), (0, a2), (0, a3), (0, a4), (0, a5)] [] q1.2 = _
    refine Eq.trans (x1 (h := 26) hT rfl rfl (by decide)) ?_
    refine Eq.trans (x0 (h := 27) hT rfl) ?_
    refine Eq.trans (x0 (h := 28) hT rfl) ?_
    refine Eq.trans (x1 (h := 29) hT rfl rfl (by decide)) ?_
    refine Eq.trans (x5_0 (h := 30) hT rfl) ?_
    refine Eq.trans (x1 (h := 31) hT rfl rfl (by decide)) ?_
    refine Eq.trans (x31 (r := a0) (cl := 12) (as := [(0, 1), (0, (8 + a3)), (0, a4)]) (st' := []) (h := 32) hT rfl sm_262 rfl ha0) ?_
    refine xbd (fun q2 => ?_)
    rw [rv_262]
    change zB P 293 33 [(2, ((a0 : Nat) : Int)), (0, a1), (0, a2), (0, a3), (0, a4), (0, a5)] [] q2.2 = _
    refine Eq.trans (x1 (h := 33) hT rfl rfl (by decide)) ?_
    refine Eq.trans (x21r (r := a0) (cl := 12) (o := 1) (h := 34) hT rfl ha0 (by decide) rfl) ?_
    refine Eq.trans (x0 (h := 35) hT rfl) ?_
    refine Eq.trans (x1 (h := 36) hT rfl rfl (by decide)) ?_
    refine Eq.trans (x21r (r := a0) (cl := 12) (o := 1) (h := 37) hT rfl ha0 (by decide) rfl) ?_
    refine Eq.trans (x0 (h := 38) hT rfl) ?_
    refine Eq.trans (x24 (r := (a0 + 1)) (n := 18180) (h := 39) hT rfl (Or.inl (kd_12_0 ha0)) (ln_12_0 ha0)) ?_
    refine xig (fun hz3 => ?_)
    refine Eq.trans (x0 (h := 40) hT rfl) ?_
    refine Eq.trans (x5_0 (h := 41) hT rfl) ?_
    refine Eq.trans (x25a (r := (a0 + 1)) (n := 18180) (h := 42) hT rfl (kd_12_0 ha0) (ln_12_0 ha0) (by decide) rfl) ?_
    refine xig (fun hz4 => ?_)
    exact x20 (h := 43) hT rfl
  · refine Eq.trans (x1 (h := 5) hT rfl rfl (by decide)) ?_
    refine Eq.trans (x21r (r := a0) (cl := 12) (o := 1) (h := 6) hT rfl ha0 (by decide) rfl) ?_
    refine Eq.trans (x0 (h := 7) hT rfl) ?_
    refine Eq.trans (x0 (h := 8) hT rfl) ?_
    refine Eq.trans (x1 (h := 9) hT rfl rfl (by decide)) ?_
    refine Eq.trans (x21r (r := a0) (cl := 12) (o := 1) (h := 10) hT rfl ha0 (by decide) rfl) ?_
    refine Eq.trans (x0 (h := 11) hT rfl) ?_
    refine Eq.trans (x24 (r := (a0 + 1)) (n := 18180) (h := 12) hT rfl (Or.inl (kd_12_0 ha0)) (ln_12_0 ha0)) ?_
    refine xig (fun hz5 => ?_)
    refine Eq.trans (x5_2 (h := 13) hT rfl) ?_
    refine Eq.trans (x5_0 (h := 14) hT rfl) ?_
    refine Eq.trans (x1 (h := 15) hT rfl rfl (by decide)) ?_
    refine Eq.trans (x5_0 (h := 16) hT rfl) ?_
    refine Eq.trans (x0 (h := 17) hT rfl) ?_
    refine Eq.trans (x25a (r := (a0 + 1)) (n := 18180) (h := 18) hT rfl (kd_12_0 ha0) (ln_12_0 ha0) (by decide) rfl) ?_
    refine xig (fun hz6 => ?_)
    refine Eq.trans (x4 (ls' := [(2, ((a0 : Nat) : Int)), (0, a1), (0, a2), (0, a3), (0, a4), (0, (a5 + 1))]) (h := 19) hT rfl rfl rfl) ?_
    refine Eq.trans (x18 (h := 20) hT rfl) ?_
    exact rfl
/-! WordLinksModel.readsPair(Z)Z -/
set_option maxRecDepth 100000 in
theorem e_294 {P : zP} {d : zD P} {a0 : Nat} {a1 : Int} (ha0 : zkd a0 = 12) : MM P 294 [(2, ((a0 : Nat) : Int)), (0, a1)] d = (if wr ((d.m a0 7)) ≠ wr 12 then zB P 294 18 [(2, ((a0 : Nat) : Int)), (0, a1), (0, 0)] [] ((d.up a0 7 (((d.m a0 7) + 1)))) else ((MM P 83 [(2, ((a0 : Nat) : Int)), (0, 4), (0, (d.m a0 4))] d).bind fun q1 => (if q1.1 = 0 ∨ q1.1 = 1 then some (q1.1, q1.2) else none))) := by
  have hT := cT_294
  refine Eq.trans (MM_def sm_294 (Nat.le_of_ble_eq_true rfl)) ?_
  change zB P 294 0 [(2, ((a0 : Nat) : Int)), (0, a1), (3, 0)] [] d = _
  refine Eq.trans (x1 (h := 0) hT rfl rfl (by decide)) ?_
  refine Eq.trans (x21 (r := a0) (cl := 12) (h := 1) hT rfl ha0) ?_
  refine Eq.trans (x0 (h := 2) hT rfl) ?_
  refine Eq.trans (x17_1 (h := 3) hT rfl) ?_
  refine xit (fun _ => ?_) (fun _ => ?_)
  · refine Eq.trans (x1 (h := 10) hT rfl rfl (by decide)) ?_
    refine Eq.trans (x1 (h := 11) hT rfl rfl (by decide)) ?_
    refine Eq.trans (x21 (r := a0) (cl := 12) (h := 12) hT rfl ha0) ?_
    refine Eq.trans (x0 (h := 13) hT rfl) ?_
    refine Eq.trans (x5_0 (h := 14) hT rfl) ?_
    refine Eq.trans (x22 (r := a0) (cl := 12) (h := 15) hT rfl ha0 (by decide) rfl (by decide)) ?_
    refine Eq.trans (x0 (h := 16) hT rfl) ?_
    refine Eq.trans (x2 (ls' := [(2, ((a0 : Nat) : Int)), (0, a1), (0, 0)]) (h := 17) hT rfl (Nat.le_of_ble_eq_true rfl) rfl) ?_
    exact rfl
  · refine Eq.trans (x1 (h := 4) hT rfl rfl (by decide)) ?_
    refine Eq.trans (x0 (h := 5) hT rfl) ?_
    refine Eq.trans (x1 (h := 6) hT rfl rfl (by decide)) ?_
    refine Eq.trans (x21 (r := a0) (cl := 12) (h := 7) hT rfl ha0) ?_
    refine Eq.trans (x31 (r := a0) (cl := 12) (as := [(0, 4), (0, (d.m a0 4))]) (st' := []) (h := 8) hT rfl sm_83 rfl ha0) ?_
    refine xbd (fun q1 => ?_)
    rw [rv_83]
    change zB P 294 9 [(2, ((a0 : Nat) : Int)), (0, a1), (3, 0)] [(0, q1.1)] q1.2 = _
    exact x203 (h := 9) hT rfl
set_option maxRecDepth 100000 in
theorem q_294_18 {P : zP} {d : zD P} {a0 : Nat} {a1 : Int} {a2 : Int} (ha0 : zkd a0 = 12) : zB P 294 18 [(2, ((a0 : Nat) : Int)), (0, a1), (0, a2)] [] d = (if wr 20 ≤ wr a2 then ((MM P 267 [(2, ((a0 : Nat) : Int)), (0, 0), (0, a1)] d).bind fun q2 => (if wr q2.1 = 0 then (if wr 0 = 0 then some (0, q2.2) else (if wr a1 = 0 then some (0, q2.2) else (if zin 0 18180 then (if zin 0 18180 then some (0, (q2.2.up ((a0 + 1)) (zix 0) (((q2.2.m ((a0 + 1)) (zix 0)) + 1)))) else none) else none))) else ((MM P 161 [(2, ((a0 : Nat) : Int)), (0, 61)] q2.2).bind fun q5 => (if wr q5.1 = 0 then (if wr 0 = 0 then some (0, q5.2) else (if wr a1 = 0 then some (0, q5.2) else (if zin 0 18180 then (if zin 0 18180 then some (0, (q5.2.up ((a0 + 1)) (zix 0) (((q5.2.m ((a0 + 1)) (zix 0)) + 1)))) else none) else none))) else ((MM P 267 [(2, ((a0 : Nat) : Int)), (0, 1), (0, a1)] q5.2).bind fun q8 => (if wr q8.1 = 0 then (if wr 0 = 0 then some (0, q8.2) else (if wr a1 = 0 then some (0, q8.2) else (if zin 0 18180 then (if zin 0 18180 then some (0, (q8.2.up ((a0 + 1)) (zix 0) (((q8.2.m ((a0 + 1)) (zix 0)) + 1)))) else none) else none))) else (if wr 1 = 0 then some (1, q8.2) else (if wr a1 = 0 then some (1, q8.2) else (if zin 0 18180 then (if zin 0 18180 then some (1, (q8.2.up ((a0 + 1)) (zix 0) (((q8.2.m ((a0 + 1)) (zix 0)) + 1)))) else none) else none))))))))) else (if wr a1 = 0 then ((MM P 267 [(2, ((a0 : Nat) : Int)), (0, 0), (0, a1)] d).bind fun q13 => (if wr q13.1 = 0 then (if wr 0 = 0 then some (0, q13.2) else (if wr a1 = 0 then some (0, q13.2) else (if zin 0 18180 then (if zin 0 18180 then some (0, (q13.2.up ((a0 + 1)) (zix 0) (((q13.2.m ((a0 + 1)) (zix 0)) + 1)))) else none) else none))) else ((MM P 161 [(2, ((a0 : Nat) : Int)), (0, 61)] q13.2).bind fun q16 => (if wr q16.1 = 0 then (if wr 0 = 0 then some (0, q16.2) else (if wr a1 = 0 then some (0, q16.2) else (if zin 0 18180 then (if zin 0 18180 then some (0, (q16.2.up ((a0 + 1)) (zix 0) (((q16.2.m ((a0 + 1)) (zix 0)) + 1)))) else none) else none))) else ((MM P 267 [(2, ((a0 : Nat) : Int)), (0, 1), (0, a1)] q16.2).bind fun q19 => (if wr q19.1 = 0 then (if wr 0 = 0 then some (0, q19.2) else (if wr a1 = 0 then some (0, q19.2) else (if zin 0 18180 then (if zin 0 18180 then some (0, (q19.2.up ((a0 + 1)) (zix 0) (((q19.2.m ((a0 + 1)) (zix 0)) + 1)))) else none) else none))) else (if wr 1 = 0 then some (1, q19.2) else (if wr a1 = 0 then some (1, q19.2) else (if zin 0 18180 then (if zin 0 18180 then some (1, (q19.2.up ((a0 + 1)) (zix 0) (((q19.2.m ((a0 + 1)) (zix 0)) + 1)))) else none) else none))))))))) else (if zin 0 18180 then (if zin (((24 + (20 * (d.m ((a0 + 1)) (zix 0)))) + a2)) 18180 then zB P 294 18 [(2, ((a0 : Nat) : Int)), (0, a1), (0, (a2 + 1))] [] ((d.up ((a0 + 1)) (zix (((24 + (20 * (d.m ((a0 + 1)) (zix 0)))) + a2))) 0)) else none) else none))) := by
  have hT := cT_294
  refine Eq.trans (x1 (h := 18) hT rfl rfl (by decide)) ?_
  refine Eq.trans (x0 (h := 19) hT rfl) ?_
  refine Eq.trans (x17_3 (h := 20) hT rfl) ?_
  refine xit (fun _ => ?_) (fun _ => ?_)
  · refine Eq.trans (x1 (h := 39) hT rfl rfl (by decide)) ?_
    refine Eq.trans (x0 (h := 40) hT rfl) ?_
    refine Eq.trans (x1 (h := 41) hT rfl rfl (by decide)) ?_
    refine Eq.trans (x31 (r := a0) (cl := 12) (as := [(0, 0), (0, a1)]) (st' := []) (h := 42) hT rfl sm_267 rfl ha0) ?_
    refine xbd (fun q2 => ?_)
    rw [rv_267]
    change zB P 294 43 [(2, ((a0 : Nat) : Int)), (0, a1), (0, a2)] [(0, q2.1)] q2.2 = _
    refine Eq.trans (x16_0 (h := 43) hT rfl) ?_
    refine xit (fun _ => ?_) (fun _ => ?_)
    · refine Eq.trans (x0 (h := 55) hT rfl) ?_
      refine Eq.trans (x2 (ls' := [(2, ((a0 : Nat) : Int)), (0, a1), (0, 0)]) (h := 56) hT rfl (Nat.le_of_ble_eq_true rfl) rfl) ?_
      refine Eq.trans (x1 (h := 57) hT rfl rfl (by decide)) ?_
      refine Eq.trans (x16_0 (h := 58) hT rfl) ?_
      refine xit (fun _ => ?_) (fun _ => ?_)
      · refine Eq.trans (x1 (h := 71) hT rfl rfl (by decide)) ?_
        exact x203c (h := 72) hT rfl (by decide)
      · refine Eq.trans (x1 (h := 59) hT rfl rfl (by decide)) ?_
        refine Eq.trans (x16_0 (h := 60) hT rfl) ?_
        refine xit (fun _ => ?_) (fun _ => ?_)
        · refine Eq.trans (x1 (h := 71) hT rfl rfl (by decide)) ?_
          exact x203c (h := 72) hT rfl (by decide)
        · refine Eq.trans (x1 (h := 61) hT rfl rfl (by decide)) ?_
          refine Eq.trans (x21r (r := a0) (cl := 12) (o := 1) (h := 62) hT rfl ha0 (by decide) rfl) ?_
          refine Eq.trans (x0 (h := 63) hT rfl) ?_
          refine Eq.trans (x1 (h := 64) hT rfl rfl (by decide)) ?_
          refine Eq.trans (x21r (r := a0) (cl := 12) (o := 1) (h := 65) hT rfl ha0 (by decide) rfl) ?_
          refine Eq.trans (x0 (h := 66) hT rfl) ?_
          refine Eq.trans (x24 (r := (a0 + 1)) (n := 18180) (h := 67) hT rfl (Or.inl (kd_12_0 ha0)) (ln_12_0 ha0)) ?_
          refine xig (fun hz3 => ?_)
          refine Eq.trans (x0 (h := 68) hT rfl) ?_
          refine Eq.trans (x5_0 (h := 69) hT rfl) ?_
          refine Eq.trans (x25a (r := (a0 + 1)) (n := 18180) (h := 70) hT rfl (kd_12_0 ha0) (ln_12_0 ha0) (by decide) rfl) ?_
          refine xig (fun hz4 => ?_)
          refine Eq.trans (x1 (h := 71) hT rfl rfl (by decide)) ?_
          exact x203c (h := 72) hT rfl (by decide)
    · refine Eq.trans (x1 (h := 44) hT rfl rfl (by decide)) ?_
      refine Eq.trans (x0 (h := 45) hT rfl) ?_
      refine Eq.trans (x31 (r := a0) (cl := 12) (as := [(0, 61)]) (st' := []) (h := 46) hT rfl sm_161 rfl ha0) ?_
      refine xbd (fun q5 => ?_)
      rw [rv_161]
      change zB P 294 47 [(2, ((a0 : Nat) : Int)), (0, a1), (0, a2)] [(0, q5.1)] q5.2 = _
      refine Eq.trans (x16_0 (h := 47) hT rfl) ?_
      refine xit (fun _ => ?_) (fun _ => ?_)
      · refine Eq.trans (x0 (h := 55) hT rfl) ?_
        refine Eq.trans (x2 (ls' := [(2, ((a0 : Nat) : Int)), (0, a1), (0, 0)]) (h := 56) hT rfl (Nat.le_of_ble_eq_true rfl) rfl) ?_
        refine Eq.trans (x1 (h := 57) hT rfl rfl (by decide)) ?_
        refine Eq.trans (x16_0 (h := 58) hT rfl) ?_
        refine xit (fun _ => ?_) (fun _ => ?_)
        · refine Eq.trans (x1 (h := 71) hT rfl rfl (by decide)) ?_
          exact x203c (h := 72) hT rfl (by decide)
        · refine Eq.trans (x1 (h := 59) hT rfl rfl (by decide)) ?_
          refine Eq.trans (x16_0 (h := 60) hT rfl) ?_
          refine xit (fun _ => ?_) (fun _ => ?_)
          · refine Eq.trans (x1 (h := 71) hT rfl rfl (by decide)) ?_
            exact x203c (h := 72) hT rfl (by decide)
          · refine Eq.trans (x1 (h := 61) hT rfl rfl (by decide)) ?_
            refine Eq.trans (x21r (r := a0) (cl := 12) (o := 1) (h := 62) hT rfl ha0 (by decide) rfl) ?_
            refine Eq.trans (x0 (h := 63) hT rfl) ?_
            refine Eq.trans (x1 (h := 64) hT rfl rfl (by decide)) ?_
            refine Eq.trans (x21r (r := a0) (cl := 12) (o := 1) (h := 65) hT rfl ha0 (by decide) rfl) ?_
            refine Eq.trans (x0 (h := 66) hT rfl) ?_
            refine Eq.trans (x24 (r := (a0 + 1)) (n := 18180) (h := 67) hT rfl (Or.inl (kd_12_0 ha0)) (ln_12_0 ha0)) ?_
            refine xig (fun hz6 => ?_)
            refine Eq.trans (x0 (h := 68) hT rfl) ?_
            refine Eq.trans (x5_0 (h := 69) hT rfl) ?_
            refine Eq.trans (x25a (r := (a0 + 1)) (n := 18180) (h := 70) hT rfl (kd_12_0 ha0) (ln_12_0 ha0) (by decide) rfl) ?_
            refine xig (fun hz7 => ?_)
            refine Eq.trans (x1 (h := 71) hT rfl rfl (by decide)) ?_
            exact x203c (h := 72) hT rfl (by decide)
      · refine Eq.trans (x1 (h := 48) hT rfl rfl (by decide)) ?_
        refine Eq.trans (x0 (h := 49) hT rfl) ?_
        refine Eq.trans (x1 (h := 50) hT rfl rfl (by decide)) ?_
        refine Eq.trans (x31 (r := a0) (cl := 12) (as := [(0, 1), (0, a1)]) (st' := []) (h := 51) hT rfl sm_267 rfl ha0) ?_
        refine xbd (fun q8 => ?_)
        rw [rv_267]
        change zB P 294 52 [(2, ((a0 : Nat) : Int)), (0, a1), (0, a2)] [(0, q8.1)] q8.2 = _
        refine Eq.trans (x16_0 (h := 52) hT rfl) ?_
        refine xit (fun _ => ?_) (fun _ => ?_)
        · refine Eq.trans (x0 (h := 55) hT rfl) ?_
          refine Eq.trans (x2 (ls' := [(2, ((a0 : Nat) : Int)), (0, a1), (0, 0)]) (h := 56) hT rfl (Nat.le_of_ble_eq_true rfl) rfl) ?_
          refine Eq.trans (x1 (h := 57) hT rfl rfl (by decide)) ?_
          refine Eq.trans (x16_0 (h := 58) hT rfl) ?_
          refine xit (fun _ => ?_) (fun _ => ?_)
          · refine Eq.trans (x1 (h := 71) hT rfl rfl (by decide)) ?_
            exact x203c (h := 72) hT rfl (by decide)
          · refine Eq.trans (x1 (h := 59) hT rfl rfl (by decide)) ?_
            refine Eq.trans (x16_0 (h := 60) hT rfl) ?_
            refine xit (fun _ => ?_) (fun _ => ?_)
            · refine Eq.trans (x1 (h := 71) hT rfl rfl (by decide)) ?_
              exact x203c (h := 72) hT rfl (by decide)
            · refine Eq.trans (x1 (h := 61) hT rfl rfl (by decide)) ?_
              refine Eq.trans (x21r (r := a0) (cl := 12) (o := 1) (h := 62) hT rfl ha0 (by decide) rfl) ?_
              refine Eq.trans (x0 (h := 63) hT rfl) ?_
              refine Eq.trans (x1 (h := 64) hT rfl rfl (by decide)) ?_
              refine Eq.trans (x21r (r := a0) (cl := 12) (o := 1) (h := 65) hT rfl ha0 (by decide) rfl) ?_
              refine Eq.trans (x0 (h := 66) hT rfl) ?_
              refine Eq.trans (x24 (r := (a0 + 1)) (n := 18180) (h := 67) hT rfl (Or.inl (kd_12_0 ha0)) (ln_12_0 ha0)) ?_
              refine xig (fun hz9 => ?_)
              refine Eq.trans (x0 (h := 68) hT rfl) ?_
              refine Eq.trans (x5_0 (h := 69) hT rfl) ?_
              refine Eq.trans (x25a (r := (a0 + 1)) (n := 18180) (h := 70) hT rfl (kd_12_0 ha0) (ln_12_0 ha0) (by decide) rfl) ?_
              refine xig (fun hz10 => ?_)
              refine Eq.trans (x1 (h := 71) hT rfl rfl (by decide)) ?_
              exact x203c (h := 72) hT rfl (by decide)
        · refine Eq.trans (x0 (h := 53) hT rfl) ?_
          refine Eq.trans (x18 (h := 54) hT rfl) ?_
          refine Eq.trans (x2 (ls' := [(2, ((a0 : Nat) : Int)), (0, a1), (0, 1)]) (h := 56) hT rfl (Nat.le_of_ble_eq_true rfl) rfl) ?_
          refine Eq.trans (x1 (h := 57) hT rfl rfl (by decide)) ?_
          refine Eq.trans (x16_0 (h := 58) hT rfl) ?_
          refine xit (fun _ => ?_) (fun _ => ?_)
          · refine Eq.trans (x1 (h := 71) hT rfl rfl (by decide)) ?_
            exact x203c (h := 72) hT rfl (by decide)
          · refine Eq.trans (x1 (h := 59) hT rfl rfl (by decide)) ?_
            refine Eq.trans (x16_0 (h := 60) hT rfl) ?_
            refine xit (fun _ => ?_) (fun _ => ?_)
            · refine Eq.trans (x1 (h := 71) hT rfl rfl (by decide)) ?_
              exact x203c (h := 72) hT rfl (by decide)
            · refine Eq.trans (x1 (h := 61) hT rfl rfl (by decide)) ?_
              refine Eq.trans (x21r (r := a0) (cl := 12) (o := 1) (h := 62) hT rfl ha0 (by decide) rfl) ?_
              refine Eq.trans (x0 (h := 63) hT rfl) ?_
              refine Eq.trans (x1 (h := 64) hT rfl rfl (by decide)) ?_
              refine Eq.trans (x21r (r := a0) (cl := 12) (o := 1) (h := 65) hT rfl ha0 (by decide) rfl) ?_
              refine Eq.trans (x0 (h := 66) hT rfl) ?_
              refine Eq.trans (x24 (r := (a0 + 1)) (n := 18180) (h := 67) hT rfl (Or.inl (kd_12_0 ha0)) (ln_12_0 ha0)) ?_
              refine xig (fun hz11 => ?_)
              refine Eq.trans (x0 (h := 68) hT rfl) ?_
              refine Eq.trans (x5_0 (h := 69) hT rfl) ?_
              refine Eq.trans (x25a (r := (a0 + 1)) (n := 18180) (h := 70) hT rfl (kd_12_0 ha0) (ln_12_0 ha0) (by decide) rfl) ?_
              refine xig (fun hz12 => ?_)
              refine Eq.trans (x1 (h := 71) hT rfl rfl (by decide)) ?_
              exact x203c (h := 72) hT rfl (by decide)
  · refine Eq.trans (x1 (h := 21) hT rfl rfl (by decide)) ?_
    refine Eq.trans (x16_0 (h := 22) hT rfl) ?_
    refine xit (fun _ => ?_) (fun _ => ?_)
    · refine Eq.trans (x1 (h := 39) hT rfl rfl (by decide)) ?_
      refine Eq.trans (x0 (h := 40) hT rfl) ?_
      refine Eq.trans (x1 (h := 41) hT rfl rfl (by decide)) ?_
      refine Eq.trans (x31 (r := a0) (cl := 12) (as := [(0, 0), (0, a1)]) (st' := []) (h := 42) hT rfl sm_267 rfl ha0) ?_
      refine xbd (fun q13 => ?_)
      rw [rv_267]
      change zB P 294 43 [(2, ((a0 : Nat) : Int)), (0, a1), (0, a2)] [(0, q13.1)] q13.2 = _
      refine Eq.trans (x16_0 (h := 43) hT rfl) ?_
      refine xit (fun _ => ?_) (fun _ => ?_)
      · refine Eq.trans (x0 (h := 55) hT rfl) ?_
        refine Eq.trans (x2 (ls' := [(2, ((a0 : Nat) : Int)), (0, a1), (0, 0)]) (h := 56) hT rfl (Nat.le_of_ble_eq_true rfl) rfl) ?_
        refine Eq.trans (x1 (h := 57) hT rfl rfl (by decide)) ?_
        refine Eq.trans (x16_0 (h := 58) hT rfl) ?_
        refine xit (fun _ => ?_) (fun _ => ?_)
        · refine Eq.trans (x1 (h := 71) hT rfl rfl (by decide)) ?_
          exact x203c (h := 72) hT rfl (by decide)
        · refine Eq.trans (x1 (h := 59) hT rfl rfl (by decide)) ?_
          refine Eq.trans (x16_0 (h := 60) hT rfl) ?_
          refine xit (fun _ => ?_) (fun _ => ?_)
          · refine Eq.trans (x1 (h := 71) hT rfl rfl (by decide)) ?_
            exact x203c (h := 72) hT rfl (by decide)
          · refine Eq.trans (x1 (h := 61) hT rfl rfl (by decide)) ?_
            refine Eq.trans (x21r (r := a0) (cl := 12) (o := 1) (h := 62) hT rfl ha0 (by decide) rfl) ?_
            refine Eq.trans (x0 (h := 63) hT rfl) ?_
            refine Eq.trans (x1 (h := 64) hT rfl rfl (by decide)) ?_
            refine Eq.trans (x21r (r := a0) (cl := 12) (o := 1) (h := 65) hT rfl ha0 (by decide) rfl) ?_
            refine Eq.trans (x0 (h := 66) hT rfl) ?_
            refine Eq.trans (x24 (r := (a0 + 1)) (n := 18180) (h := 67) hT rfl (Or.inl (kd_12_0 ha0)) (ln_12_0 ha0)) ?_
            refine xig (fun hz14 => ?_)
            refine Eq.trans (x0 (h := 68) hT rfl) ?_
            refine Eq.trans (x5_0 (h := 69) hT rfl) ?_
            refine Eq.trans (x25a (r := (a0 + 1)) (n := 18180) (h := 70) hT rfl (kd_12_0 ha0) (ln_12_0 ha0) (by decide) rfl) ?_
            refine xig (fun hz15 => ?_)
            refine Eq.trans (x1 (h := 71) hT rfl rfl (by decide)) ?_
            exact x203c (h := 72) hT rfl (by decide)
      · refine Eq.trans (x1 (h := 44) hT rfl rfl (by decide)) ?_
        refine Eq.trans (x0 (h := 45) hT rfl) ?_
        refine Eq.trans (x31 (r := a0) (cl := 12) (as := [(0, 61)]) (st' := []) (h := 46) hT rfl sm_161 rfl ha0) ?_
        refine xbd (fun q16 => ?_)
        rw [rv_161]
        change zB P 294 47 [(2, ((a0 : Nat) : Int)), (0, a1), (0, a2)] [(0, q16.1)] q16.2 = _
        refine Eq.trans (x16_0 (h := 47) hT rfl) ?_
        refine xit (fun _ => ?_) (fun _ => ?_)
        · refine Eq.trans (x0 (h := 55) hT rfl) ?_
          refine Eq.trans (x2 (ls' := [(2, ((a0 : Nat) : Int)), (0, a1), (0, 0)]) (h := 56) hT rfl (Nat.le_of_ble_eq_true rfl) rfl) ?_
          refine Eq.trans (x1 (h := 57) hT rfl rfl (by decide)) ?_
          refine Eq.trans (x16_0 (h := 58) hT rfl) ?_
          refine xit (fun _ => ?_) (fun _ => ?_)
          · refine Eq.trans (x1 (h := 71) hT rfl rfl (by decide)) ?_
            exact x203c (h := 72) hT rfl (by decide)
          · refine Eq.trans (x1 (h := 59) hT rfl rfl (by decide)) ?_
            refine Eq.trans (x16_0 (h := 60) hT rfl) ?_
            refine xit (fun _ => ?_) (fun _ => ?_)
            · refine Eq.trans (x1 (h := 71) hT rfl rfl (by decide)) ?_
              exact x203c (h := 72) hT rfl (by decide)
            · refine Eq.trans (x1 (h := 61) hT rfl rfl (by decide)) ?_
              refine Eq.trans (x21r (r := a0) (cl := 12) (o := 1) (h := 62) hT rfl ha0 (by decide) rfl) ?_
              refine Eq.trans (x0 (h := 63) hT rfl) ?_
              refine Eq.trans (x1 (h := 64) hT rfl rfl (by decide)) ?_
              refine Eq.trans (x21r (r := a0) (cl := 12) (o := 1) (h := 65) hT rfl ha0 (by decide) rfl) ?_
              refine Eq.trans (x0 (h := 66) hT rfl) ?_
              refine Eq.trans (x24 (r := (a0 + 1)) (n := 18180) (h := 67) hT rfl (Or.inl (kd_12_0 ha0)) (ln_12_0 ha0)) ?_
              refine xig (fun hz17 => ?_)
              refine Eq.trans (x0 (h := 68) hT rfl) ?_
              refine Eq.trans (x5_0 (h := 69) hT rfl) ?_
              refine Eq.trans (x25a (r := (a0 + 1)) (n := 18180) (h := 70) hT rfl (kd_12_0 ha0) (ln_12_0 ha0) (by decide) rfl) ?_
              refine xig (fun hz18 => ?_)
              refine Eq.trans (x1 (h := 71) hT rfl rfl (by decide)) ?_
              exact x203c (h := 72) hT rfl (by decide)
        · refine Eq.trans (x1 (h := 48) hT rfl rfl (by decide)) ?_
          refine Eq.trans (x0 (h := 49) hT rfl) ?_
          refine Eq.trans (x1 (h := 50) hT rfl rfl (by decide)) ?_
          refine Eq.trans (x31 (r := a0) (cl := 12) (as := [(0, 1), (0, a1)]) (st' := []) (h := 51) hT rfl sm_267 rfl ha0) ?_
          refine xbd (fun q19 => ?_)
          rw [rv_267]
          change zB P 294 52 [(2, ((a0 : Nat) : Int)), (0, a1), (0, a2)] [(0, q19.1)] q19.2 = _
          refine Eq.trans (x16_0 (h := 52) hT rfl) ?_
          refine xit (fun _ => ?_) (fun _ => ?_)
          · refine Eq.trans (x0 (h := 55) hT rfl) ?_
            refine Eq.trans (x2 (ls' := [(2, ((a0 : Nat) : Int)), (0, a1), (0, 0)]) (h := 56) hT rfl (Nat.le_of_ble_eq_true rfl) rfl) ?_
            refine Eq.trans (x1 (h := 57) hT rfl rfl (by decide)) ?_
            refine Eq.trans (x16_0 (h := 58) hT rfl) ?_
            refine xit (fun _ => ?_) (fun _ => ?_)
            · refine Eq.trans (x1 (h := 71) hT rfl rfl (by decide)) ?_
              exact x203c (h := 72) hT rfl (by decide)
            · refine Eq.trans (x1 (h := 59) hT rfl rfl (by decide)) ?_
              refine Eq.trans (x16_0 (h := 60) hT rfl) ?_
              refine xit (fun _ => ?_) (fun _ => ?_)
              · refine Eq.trans (x1 (h := 71) hT rfl rfl (by decide)) ?_
                exact x203c (h := 72) hT rfl (by decide)
              · refine Eq.trans (x1 (h := 61) hT rfl rfl (by decide)) ?_
                refine Eq.trans (x21r (r := a0) (cl := 12) (o := 1) (h := 62) hT rfl ha0 (by decide) rfl) ?_
                refine Eq.trans (x0 (h := 63) hT rfl) ?_
                refine Eq.trans (x1 (h := 64) hT rfl rfl (by decide)) ?_
                refine Eq.trans (x21r (r := a0) (cl := 12) (o := 1) (h := 65) hT rfl ha0 (by decide) rfl) ?_
                refine Eq.trans (x0 (h := 66) hT rfl) ?_
                refine Eq.trans (x24 (r := (a0 + 1)) (n := 18180) (h := 67) hT rfl (Or.inl (kd_12_0 ha0)) (ln_12_0 ha0)) ?_
                refine xig (fun hz20 => ?_)
                refine Eq.trans (x0 (h := 68) hT rfl) ?_
                refine Eq.trans (x5_0 (h := 69) hT rfl) ?_
                refine Eq.trans (x25a (r := (a0 + 1)) (n := 18180) (h := 70) hT rfl (kd_12_0 ha0) (ln_12_0 ha0) (by decide) rfl) ?_
                refine xig (fun hz21 => ?_)
                refine Eq.trans (x1 (h := 71) hT rfl rfl (by decide)) ?_
                exact x203c (h := 72) hT rfl (by decide)
          · refine Eq.trans (x0 (h := 53) hT rfl) ?_
            refine Eq.trans (x18 (h := 54) hT rfl) ?_
            refine Eq.trans (x2 (ls' := [(2, ((a0 : Nat) : Int)), (0, a1), (0, 1)]) (h := 56) hT rfl (Nat.le_of_ble_eq_true rfl) rfl) ?_
            refine Eq.trans (x1 (h := 57) hT rfl rfl (by decide)) ?_
            refine Eq.trans (x16_0 (h := 58) hT rfl) ?_
            refine xit (fun _ => ?_) (fun _ => ?_)
            · refine Eq.trans (x1 (h := 71) hT rfl rfl (by decide)) ?_
              exact x203c (h := 72) hT rfl (by decide)
            · refine Eq.trans (x1 (h := 59) hT rfl rfl (by decide)) ?_
              refine Eq.trans (x16_0 (h := 60) hT rfl) ?_
              refine xit (fun _ => ?_) (fun _ => ?_)
              · refine Eq.trans (x1 (h := 71) hT rfl rfl (by decide)) ?_
                exact x203c (h := 72) hT rfl (by decide)
              · refine Eq.trans (x1 (h := 61) hT rfl rfl (by decide)) ?_
                refine Eq.trans (x21r (r := a0) (cl := 12) (o := 1) (h := 62) hT rfl ha0 (by decide) rfl) ?_
                refine Eq.trans (x0 (h := 63) hT rfl) ?_
                refine Eq.trans (x1 (h := 64) hT rfl rfl (by decide)) ?_
                refine Eq.trans (x21r (r := a0) (cl := 12) (o := 1) (h := 65) hT rfl ha0 (by decide) rfl) ?_
                refine Eq.trans (x0 (h := 66) hT rfl) ?_
                refine Eq.trans (x24 (r := (a0 + 1)) (n := 18180) (h := 67) hT rfl (Or.inl (kd_12_0 ha0)) (ln_12_0 ha0)) ?_
                refine xig (fun hz22 => ?_)
                refine Eq.trans (x0 (h := 68) hT rfl) ?_
                refine Eq.trans (x5_0 (h := 69) hT rfl) ?_
                refine Eq.trans (x25a (r := (a0 + 1)) (n := 18180) (h := 70) hT rfl (kd_12_0 ha0) (ln_12_0 ha0) (by decide) rfl) ?_
                refine xig (fun hz23 => ?_)
                refine Eq.trans (x1 (h := 71) hT rfl rfl (by decide)) ?_
                exact x203c (h := 72) hT rfl (by decide)
    · refine Eq.trans (x1 (h := 23) hT rfl rfl (by decide)) ?_
      refine Eq.trans (x21r (r := a0) (cl := 12) (o := 1) (h := 24) hT rfl ha0 (by decide) rfl) ?_
      refine Eq.trans (x0 (h := 25) hT rfl) ?_
      refine Eq.trans (x0 (h := 26) hT rfl) ?_
      refine Eq.trans (x1 (h := 27) hT rfl rfl (by decide)) ?_
      refine Eq.trans (x21r (r := a0) (cl := 12) (o := 1) (h := 28) hT rfl ha0 (by decide) rfl) ?_
      refine Eq.trans (x0 (h := 29) hT rfl) ?_
      refine Eq.trans (x24 (r := (a0 + 1)) (n := 18180) (h := 30) hT rfl (Or.inl (kd_12_0 ha0)) (ln_12_0 ha0)) ?_
      refine xig (fun hz24 => ?_)
      refine Eq.trans (x5_2 (h := 31) hT rfl) ?_
      refine Eq.trans (x5_0 (h := 32) hT rfl) ?_
      refine Eq.trans (x1 (h := 33) hT rfl rfl (by decide)) ?_
      refine Eq.trans (x5_0 (h := 34) hT rfl) ?_
      refine Eq.trans (x0 (h := 35) hT rfl) ?_
      refine Eq.trans (x25a (r := (a0 + 1)) (n := 18180) (h := 36) hT rfl (kd_12_0 ha0) (ln_12_0 ha0) (by decide) rfl) ?_
      refine xig (fun hz25 => ?_)
      refine Eq.trans (x4 (ls' := [(2, ((a0 : Nat) : Int)), (0, a1), (0, (a2 + 1))]) (h := 37) hT rfl rfl rfl) ?_
      refine Eq.trans (x18 (h := 38) hT rfl) ?_
      exact rfl
/-! WordLinksModel.readsSheetSentence(I)Z -/
set_option maxRecDepth 100000 in
theorem e_295 {P : zP} {d : zD P} {a0 : Nat} {a1 : Int} (ha0 : zkd a0 = 12) : MM P 295 [(2, ((a0 : Nat) : Int)), (0, a1)] d = (if zin a1 2 then (if zin a1 2 then (if wr ((d.m ((a0 + 8)) (zix a1))) ≠ wr 8 then (if zin (((8 * a1) + (d.m ((a0 + 8)) (zix a1)))) 16 then ((MM P 267 [(2, ((a0 : Nat) : Int)), (0, a1), (0, 0)] ((d.up ((a0 + 4)) (zix (((8 * a1) + (d.m ((a0 + 8)) (zix a1))))) ((d.m a0 4))))).bind fun q4 => (if wr q4.1 ≠ 0 then (if zin (((8 * a1) + (d.m ((a0 + 8)) (zix a1)))) 16 then (if zin a1 2 then (if zin a1 2 then some (1, (((q4.2.up ((a0 + 5)) (zix (((8 * a1) + (d.m ((a0 + 8)) (zix a1))))) ((q4.2.m a0 4)))).up ((a0 + 8)) (zix a1) (((((q4.2.up ((a0 + 5)) (zix (((8 * a1) + (d.m ((a0 + 8)) (zix a1))))) ((q4.2.m a0 4)))).m ((a0 + 8)) (zix a1)) + 1)))) else none) else none) else none) else some (0, q4.2))) else none) else ((MM P 83 [(2, ((a0 : Nat) : Int)), (0, 4), (0, (d.m a0 4))] d).bind fun q8 => (if q8.1 = 0 ∨ q8.1 = 1 then some (q8.1, q8.2) else none))) else none) else none) := by
  have hT := cT_295
  refine Eq.trans (MM_def sm_295 (Nat.le_of_ble_eq_true rfl)) ?_
  change zB P 295 0 [(2, ((a0 : Nat) : Int)), (0, a1), (3, 0)] [] d = _
  refine Eq.trans (x0 (h := 0) hT rfl) ?_
  refine Eq.trans (x1 (h := 1) hT rfl rfl (by decide)) ?_
  refine Eq.trans (x5_2 (h := 2) hT rfl) ?_
  refine Eq.trans (x1 (h := 3) hT rfl rfl (by decide)) ?_
  refine Eq.trans (x21r (r := a0) (cl := 12) (o := 8) (h := 4) hT rfl ha0 (by decide) rfl) ?_
  refine Eq.trans (x1 (h := 5) hT rfl rfl (by decide)) ?_
  refine Eq.trans (x24 (r := (a0 + 8)) (n := 2) (h := 6) hT rfl (Or.inl (kd_12_15 ha0)) (ln_12_15 ha0)) ?_
  refine xig (fun hz1 => ?_)
  refine Eq.trans (x5_0 (h := 7) hT rfl) ?_
  refine Eq.trans (x2 (ls' := [(2, ((a0 : Nat) : Int)), (0, a1), (0, ((8 * a1) + (d.m ((a0 + 8)) (zix a1))))]) (h := 8) hT rfl (Nat.le_of_ble_eq_true rfl) rfl) ?_
  refine Eq.trans (x1 (h := 9) hT rfl rfl (by decide)) ?_
  refine Eq.trans (x21r (r := a0) (cl := 12) (o := 8) (h := 10) hT rfl ha0 (by decide) rfl) ?_
  refine Eq.trans (x1 (h := 11) hT rfl rfl (by decide)) ?_
  refine Eq.trans (x24 (r := (a0 + 8)) (n := 2) (h := 12) hT rfl (Or.inl (kd_12_15 ha0)) (ln_12_15 ha0)) ?_
  refine xig (fun hz2 => ?_)
  refine Eq.trans (x0 (h := 13) hT rfl) ?_
  refine Eq.trans (x17_1 (h := 14) hT rfl) ?_
  refine xit (fun _ => ?_) (fun _ => ?_)
  · refine Eq.trans (x1 (h := 21) hT rfl rfl (by decide)) ?_
    refine Eq.trans (x21r (r := a0) (cl := 12) (o := 4) (h := 22) hT rfl ha0 (by decide) rfl) ?_
    refine Eq.trans (x1 (h := 23) hT rfl rfl (by decide)) ?_
    refine Eq.trans (x1 (h := 24) hT rfl rfl (by decide)) ?_
    refine Eq.trans (x21 (r := a0) (cl := 12) (h := 25) hT rfl ha0) ?_
    refine Eq.trans (x25a (r := (a0 + 4)) (n := 16) (h := 26) hT rfl (kd_12_11 ha0) (ln_12_11 ha0) (by decide) rfl) ?_
    refine xig (fun hz3 => ?_)
    refine Eq.trans (x1 (h := 27) hT rfl rfl (by decide)) ?_
    refine Eq.trans (x1 (h := 28) hT rfl rfl (by decide)) ?_
    refine Eq.trans (x0 (h := 29) hT rfl) ?_
    refine Eq.trans (x31 (r := a0) (cl := 12) (as := [(0, a1), (0, 0)]) (st' := []) (h := 30) hT rfl sm_267 rfl ha0) ?_
    refine xbd (fun q4 => ?_)
    rw [rv_267]
    change zB P 295 31 [(2, ((a0 : Nat) : Int)), (0, a1), (0, ((8 * a1) + (d.m ((a0 + 8)) (zix a1))))] [(0, q4.1)] q4.2 = _
    refine Eq.trans (x16_1 (h := 31) hT rfl) ?_
    refine xit (fun _ => ?_) (fun _ => ?_)
    · refine Eq.trans (x1 (h := 34) hT rfl rfl (by decide)) ?_
      refine Eq.trans (x21r (r := a0) (cl := 12) (o := 5) (h := 35) hT rfl ha0 (by decide) rfl) ?_
      refine Eq.trans (x1 (h := 36) hT rfl rfl (by decide)) ?_
      refine Eq.trans (x1 (h := 37) hT rfl rfl (by decide)) ?_
      refine Eq.trans (x21 (r := a0) (cl := 12) (h := 38) hT rfl ha0) ?_
      refine Eq.trans (x25a (r := (a0 + 5)) (n := 16) (h := 39) hT rfl (kd_12_12 ha0) (ln_12_12 ha0) (by decide) rfl) ?_
      refine xig (fun hz5 => ?_)
      refine Eq.trans (x1 (h := 40) hT rfl rfl (by decide)) ?_
      refine Eq.trans (x21r (r := a0) (cl := 12) (o := 8) (h := 41) hT rfl ha0 (by decide) rfl) ?_
      refine Eq.trans (x1 (h := 42) hT rfl rfl (by decide)) ?_
      refine Eq.trans (x1 (h := 43) hT rfl rfl (by decide)) ?_
      refine Eq.trans (x21r (r := a0) (cl := 12) (o := 8) (h := 44) hT rfl ha0 (by decide) rfl) ?_
      refine Eq.trans (x1 (h := 45) hT rfl rfl (by decide)) ?_
      refine Eq.trans (x24 (r := (a0 + 8)) (n := 2) (h := 46) hT rfl (Or.inl (kd_12_15 ha0)) (ln_12_15 ha0)) ?_
      refine xig (fun hz6 => ?_)
      refine Eq.trans (x0 (h := 47) hT rfl) ?_
      refine Eq.trans (x5_0 (h := 48) hT rfl) ?_
      refine Eq.trans (x25a (r := (a0 + 8)) (n := 2) (h := 49) hT rfl (kd_12_15 ha0) (ln_12_15 ha0) (by decide) rfl) ?_
      refine xig (fun hz7 => ?_)
      refine Eq.trans (x0 (h := 50) hT rfl) ?_
      exact x203c (h := 51) hT rfl (by decide)
    · refine Eq.trans (x0 (h := 32) hT rfl) ?_
      exact x203c (h := 33) hT rfl (by decide)
  · refine Eq.trans (x1 (h := 15) hT rfl rfl (by decide)) ?_
    refine Eq.trans (x0 (h := 16) hT rfl) ?_
    refine Eq.trans (x1 (h := 17) hT rfl rfl (by decide)) ?_
    refine Eq.trans (x21 (r := a0) (cl := 12) (h := 18) hT rfl ha0) ?_
    refine Eq.trans (x31 (r := a0) (cl := 12) (as := [(0, 4), (0, (d.m a0 4))]) (st' := []) (h := 19) hT rfl sm_83 rfl ha0) ?_
    refine xbd (fun q8 => ?_)
    rw [rv_83]
    change zB P 295 20 [(2, ((a0 : Nat) : Int)), (0, a1), (0, ((8 * a1) + (d.m ((a0 + 8)) (zix a1))))] [(0, q8.1)] q8.2 = _
    exact x203 (h := 20) hT rfl
/-! WordLinksModel.twins(I)I -/
set_option maxRecDepth 100000 in
theorem e_296 {P : zP} {d : zD P} {a0 : Nat} {a1 : Int} (ha0 : zkd a0 = 12) : MM P 296 [(2, ((a0 : Nat) : Int)), (0, a1)] d = (if wr a1 ≠ 0 then (if wr a1 < wr 10 then some ((-1), d) else ((MM P 149 [(2, ((a0 : Nat) : Int)), (0, 0), (0, (a1 - 10))] d).bind fun q1 => (if wr q1.1 = 0 then some ((-1), q1.2) else ((MM P 244 [(2, ((a0 : Nat) : Int)), (0, (a1 - 10))] q1.2).bind fun q2 => some (q2.1, q2.2))))) else ((MM P 268 [(2, ((a0 : Nat) : Int))] d).bind fun q3 => some (q3.1, q3.2))) := by
  have hT := cT_296
  refine Eq.trans (MM_def sm_296 (Nat.le_of_ble_eq_true rfl)) ?_
  change zB P 296 0 [(2, ((a0 : Nat) : Int)), (0, a1)] [] d = _
  refine Eq.trans (x1 (h := 0) hT rfl rfl (by decide)) ?_
  refine Eq.trans (x16_1 (h := 1) hT rfl) ?_
  refine xit (fun _ => ?_) (fun _ => ?_)
  · refine Eq.trans (x1 (h := 5) hT rfl rfl (by decide)) ?_
    refine Eq.trans (x0 (h := 6) hT rfl) ?_
    refine Eq.trans (x17_2 (h := 7) hT rfl) ?_
    refine xit (fun _ => ?_) (fun _ => ?_)
    · refine Eq.trans (x0 (h := 21) hT rfl) ?_
      exact x201 (h := 22) hT rfl
    · refine Eq.trans (x1 (h := 8) hT rfl rfl (by decide)) ?_
      refine Eq.trans (x0 (h := 9) hT rfl) ?_
      refine Eq.trans (x1 (h := 10) hT rfl rfl (by decide)) ?_
      refine Eq.trans (x0 (h := 11) hT rfl) ?_
      refine Eq.trans (x5_1 (h := 12) hT rfl) ?_
      refine Eq.trans (x31 (r := a0) (cl := 12) (as := [(0, 0), (0, (a1 - 10))]) (st' := []) (h := 13) hT rfl sm_149 rfl ha0) ?_
      refine xbd (fun q1 => ?_)
      rw [rv_149]
      change zB P 296 14 [(2, ((a0 : Nat) : Int)), (0, a1)] [(0, q1.1)] q1.2 = _
      refine Eq.trans (x16_0 (h := 14) hT rfl) ?_
      refine xit (fun _ => ?_) (fun _ => ?_)
      · refine Eq.trans (x0 (h := 21) hT rfl) ?_
        exact x201 (h := 22) hT rfl
      · refine Eq.trans (x1 (h := 15) hT rfl rfl (by decide)) ?_
        refine Eq.trans (x1 (h := 16) hT rfl rfl (by decide)) ?_
        refine Eq.trans (x0 (h := 17) hT rfl) ?_
        refine Eq.trans (x5_1 (h := 18) hT rfl) ?_
        refine Eq.trans (x31 (r := a0) (cl := 12) (as := [(0, (a1 - 10))]) (st' := []) (h := 19) hT rfl sm_244 rfl ha0) ?_
        refine xbd (fun q2 => ?_)
        rw [rv_244]
        change zB P 296 20 [(2, ((a0 : Nat) : Int)), (0, a1)] [(0, q2.1)] q2.2 = _
        refine Eq.trans (x18 (h := 20) hT rfl) ?_
        exact x201 (h := 22) hT rfl
  · refine Eq.trans (x1 (h := 2) hT rfl rfl (by decide)) ?_
    refine Eq.trans (x31 (r := a0) (cl := 12) (as := []) (st' := []) (h := 3) hT rfl sm_268 rfl ha0) ?_
    refine xbd (fun q3 => ?_)
    rw [rv_268]
    change zB P 296 4 [(2, ((a0 : Nat) : Int)), (0, a1)] [(0, q3.1)] q3.2 = _
    exact x201 (h := 4) hT rfl
/-! WordLinks.agree(I)I -/
set_option maxRecDepth 100000 in
theorem e_297 {P : zP} {d : zD P} {a0 : Nat} {a1 : Int} (ha0 : zkd a0 = 11) : MM P 297 [(2, ((a0 : Nat) : Int)), (0, a1)] d = ((MM P 43 [(0, a1)] d).bind fun q1 => (if wr q1.1 = 0 then some ((-1), q1.2) else ((MM P 272 [(2, ((a0 : Nat) : Int)), (0, a1)] q1.2).bind fun q2 => some (q2.1, q2.2)))) := by
  have hT := cT_297
  refine Eq.trans (MM_def sm_297 (Nat.le_of_ble_eq_true rfl)) ?_
  change zB P 297 0 [(2, ((a0 : Nat) : Int)), (0, a1)] [] d = _
  refine Eq.trans (x1 (h := 0) hT rfl rfl (by decide)) ?_
  refine Eq.trans (x34 (as := [(0, a1)]) (st' := []) (h := 1) hT rfl sm_43 rfl) ?_
  refine xbd (fun q1 => ?_)
  rw [rv_43]
  change zB P 297 2 [(2, ((a0 : Nat) : Int)), (0, a1)] [(0, q1.1)] q1.2 = _
  refine Eq.trans (x16_0 (h := 2) hT rfl) ?_
  refine xit (fun _ => ?_) (fun _ => ?_)
  · refine Eq.trans (x0 (h := 7) hT rfl) ?_
    exact x201 (h := 8) hT rfl
  · refine Eq.trans (x1 (h := 3) hT rfl rfl (by decide)) ?_
    refine Eq.trans (x1 (h := 4) hT rfl rfl (by decide)) ?_
    refine Eq.trans (x31 (r := a0) (cl := 11) (as := [(0, a1)]) (st' := []) (h := 5) hT rfl sm_272 rfl ha0) ?_
    refine xbd (fun q2 => ?_)
    rw [rv_272]
    change zB P 297 6 [(2, ((a0 : Nat) : Int)), (0, a1)] [(0, q2.1)] q2.2 = _
    refine Eq.trans (x18 (h := 6) hT rfl) ?_
    exact x201 (h := 8) hT rfl
/-! WordLinks.bestRounds(I)I -/
set_option maxRecDepth 100000 in
theorem e_298 {P : zP} {d : zD P} {a0 : Nat} {a1 : Int} (ha0 : zkd a0 = 11) : MM P 298 [(2, ((a0 : Nat) : Int)), (0, a1)] d = ((MM P 43 [(0, a1)] d).bind fun q1 => (if wr q1.1 ≠ 0 then ((MM P 119 [(2, (((a0 + 59) : Nat) : Int)), (2, (((a0 + 3) : Nat) : Int))] q1.2).bind fun q2 => ((MM P 272 [(2, ((a0 : Nat) : Int)), (0, a1)] q2.2).bind fun q3 => zB P 298 18 [(2, ((a0 : Nat) : Int)), (0, a1), (0, 0), (0, q3.1), (0, 1), (3, 0)] [] q3.2)) else some ((-1), q1.2))) := by
  have hT := cT_298
  refine Eq.trans (MM_def sm_298 (Nat.le_of_ble_eq_true rfl)) ?_
  change zB P 298 0 [(2, ((a0 : Nat) : Int)), (0, a1), (3, 0), (3, 0), (3, 0), (3, 0)] [] d = _
  refine Eq.trans (x1 (h := 0) hT rfl rfl (by decide)) ?_
  refine Eq.trans (x34 (as := [(0, a1)]) (st' := []) (h := 1) hT rfl sm_43 rfl) ?_
  refine xbd (fun q1 => ?_)
  rw [rv_43]
  change zB P 298 2 [(2, ((a0 : Nat) : Int)), (0, a1), (3, 0), (3, 0), (3, 0), (3, 0)] [(0, q1.1)] q1.2 = _
  refine Eq.trans (x16_1 (h := 2) hT rfl) ?_
  refine xit (fun _ => ?_) (fun _ => ?_)
  · refine Eq.trans (x1 (h := 5) hT rfl rfl (by decide)) ?_
    refine Eq.trans (x21r (r := a0) (cl := 11) (o := 59) (h := 6) hT rfl ha0 (by decide) rfl) ?_
    refine Eq.trans (x1 (h := 7) hT rfl rfl (by decide)) ?_
    refine Eq.trans (x21r (r := a0) (cl := 11) (o := 3) (h := 8) hT rfl ha0 (by decide) rfl) ?_
    refine Eq.trans (x31 (r := (a0 + 59)) (cl := 9) (as := [(2, (((a0 + 3) : Nat) : Int))]) (st' := []) (h := 9) hT rfl sm_119 rfl (kd_11_3 ha0)) ?_
    refine xbd (fun q2 => ?_)
    rw [rv_119]
    change zB P 298 10 [(2, ((a0 : Nat) : Int)), (0, a1), (3, 0), (3, 0), (3, 0), (3, 0)] [] q2.2 = _
    refine Eq.trans (x0 (h := 10) hT rfl) ?_
    refine Eq.trans (x2 (ls' := [(2, ((a0 : Nat) : Int)), (0, a1), (0, 0), (3, 0), (3, 0), (3, 0)]) (h := 11) hT rfl (Nat.le_of_ble_eq_true rfl) rfl) ?_
    refine Eq.trans (x1 (h := 12) hT rfl rfl (by decide)) ?_
    refine Eq.trans (x1 (h := 13) hT rfl rfl (by decide)) ?_
    refine Eq.trans (x31 (r := a0) (cl := 11) (as := [(0, a1)]) (st' := []) (h := 14) hT rfl sm_272 rfl ha0) ?_
    refine xbd (fun q3 => ?_)
    rw [rv_272]
    change zB P 298 15 [(2, ((a0 : Nat) : Int)), (0, a1), (0, 0), (3, 0), (3, 0), (3, 0)] [(0, q3.1)] q3.2 = _
    refine Eq.trans (x2 (ls' := [(2, ((a0 : Nat) : Int)), (0, a1), (0, 0), (0, q3.1), (3, 0), (3, 0)]) (h := 15) hT rfl (Nat.le_of_ble_eq_true rfl) rfl) ?_
    refine Eq.trans (x0 (h := 16) hT rfl) ?_
    refine Eq.trans (x2 (ls' := [(2, ((a0 : Nat) : Int)), (0, a1), (0, 0), (0, q3.1), (0, 1), (3, 0)]) (h := 17) hT rfl (Nat.le_of_ble_eq_true rfl) rfl) ?_
    exact rfl
  · refine Eq.trans (x0 (h := 3) hT rfl) ?_
    exact x201 (h := 4) hT rfl
set_option maxRecDepth 100000 in
theorem q_298_18 {P : zP} {d : zD P} {a0 : Nat} {a1 : Int} {a2 : Int} {a3 : Int} {a4 : Int} {g5 : zV} (ha0 : zkd a0 = 11) : zB P 298 18 [(2, ((a0 : Nat) : Int)), (0, a1), (0, a2), (0, a3), (0, a4), g5] [] d = (if wr 30 < wr a4 then ((MM P 119 [(2, (((a0 + 3) : Nat) : Int)), (2, (((a0 + 59) : Nat) : Int))] d).bind fun q4 => some (a2, q4.2)) else ((MM P 270 [(2, (((a0 + 98) : Nat) : Int)), (2, (((a0 + 3) : Nat) : Int)), (0, 0)] d).bind fun q5 => ((MM P 270 [(2, (((a0 + 98) : Nat) : Int)), (2, (((a0 + 3) : Nat) : Int)), (0, 1)] q5.2).bind fun q6 => ((MM P 272 [(2, ((a0 : Nat) : Int)), (0, a1)] q6.2).bind fun q7 => (if wr q7.1 ≤ wr a3 then zB P 298 18 [(2, ((a0 : Nat) : Int)), (0, a1), (0, a2), (0, a3), (0, (a4 + 1)), (0, q7.1)] [] q7.2 else zB P 298 18 [(2, ((a0 : Nat) : Int)), (0, a1), (0, a4), (0, q7.1), (0, (a4 + 1)), (0, q7.1)] [] q7.2))))) := by
  have hT := cT_298
  refine Eq.trans (x1 (h := 18) hT rfl rfl (by decide)) ?_
  refine Eq.trans (x0 (h := 19) hT rfl) ?_
  refine Eq.trans (x17_4 (h := 20) hT rfl) ?_
  refine xit (fun _ => ?_) (fun _ => ?_)
  · refine Eq.trans (x1 (h := 46) hT rfl rfl (by decide)) ?_
    refine Eq.trans (x21r (r := a0) (cl := 11) (o := 3) (h := 47) hT rfl ha0 (by decide) rfl) ?_
    refine Eq.trans (x1 (h := 48) hT rfl rfl (by decide)) ?_
    refine Eq.trans (x21r (r := a0) (cl := 11) (o := 59) (h := 49) hT rfl ha0 (by decide) rfl) ?_
    refine Eq.trans (x31 (r := (a0 + 3)) (cl := 9) (as := [(2, (((a0 + 59) : Nat) : Int))]) (st' := []) (h := 50) hT rfl sm_119 rfl (kd_11_1 ha0)) ?_
    refine xbd (fun q4 => ?_)
    rw [rv_119]
    change zB P 298 51 [(2, ((a0 : Nat) : Int)), (0, a1), (0, a2), (0, a3), (0, a4), g5] [] q4.2 = _
    refine Eq.trans (x1 (h := 51) hT rfl rfl (by decide)) ?_
    exact x201 (h := 52) hT rfl
  · refine Eq.trans (x1 (h := 21) hT rfl rfl (by decide)) ?_
    refine Eq.trans (x21r (r := a0) (cl := 11) (o := 98) (h := 22) hT rfl ha0 (by decide) rfl) ?_
    refine Eq.trans (x1 (h := 23) hT rfl rfl (by decide)) ?_
    refine Eq.trans (x21r (r := a0) (cl := 11) (o := 3) (h := 24) hT rfl ha0 (by decide) rfl) ?_
    refine Eq.trans (x0 (h := 25) hT rfl) ?_
    refine Eq.trans (x31 (r := (a0 + 98)) (cl := 6) (as := [(2, (((a0 + 3) : Nat) : Int)), (0, 0)]) (st' := []) (h := 26) hT rfl sm_270 rfl (kd_11_7 ha0)) ?_
    refine xbd (fun q5 => ?_)
    rw [rv_270]
    change zB P 298 27 [(2, ((a0 : Nat) : Int)), (0, a1), (0, a2), (0, a3), (0, a4), g5] [] q5.2 = _
    refine Eq.trans (x1 (h := 27) hT rfl rfl (by decide)) ?_
    refine Eq.trans (x21r (r := a0) (cl := 11) (o := 98) (h := 28) hT rfl ha0 (by decide) rfl) ?_
    refine Eq.trans (x1 (h := 29) hT rfl rfl (by decide)) ?_
    refine Eq.trans (x21r (r := a0) (cl := 11) (o := 3) (h := 30) hT rfl ha0 (by decide) rfl) ?_
    refine Eq.trans (x0 (h := 31) hT rfl) ?_
    refine Eq.trans (x31 (r := (a0 + 98)) (cl := 6) (as := [(2, (((a0 + 3) : Nat) : Int)), (0, 1)]) (st' := []) (h := 32) hT rfl sm_270 rfl (kd_11_7 ha0)) ?_
    refine xbd (fun q6 => ?_)
    rw [rv_270]
    change zB P 298 33 [(2, ((a0 : Nat) : Int)), (0, a1), (0, a2), (0, a3), (0, a4), g5] [] q6.2 = _
    refine Eq.trans (x1 (h := 33) hT rfl rfl (by decide)) ?_
    refine Eq.trans (x1 (h := 34) hT rfl rfl (by decide)) ?_
    refine Eq.trans (x31 (r := a0) (cl := 11) (as := [(0, a1)]) (st' := []) (h := 35) hT rfl sm_272 rfl ha0) ?_
    refine xbd (fun q7 => ?_)
    rw [rv_272]
    change zB P 298 36 [(2, ((a0 : Nat) : Int)), (0, a1), (0, a2), (0, a3), (0, a4), g5] [(0, q7.1)] q7.2 = _
    refine Eq.trans (x2 (ls' := [(2, ((a0 : Nat) : Int)), (0, a1), (0, a2), (0, a3), (0, a4), (0, q7.1)]) (h := 36) hT rfl (Nat.le_of_ble_eq_true rfl) rfl) ?_
    refine Eq.trans (x1 (h := 37) hT rfl rfl (by decide)) ?_
    refine Eq.trans (x1 (h := 38) hT rfl rfl (by decide)) ?_
    refine Eq.trans (x17_5 (h := 39) hT rfl) ?_
    refine xit (fun _ => ?_) (fun _ => ?_)
    · refine Eq.trans (x4 (ls' := [(2, ((a0 : Nat) : Int)), (0, a1), (0, a2), (0, a3), (0, (a4 + 1)), (0, q7.1)]) (h := 44) hT rfl rfl rfl) ?_
      refine Eq.trans (x18 (h := 45) hT rfl) ?_
      exact rfl
    · refine Eq.trans (x1 (h := 40) hT rfl rfl (by decide)) ?_
      refine Eq.trans (x2 (ls' := [(2, ((a0 : Nat) : Int)), (0, a1), (0, a2), (0, q7.1), (0, a4), (0, q7.1)]) (h := 41) hT rfl (Nat.le_of_ble_eq_true rfl) rfl) ?_
      refine Eq.trans (x1 (h := 42) hT rfl rfl (by decide)) ?_
      refine Eq.trans (x2 (ls' := [(2, ((a0 : Nat) : Int)), (0, a1), (0, a4), (0, q7.1), (0, a4), (0, q7.1)]) (h := 43) hT rfl (Nat.le_of_ble_eq_true rfl) rfl) ?_
      refine Eq.trans (x4 (ls' := [(2, ((a0 : Nat) : Int)), (0, a1), (0, a4), (0, q7.1), (0, (a4 + 1)), (0, q7.1)]) (h := 44) hT rfl rfl rfl) ?_
      refine Eq.trans (x18 (h := 45) hT rfl) ?_
      exact rfl
/-! WordLinks.joins()I -/
set_option maxRecDepth 100000 in
theorem e_299 {P : zP} {d : zD P} {a0 : Nat} (ha0 : zkd a0 = 11) : MM P 299 [(2, ((a0 : Nat) : Int))] d = ((MM P 30 [(2, (((a0 + 3) : Nat) : Int))] d).bind fun q1 => (if wr q1.1 ≠ 0 then ((MM P 247 [(2, (((a0 + 93) : Nat) : Int)), (2, ((((a0 + 3) + 16) : Nat) : Int)), (2, ((((a0 + 3) + 19) : Nat) : Int))] q1.2).bind fun q2 => ((MM P 218 [(2, (((a0 + 93) : Nat) : Int)), (2, ((((a0 + 3) + 16) : Nat) : Int)), (2, ((((a0 + 3) + 19) : Nat) : Int)), (2, (((a0 + 87) : Nat) : Int)), (2, (((a0 + 90) : Nat) : Int))] q2.2).bind fun q3 => (if wr q3.1 ≠ 0 then ((MM P 284 [(2, ((a0 : Nat) : Int))] q3.2).bind fun q4 => some (q4.1, q4.2)) else some ((-5), q3.2)))) else some ((-2), q1.2))) := by
  have hT := cT_299
  refine Eq.trans (MM_def sm_299 (Nat.le_of_ble_eq_true rfl)) ?_
  change zB P 299 0 [(2, ((a0 : Nat) : Int))] [] d = _
  refine Eq.trans (x1 (h := 0) hT rfl rfl (by decide)) ?_
  refine Eq.trans (x21r (r := a0) (cl := 11) (o := 3) (h := 1) hT rfl ha0 (by decide) rfl) ?_
  refine Eq.trans (x31 (r := (a0 + 3)) (cl := 9) (as := []) (st' := []) (h := 2) hT rfl sm_30 rfl (kd_11_1 ha0)) ?_
  refine xbd (fun q1 => ?_)
  rw [rv_30]
  change zB P 299 3 [(2, ((a0 : Nat) : Int))] [(0, q1.1)] q1.2 = _
  refine Eq.trans (x16_1 (h := 3) hT rfl) ?_
  refine xit (fun _ => ?_) (fun _ => ?_)
  · refine Eq.trans (x1 (h := 6) hT rfl rfl (by decide)) ?_
    refine Eq.trans (x21r (r := a0) (cl := 11) (o := 93) (h := 7) hT rfl ha0 (by decide) rfl) ?_
    refine Eq.trans (x1 (h := 8) hT rfl rfl (by decide)) ?_
    refine Eq.trans (x21r (r := a0) (cl := 11) (o := 3) (h := 9) hT rfl ha0 (by decide) rfl) ?_
    refine Eq.trans (x21r (r := (a0 + 3)) (cl := 9) (o := 16) (h := 10) hT rfl (kd_11_1 ha0) (by decide) rfl) ?_
    refine Eq.trans (x1 (h := 11) hT rfl rfl (by decide)) ?_
    refine Eq.trans (x21r (r := a0) (cl := 11) (o := 3) (h := 12) hT rfl ha0 (by decide) rfl) ?_
    refine Eq.trans (x21r (r := (a0 + 3)) (cl := 9) (o := 19) (h := 13) hT rfl (kd_11_1 ha0) (by decide) rfl) ?_
    refine Eq.trans (x31 (r := (a0 + 93)) (cl := 2) (as := [(2, ((((a0 + 3) + 16) : Nat) : Int)), (2, ((((a0 + 3) + 19) : Nat) : Int))]) (st' := []) (h := 14) hT rfl sm_247 rfl (kd_11_6 ha0)) ?_
    refine xbd (fun q2 => ?_)
    rw [rv_247]
    change zB P 299 15 [(2, ((a0 : Nat) : Int))] [] q2.2 = _
    refine Eq.trans (x1 (h := 15) hT rfl rfl (by decide)) ?_
    refine Eq.trans (x21r (r := a0) (cl := 11) (o := 93) (h := 16) hT rfl ha0 (by decide) rfl) ?_
    refine Eq.trans (x1 (h := 17) hT rfl rfl (by decide)) ?_
    refine Eq.trans (x21r (r := a0) (cl := 11) (o := 3) (h := 18) hT rfl ha0 (by decide) rfl) ?_
    refine Eq.trans (x21r (r := (a0 + 3)) (cl := 9) (o := 16) (h := 19) hT rfl (kd_11_1 ha0) (by decide) rfl) ?_
    refine Eq.trans (x1 (h := 20) hT rfl rfl (by decide)) ?_
    refine Eq.trans (x21r (r := a0) (cl := 11) (o := 3) (h := 21) hT rfl ha0 (by decide) rfl) ?_
    refine Eq.trans (x21r (r := (a0 + 3)) (cl := 9) (o := 19) (h := 22) hT rfl (kd_11_1 ha0) (by decide) rfl) ?_
    refine Eq.trans (x1 (h := 23) hT rfl rfl (by decide)) ?_
    refine Eq.trans (x21r (r := a0) (cl := 11) (o := 87) (h := 24) hT rfl ha0 (by decide) rfl) ?_
    refine Eq.trans (x1 (h := 25) hT rfl rfl (by decide)) ?_
    refine Eq.trans (x21r (r := a0) (cl := 11) (o := 90) (h := 26) hT rfl ha0 (by decide) rfl) ?_
    refine Eq.trans (x31 (r := (a0 + 93)) (cl := 2) (as := [(2, ((((a0 + 3) + 16) : Nat) : Int)), (2, ((((a0 + 3) + 19) : Nat) : Int)), (2, (((a0 + 87) : Nat) : Int)), (2, (((a0 + 90) : Nat) : Int))]) (st' := []) (h := 27) hT rfl sm_218 rfl (kd_11_6 ha0)) ?_
    refine xbd (fun q3 => ?_)
    rw [rv_218]
    change zB P 299 28 [(2, ((a0 : Nat) : Int))] [(0, q3.1)] q3.2 = _
    refine Eq.trans (x16_1 (h := 28) hT rfl) ?_
    refine xit (fun _ => ?_) (fun _ => ?_)
    · refine Eq.trans (x1 (h := 31) hT rfl rfl (by decide)) ?_
      refine Eq.trans (x31 (r := a0) (cl := 11) (as := []) (st' := []) (h := 32) hT rfl sm_284 rfl ha0) ?_
      refine xbd (fun q4 => ?_)
      rw [rv_284]
      change zB P 299 33 [(2, ((a0 : Nat) : Int))] [(0, q4.1)] q4.2 = _
      exact x201 (h := 33) hT rfl
    · refine Eq.trans (x0 (h := 29) hT rfl) ?_
      exact x201 (h := 30) hT rfl
  · refine Eq.trans (x0 (h := 4) hT rfl) ?_
    exact x201 (h := 5) hT rfl
