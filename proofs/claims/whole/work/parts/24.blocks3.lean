/-! The methods from 180 on, block by block. -/
/-! WordLinks$Rounder.dealNears(LWordLinks$State;I)V -/
set_option maxRecDepth 100000 in
theorem e_180 {P : zP} {d : zD P} {a0 : Nat} {a1 : Nat} {a2 : Int} (ha0 : zkd a0 = 6) (ha1 : zkd a1 = 9) : MM P 180 [(2, ((a0 : Nat) : Int)), (2, ((a1 : Nat) : Int)), (0, a2)] d = ((MM P 14 [(2, (((a0 + 1) : Nat) : Int))] d).bind fun q1 => zB P 180 5 [(2, ((a0 : Nat) : Int)), (2, ((a1 : Nat) : Int)), (0, a2), (0, 0)] [] q1.2) := by
  have hT := cT_180
  refine Eq.trans (MM_def sm_180 (Nat.le_of_ble_eq_true rfl)) ?_
  change zB P 180 0 [(2, ((a0 : Nat) : Int)), (2, ((a1 : Nat) : Int)), (0, a2), (3, 0)] [] d = _
  refine Eq.trans (x1 (h := 0) hT rfl rfl (by decide)) ?_
  refine Eq.trans (x21r (r := a0) (cl := 6) (o := 1) (h := 1) hT rfl ha0 (by decide) rfl) ?_
  refine Eq.trans (x31 (r := (a0 + 1)) (cl := 3) (as := []) (st' := []) (h := 2) hT rfl sm_14 rfl (kd_6_0 ha0)) ?_
  refine xbd (fun q1 => ?_)
  rw [rv_14]
  change zB P 180 3 [(2, ((a0 : Nat) : Int)), (2, ((a1 : Nat) : Int)), (0, a2), (3, 0)] [] q1.2 = _
  refine Eq.trans (x0 (h := 3) hT rfl) ?_
  refine Eq.trans (x2 (ls' := [(2, ((a0 : Nat) : Int)), (2, ((a1 : Nat) : Int)), (0, a2), (0, 0)]) (h := 4) hT rfl (Nat.le_of_ble_eq_true rfl) rfl) ?_
  exact rfl
set_option maxRecDepth 100000 in
theorem q_180_5 {P : zP} {d : zD P} {a0 : Nat} {a1 : Nat} {a2 : Int} {a3 : Int} (ha0 : zkd a0 = 6) (ha1 : zkd a1 = 9) : zB P 180 5 [(2, ((a0 : Nat) : Int)), (2, ((a1 : Nat) : Int)), (0, a2), (0, a3)] [] d = (if wr 8 ≤ wr a3 then ((MM P 103 [(2, (((a0 + 1) : Nat) : Int))] d).bind fun q2 => zB P 180 23 [(2, ((a0 : Nat) : Int)), (2, ((a1 : Nat) : Int)), (0, a2), (0, 0)] [] q2.2) else (if zin a3 8 then ((MM P 17 [(2, (((a0 + 1) : Nat) : Int)), (1, (wr ((d.m ((a0 + 6)) (zix a3)))))] d).bind fun q4 => zB P 180 5 [(2, ((a0 : Nat) : Int)), (2, ((a1 : Nat) : Int)), (0, a2), (0, (a3 + 1))] [] q4.2) else none)) := by
  have hT := cT_180
  refine Eq.trans (x1 (h := 5) hT rfl rfl (by decide)) ?_
  refine Eq.trans (x0 (h := 6) hT rfl) ?_
  refine Eq.trans (x17_3 (h := 7) hT rfl) ?_
  refine xit (fun _ => ?_) (fun _ => ?_)
  · refine Eq.trans (x1 (h := 18) hT rfl rfl (by decide)) ?_
    refine Eq.trans (x21r (r := a0) (cl := 6) (o := 1) (h := 19) hT rfl ha0 (by decide) rfl) ?_
    refine Eq.trans (x31 (r := (a0 + 1)) (cl := 3) (as := []) (st' := []) (h := 20) hT rfl sm_103 rfl (kd_6_0 ha0)) ?_
    refine xbd (fun q2 => ?_)
    rw [rv_103]
    change zB P 180 21 [(2, ((a0 : Nat) : Int)), (2, ((a1 : Nat) : Int)), (0, a2), (0, a3)] [] q2.2 = _
    refine Eq.trans (x0 (h := 21) hT rfl) ?_
    refine Eq.trans (x2 (ls' := [(2, ((a0 : Nat) : Int)), (2, ((a1 : Nat) : Int)), (0, a2), (0, 0)]) (h := 22) hT rfl (Nat.le_of_ble_eq_true rfl) rfl) ?_
    exact rfl
  · refine Eq.trans (x1 (h := 8) hT rfl rfl (by decide)) ?_
    refine Eq.trans (x21r (r := a0) (cl := 6) (o := 1) (h := 9) hT rfl ha0 (by decide) rfl) ?_
    refine Eq.trans (x1 (h := 10) hT rfl rfl (by decide)) ?_
    refine Eq.trans (x21r (r := a0) (cl := 6) (o := 6) (h := 11) hT rfl ha0 (by decide) rfl) ?_
    refine Eq.trans (x1 (h := 12) hT rfl rfl (by decide)) ?_
    refine Eq.trans (x24 (r := (a0 + 6)) (n := 8) (h := 13) hT rfl (Or.inl (kd_6_2 ha0)) (ln_6_2 ha0)) ?_
    refine xig (fun hz3 => ?_)
    refine Eq.trans (x12 (h := 14) hT rfl) ?_
    refine Eq.trans (x31 (r := (a0 + 1)) (cl := 3) (as := [(1, (wr ((d.m ((a0 + 6)) (zix a3)))))]) (st' := []) (h := 15) hT rfl sm_17 rfl (kd_6_0 ha0)) ?_
    refine xbd (fun q4 => ?_)
    rw [rv_17]
    change zB P 180 16 [(2, ((a0 : Nat) : Int)), (2, ((a1 : Nat) : Int)), (0, a2), (0, a3)] [] q4.2 = _
    refine Eq.trans (x4 (ls' := [(2, ((a0 : Nat) : Int)), (2, ((a1 : Nat) : Int)), (0, a2), (0, (a3 + 1))]) (h := 16) hT rfl rfl rfl) ?_
    refine Eq.trans (x18 (h := 17) hT rfl) ?_
    exact rfl
set_option maxRecDepth 100000 in
theorem q_180_23 {P : zP} {d : zD P} {a0 : Nat} {a1 : Nat} {a2 : Int} {a3 : Int} (ha0 : zkd a0 = 6) (ha1 : zkd a1 = 9) : zB P 180 23 [(2, ((a0 : Nat) : Int)), (2, ((a1 : Nat) : Int)), (0, a2), (0, a3)] [] d = (if wr 8 ≤ wr a3 then some (0, d) else (if zin a2 2 then ((MM P 16 [(2, (((a0 + 1) : Nat) : Int)), (0, a3)] d).bind fun q6 => (if zin a3 8 then zB P 180 23 [(2, ((a0 : Nat) : Int)), (2, ((a1 : Nat) : Int)), (0, a2), (0, (a3 + 1))] [] ((q6.2.up (((a1 + 25) + (1 + zix a2))) (zix a3) q6.1)) else none)) else none)) := by
  have hT := cT_180
  refine Eq.trans (x1 (h := 23) hT rfl rfl (by decide)) ?_
  refine Eq.trans (x0 (h := 24) hT rfl) ?_
  refine Eq.trans (x17_3 (h := 25) hT rfl) ?_
  refine xit (fun _ => ?_) (fun _ => ?_)
  · exact x20 (h := 38) hT rfl
  · refine Eq.trans (x1 (h := 26) hT rfl rfl (by decide)) ?_
    refine Eq.trans (x21r (r := a1) (cl := 9) (o := 25) (h := 27) hT rfl ha1 (by decide) rfl) ?_
    refine Eq.trans (x1 (h := 28) hT rfl rfl (by decide)) ?_
    refine Eq.trans (x24r (r := (a1 + 25)) (n := 2) (h := 29) hT rfl (kd_9_4 ha1) (ln_9_4 ha1) (by decide)) ?_
    refine xig (fun hz5 => ?_)
    refine Eq.trans (x1 (h := 30) hT rfl rfl (by decide)) ?_
    refine Eq.trans (x1 (h := 31) hT rfl rfl (by decide)) ?_
    refine Eq.trans (x21r (r := a0) (cl := 6) (o := 1) (h := 32) hT rfl ha0 (by decide) rfl) ?_
    refine Eq.trans (x1 (h := 33) hT rfl rfl (by decide)) ?_
    refine Eq.trans (x31 (r := (a0 + 1)) (cl := 3) (as := [(0, a3)]) (st' := [(0, a3), (2, ((((a1 + 25) + (1 + zix a2)) : Nat) : Int))]) (h := 34) hT rfl sm_16 rfl (kd_6_0 ha0)) ?_
    refine xbd (fun q6 => ?_)
    rw [rv_16]
    change zB P 180 35 [(2, ((a0 : Nat) : Int)), (2, ((a1 : Nat) : Int)), (0, a2), (0, a3)] [(0, q6.1), (0, a3), (2, ((((a1 + 25) + (1 + zix a2)) : Nat) : Int))] q6.2 = _
    refine Eq.trans (x25a (r := ((a1 + 25) + (1 + zix a2))) (n := 8) (h := 35) hT rfl (kq_9_4 ha1 (zix_lt hz5)) (lq_9_4 ha1 (zix_lt hz5)) (by decide) rfl) ?_
    refine xig (fun hz7 => ?_)
    refine Eq.trans (x4 (ls' := [(2, ((a0 : Nat) : Int)), (2, ((a1 : Nat) : Int)), (0, a2), (0, (a3 + 1))]) (h := 36) hT rfl rfl rfl) ?_
    refine Eq.trans (x18 (h := 37) hT rfl) ?_
    exact rfl
/-! WordLinks$Rounder.dealShares(LWordLinks$State;II)V -/
set_option maxRecDepth 100000 in
theorem e_181 {P : zP} {d : zD P} {a0 : Nat} {a1 : Nat} {a2 : Int} {a3 : Int} (ha0 : zkd a0 = 6) (ha1 : zkd a1 = 9) : MM P 181 [(2, ((a0 : Nat) : Int)), (2, ((a1 : Nat) : Int)), (0, a2), (0, a3)] d = ((MM P 103 [(2, (((a0 + 1) : Nat) : Int))] d).bind fun q1 => zB P 181 7 [(2, ((a0 : Nat) : Int)), (2, ((a1 : Nat) : Int)), (0, a2), (0, a3), (0, 0), (0, 0)] [] q1.2) := by
  have hT := cT_181
  refine Eq.trans (MM_def sm_181 (Nat.le_of_ble_eq_true rfl)) ?_
  change zB P 181 0 [(2, ((a0 : Nat) : Int)), (2, ((a1 : Nat) : Int)), (0, a2), (0, a3), (3, 0), (3, 0)] [] d = _
  refine Eq.trans (x1 (h := 0) hT rfl rfl (by decide)) ?_
  refine Eq.trans (x21r (r := a0) (cl := 6) (o := 1) (h := 1) hT rfl ha0 (by decide) rfl) ?_
  refine Eq.trans (x31 (r := (a0 + 1)) (cl := 3) (as := []) (st' := []) (h := 2) hT rfl sm_103 rfl (kd_6_0 ha0)) ?_
  refine xbd (fun q1 => ?_)
  rw [rv_103]
  change zB P 181 3 [(2, ((a0 : Nat) : Int)), (2, ((a1 : Nat) : Int)), (0, a2), (0, a3), (3, 0), (3, 0)] [] q1.2 = _
  refine Eq.trans (x0 (h := 3) hT rfl) ?_
  refine Eq.trans (x2 (ls' := [(2, ((a0 : Nat) : Int)), (2, ((a1 : Nat) : Int)), (0, a2), (0, a3), (0, 0), (3, 0)]) (h := 4) hT rfl (Nat.le_of_ble_eq_true rfl) rfl) ?_
  refine Eq.trans (x0 (h := 5) hT rfl) ?_
  refine Eq.trans (x2 (ls' := [(2, ((a0 : Nat) : Int)), (2, ((a1 : Nat) : Int)), (0, a2), (0, a3), (0, 0), (0, 0)]) (h := 6) hT rfl (Nat.le_of_ble_eq_true rfl) rfl) ?_
  exact rfl
set_option maxRecDepth 100000 in
theorem q_181_7 {P : zP} {d : zD P} {a0 : Nat} {a1 : Nat} {a2 : Int} {a3 : Int} {a4 : Int} {a5 : Int} (ha0 : zkd a0 = 6) (ha1 : zkd a1 = 9) : zB P 181 7 [(2, ((a0 : Nat) : Int)), (2, ((a1 : Nat) : Int)), (0, a2), (0, a3), (0, a4), (0, a5)] [] d = (if zin ((1 - a2)) 2 then (if wr ((d.m (((a1 + 1) + 1)) (zix ((1 - a2))))) ≤ wr a5 then some (0, d) else ((MM P 1 [(2, (((a1 + 1) : Nat) : Int)), (0, a2), (0, a3), (0, a5)] d).bind fun q3 => (if wr q3.1 = 0 then zB P 181 7 [(2, ((a0 : Nat) : Int)), (2, ((a1 : Nat) : Int)), (0, a2), (0, a3), (0, a4), (0, (a5 + 1))] [] q3.2 else (if zin a2 2 then ((MM P 16 [(2, (((a0 + 1) : Nat) : Int)), (0, a4)] q3.2).bind fun q5 => (if zin (((a3 * 40) + a5)) 1600 then zB P 181 7 [(2, ((a0 : Nat) : Int)), (2, ((a1 : Nat) : Int)), (0, a2), (0, a3), (0, (a4 + 1)), (0, (a5 + 1))] [] ((q5.2.up (((a1 + 22) + (1 + zix a2))) (zix (((a3 * 40) + a5))) q5.1)) else none)) else none)))) else none) := by
  have hT := cT_181
  refine Eq.trans (x1 (h := 7) hT rfl rfl (by decide)) ?_
  refine Eq.trans (x1 (h := 8) hT rfl rfl (by decide)) ?_
  refine Eq.trans (x21r (r := a1) (cl := 9) (o := 1) (h := 9) hT rfl ha1 (by decide) rfl) ?_
  refine Eq.trans (x21r (r := (a1 + 1)) (cl := 0) (o := 1) (h := 10) hT rfl (kd_9_0 ha1) (by decide) rfl) ?_
  refine Eq.trans (x0 (h := 11) hT rfl) ?_
  refine Eq.trans (x1 (h := 12) hT rfl rfl (by decide)) ?_
  refine Eq.trans (x5_1 (h := 13) hT rfl) ?_
  refine Eq.trans (x24 (r := ((a1 + 1) + 1)) (n := 2) (h := 14) hT rfl (Or.inl (kd_0_0 (kd_9_0 ha1))) (ln_0_0 (kd_9_0 ha1))) ?_
  refine xig (fun hz2 => ?_)
  refine Eq.trans (x17_3 (h := 15) hT rfl) ?_
  refine xit (fun _ => ?_) (fun _ => ?_)
  · exact x20 (h := 40) hT rfl
  · refine Eq.trans (x1 (h := 16) hT rfl rfl (by decide)) ?_
    refine Eq.trans (x21r (r := a1) (cl := 9) (o := 1) (h := 17) hT rfl ha1 (by decide) rfl) ?_
    refine Eq.trans (x1 (h := 18) hT rfl rfl (by decide)) ?_
    refine Eq.trans (x1 (h := 19) hT rfl rfl (by decide)) ?_
    refine Eq.trans (x1 (h := 20) hT rfl rfl (by decide)) ?_
    refine Eq.trans (x31 (r := (a1 + 1)) (cl := 0) (as := [(0, a2), (0, a3), (0, a5)]) (st' := []) (h := 21) hT rfl sm_1 rfl (kd_9_0 ha1)) ?_
    refine xbd (fun q3 => ?_)
    rw [rv_1]
    change zB P 181 22 [(2, ((a0 : Nat) : Int)), (2, ((a1 : Nat) : Int)), (0, a2), (0, a3), (0, a4), (0, a5)] [(0, q3.1)] q3.2 = _
    refine Eq.trans (x16_0 (h := 22) hT rfl) ?_
    refine xit (fun _ => ?_) (fun _ => ?_)
    · refine Eq.trans (x4 (ls' := [(2, ((a0 : Nat) : Int)), (2, ((a1 : Nat) : Int)), (0, a2), (0, a3), (0, a4), (0, (a5 + 1))]) (h := 38) hT rfl rfl rfl) ?_
      refine Eq.trans (x18 (h := 39) hT rfl) ?_
      exact rfl
    · refine Eq.trans (x1 (h := 23) hT rfl rfl (by decide)) ?_
      refine Eq.trans (x21r (r := a1) (cl := 9) (o := 22) (h := 24) hT rfl ha1 (by decide) rfl) ?_
      refine Eq.trans (x1 (h := 25) hT rfl rfl (by decide)) ?_
      refine Eq.trans (x24r (r := (a1 + 22)) (n := 2) (h := 26) hT rfl (kd_9_3 ha1) (ln_9_3 ha1) (by decide)) ?_
      refine xig (fun hz4 => ?_)
      refine Eq.trans (x1 (h := 27) hT rfl rfl (by decide)) ?_
      refine Eq.trans (x0 (h := 28) hT rfl) ?_
      refine Eq.trans (x5_2 (h := 29) hT rfl) ?_
      refine Eq.trans (x1 (h := 30) hT rfl rfl (by decide)) ?_
      refine Eq.trans (x5_0 (h := 31) hT rfl) ?_
      refine Eq.trans (x1 (h := 32) hT rfl rfl (by decide)) ?_
      refine Eq.trans (x21r (r := a0) (cl := 6) (o := 1) (h := 33) hT rfl ha0 (by decide) rfl) ?_
      refine Eq.trans (x1 (h := 34) hT rfl rfl (by decide)) ?_
      refine Eq.trans (x31 (r := (a0 + 1)) (cl := 3) (as := [(0, a4)]) (st' := [(0, ((a3 * 40) + a5)), (2, ((((a1 + 22) + (1 + zix a2)) : Nat) : Int))]) (h := 35) hT rfl sm_16 rfl (kd_6_0 ha0)) ?_
      refine xbd (fun q5 => ?_)
      rw [rv_16]
      change zB P 181 36 [(2, ((a0 : Nat) : Int)), (2, ((a1 : Nat) : Int)), (0, a2), (0, a3), (0, a4), (0, a5)] [(0, q5.1), (0, ((a3 * 40) + a5)), (2, ((((a1 + 22) + (1 + zix a2)) : Nat) : Int))] q5.2 = _
      refine Eq.trans (x25a (r := ((a1 + 22) + (1 + zix a2))) (n := 1600) (h := 36) hT rfl (kq_9_3 ha1 (zix_lt hz4)) (lq_9_3 ha1 (zix_lt hz4)) (by decide) rfl) ?_
      refine xig (fun hz6 => ?_)
      refine Eq.trans (x4 (ls' := [(2, ((a0 : Nat) : Int)), (2, ((a1 : Nat) : Int)), (0, a2), (0, a3), (0, (a4 + 1)), (0, a5)]) (h := 37) hT rfl rfl rfl) ?_
      refine Eq.trans (x4 (ls' := [(2, ((a0 : Nat) : Int)), (2, ((a1 : Nat) : Int)), (0, a2), (0, a3), (0, (a4 + 1)), (0, (a5 + 1))]) (h := 38) hT rfl rfl rfl) ?_
      refine Eq.trans (x18 (h := 39) hT rfl) ?_
      exact rfl
/-! WordLinks$Rows.lettersIn(I)I -/
set_option maxRecDepth 100000 in
theorem e_182 {P : zP} {d : zD P} {a0 : Nat} {a1 : Int} (ha0 : zkd a0 = 7) : MM P 182 [(2, ((a0 : Nat) : Int)), (0, a1)] d = zB P 182 4 [(2, ((a0 : Nat) : Int)), (0, a1), (0, 0), (0, 0)] [] d := by
  have hT := cT_182
  refine Eq.trans (MM_def sm_182 (Nat.le_of_ble_eq_true rfl)) ?_
  change zB P 182 0 [(2, ((a0 : Nat) : Int)), (0, a1), (3, 0), (3, 0)] [] d = _
  refine Eq.trans (x0 (h := 0) hT rfl) ?_
  refine Eq.trans (x2 (ls' := [(2, ((a0 : Nat) : Int)), (0, a1), (0, 0), (3, 0)]) (h := 1) hT rfl (Nat.le_of_ble_eq_true rfl) rfl) ?_
  refine Eq.trans (x0 (h := 2) hT rfl) ?_
  refine Eq.trans (x2 (ls' := [(2, ((a0 : Nat) : Int)), (0, a1), (0, 0), (0, 0)]) (h := 3) hT rfl (Nat.le_of_ble_eq_true rfl) rfl) ?_
  exact rfl
set_option maxRecDepth 100000 in
theorem q_182_4 {P : zP} {d : zD P} {a0 : Nat} {a1 : Int} {a2 : Int} {a3 : Int} (ha0 : zkd a0 = 7) : zB P 182 4 [(2, ((a0 : Nat) : Int)), (0, a1), (0, a2), (0, a3)] [] d = ((MM P 25 [(2, ((a0 : Nat) : Int)), (0, a1)] d).bind fun q1 => (if wr q1.1 ≤ wr a3 then some (a2, q1.2) else ((MM P 112 [(2, ((a0 : Nat) : Int)), (0, a1), (0, a3)] q1.2).bind fun q2 => ((MM P 127 [(1, q2.1)] q2.2).bind fun q3 => zB P 182 4 [(2, ((a0 : Nat) : Int)), (0, a1), (0, (a2 + q3.1)), (0, (a3 + 1))] [] q3.2)))) := by
  have hT := cT_182
  refine Eq.trans (x1 (h := 4) hT rfl rfl (by decide)) ?_
  refine Eq.trans (x1 (h := 5) hT rfl rfl (by decide)) ?_
  refine Eq.trans (x1 (h := 6) hT rfl rfl (by decide)) ?_
  refine Eq.trans (x31 (r := a0) (cl := 7) (as := [(0, a1)]) (st' := [(0, a3)]) (h := 7) hT rfl sm_25 rfl ha0) ?_
  refine xbd (fun q1 => ?_)
  rw [rv_25]
  change zB P 182 8 [(2, ((a0 : Nat) : Int)), (0, a1), (0, a2), (0, a3)] [(0, q1.1), (0, a3)] q1.2 = _
  refine Eq.trans (x17_3 (h := 8) hT rfl) ?_
  refine xit (fun _ => ?_) (fun _ => ?_)
  · refine Eq.trans (x1 (h := 19) hT rfl rfl (by decide)) ?_
    exact x201 (h := 20) hT rfl
  · refine Eq.trans (x1 (h := 9) hT rfl rfl (by decide)) ?_
    refine Eq.trans (x1 (h := 10) hT rfl rfl (by decide)) ?_
    refine Eq.trans (x1 (h := 11) hT rfl rfl (by decide)) ?_
    refine Eq.trans (x1 (h := 12) hT rfl rfl (by decide)) ?_
    refine Eq.trans (x31 (r := a0) (cl := 7) (as := [(0, a1), (0, a3)]) (st' := [(0, a2)]) (h := 13) hT rfl sm_112 rfl ha0) ?_
    refine xbd (fun q2 => ?_)
    rw [rv_112]
    change zB P 182 14 [(2, ((a0 : Nat) : Int)), (0, a1), (0, a2), (0, a3)] [(1, q2.1), (0, a2)] q2.2 = _
    refine Eq.trans (x34 (as := [(1, q2.1)]) (st' := [(0, a2)]) (h := 14) hT rfl sm_127 rfl) ?_
    refine xbd (fun q3 => ?_)
    rw [rv_127]
    change zB P 182 15 [(2, ((a0 : Nat) : Int)), (0, a1), (0, a2), (0, a3)] [(0, q3.1), (0, a2)] q3.2 = _
    refine Eq.trans (x5_0 (h := 15) hT rfl) ?_
    refine Eq.trans (x2 (ls' := [(2, ((a0 : Nat) : Int)), (0, a1), (0, (a2 + q3.1)), (0, a3)]) (h := 16) hT rfl (Nat.le_of_ble_eq_true rfl) rfl) ?_
    refine Eq.trans (x4 (ls' := [(2, ((a0 : Nat) : Int)), (0, a1), (0, (a2 + q3.1)), (0, (a3 + 1))]) (h := 17) hT rfl rfl rfl) ?_
    refine Eq.trans (x18 (h := 18) hT rfl) ?_
    exact rfl
/-! WordLinks$Shape.findCut(LWordLinks$Linker;)Z -/
set_option maxRecDepth 100000 in
theorem e_183 {P : zP} {d : zD P} {a0 : Nat} {a1 : Nat} (ha0 : zkd a0 = 8) (ha1 : zkd a1 = 1) : MM P 183 [(2, ((a0 : Nat) : Int)), (2, ((a1 : Nat) : Int))] d = zB P 183 4 [(2, ((a0 : Nat) : Int)), (2, ((a1 : Nat) : Int)), (0, 0), (0, 1), (3, 0), (3, 0)] [] d := by
  have hT := cT_183
  refine Eq.trans (MM_def sm_183 (Nat.le_of_ble_eq_true rfl)) ?_
  change zB P 183 0 [(2, ((a0 : Nat) : Int)), (2, ((a1 : Nat) : Int)), (3, 0), (3, 0), (3, 0), (3, 0)] [] d = _
  refine Eq.trans (x0 (h := 0) hT rfl) ?_
  refine Eq.trans (x2 (ls' := [(2, ((a0 : Nat) : Int)), (2, ((a1 : Nat) : Int)), (0, 0), (3, 0), (3, 0), (3, 0)]) (h := 1) hT rfl (Nat.le_of_ble_eq_true rfl) rfl) ?_
  refine Eq.trans (x0 (h := 2) hT rfl) ?_
  refine Eq.trans (x2 (ls' := [(2, ((a0 : Nat) : Int)), (2, ((a1 : Nat) : Int)), (0, 0), (0, 1), (3, 0), (3, 0)]) (h := 3) hT rfl (Nat.le_of_ble_eq_true rfl) rfl) ?_
  exact rfl
set_option maxRecDepth 100000 in
theorem q_183_4 {P : zP} {d : zD P} {a0 : Nat} {a1 : Nat} {a2 : Int} {a3 : Int} {g4 : zV} {g5 : zV} (ha0 : zkd a0 = 8) (ha1 : zkd a1 = 1) : zB P 183 4 [(2, ((a0 : Nat) : Int)), (2, ((a1 : Nat) : Int)), (0, a2), (0, a3), g4, g5] [] d = (if wr ((d.m a1 4)) ≤ wr a3 then (if a2 = 0 ∨ a2 = 1 then some (a2, d) else none) else zB P 183 10 [(2, ((a0 : Nat) : Int)), (2, ((a1 : Nat) : Int)), (0, a2), (0, a3), (0, 1), g5] [] d) := by
  have hT := cT_183
  refine Eq.trans (x1 (h := 4) hT rfl rfl (by decide)) ?_
  refine Eq.trans (x1 (h := 5) hT rfl rfl (by decide)) ?_
  refine Eq.trans (x21 (r := a1) (cl := 1) (h := 6) hT rfl ha1) ?_
  refine Eq.trans (x17_3 (h := 7) hT rfl) ?_
  refine xit (fun _ => ?_) (fun _ => ?_)
  · refine Eq.trans (x1 (h := 51) hT rfl rfl (by decide)) ?_
    exact x203 (h := 52) hT rfl
  · refine Eq.trans (x0 (h := 8) hT rfl) ?_
    refine Eq.trans (x2 (ls' := [(2, ((a0 : Nat) : Int)), (2, ((a1 : Nat) : Int)), (0, a2), (0, a3), (0, 1), g5]) (h := 9) hT rfl (Nat.le_of_ble_eq_true rfl) rfl) ?_
    exact rfl
set_option maxRecDepth 100000 in
theorem q_183_10 {P : zP} {d : zD P} {a0 : Nat} {a1 : Nat} {a2 : Int} {a3 : Int} {a4 : Int} {g5 : zV} (ha0 : zkd a0 = 8) (ha1 : zkd a1 = 1) : zB P 183 10 [(2, ((a0 : Nat) : Int)), (2, ((a1 : Nat) : Int)), (0, a2), (0, a3), (0, a4), g5] [] d = (if wr ((d.m a1 5)) ≤ wr a4 then zB P 183 4 [(2, ((a0 : Nat) : Int)), (2, ((a1 : Nat) : Int)), (0, a2), (0, (a3 + 1)), (0, a4), g5] [] d else ((MM P 98 [(2, ((a1 : Nat) : Int)), (0, 0), (0, a3), (0, a4), (0, (d.m a1 5))] d).bind fun q1 => ((MM P 98 [(2, ((a1 : Nat) : Int)), (0, a3), (0, (q1.2.m a1 4)), (0, 0), (0, a4)] q1.2).bind fun q2 => (if wr a2 = 0 then zB P 183 10 [(2, ((a0 : Nat) : Int)), (2, ((a1 : Nat) : Int)), (0, 1), (0, a3), (0, (a4 + 1)), (0, (q1.1 + q2.1))] [] ((((((q2.2.up a0 1 a3)).up a0 2 a4)).up a0 3 ((q1.1 + q2.1)))) else (if wr ((q2.2.m a0 3)) ≤ wr ((q1.1 + q2.1)) then zB P 183 10 [(2, ((a0 : Nat) : Int)), (2, ((a1 : Nat) : Int)), (0, a2), (0, a3), (0, (a4 + 1)), (0, (q1.1 + q2.1))] [] q2.2 else zB P 183 10 [(2, ((a0 : Nat) : Int)), (2, ((a1 : Nat) : Int)), (0, 1), (0, a3), (0, (a4 + 1)), (0, (q1.1 + q2.1))] [] ((((((q2.2.up a0 1 a3)).up a0 2 a4)).up a0 3 ((q1.1 + q2.1))))))))) := by
  have hT := cT_183
  refine Eq.trans (x1 (h := 10) hT rfl rfl (by decide)) ?_
  refine Eq.trans (x1 (h := 11) hT rfl rfl (by decide)) ?_
  refine Eq.trans (x21 (r := a1) (cl := 1) (h := 12) hT rfl ha1) ?_
  refine Eq.trans (x17_3 (h := 13) hT rfl) ?_
  refine xit (fun _ => ?_) (fun _ => ?_)
  · refine Eq.trans (x4 (ls' := [(2, ((a0 : Nat) : Int)), (2, ((a1 : Nat) : Int)), (0, a2), (0, (a3 + 1)), (0, a4), g5]) (h := 49) hT rfl rfl rfl) ?_
    refine Eq.trans (x18 (h := 50) hT rfl) ?_
    exact rfl
  · refine Eq.trans (x1 (h := 14) hT rfl rfl (by decide)) ?_
    refine Eq.trans (x0 (h := 15) hT rfl) ?_
    refine Eq.trans (x1 (h := 16) hT rfl rfl (by decide)) ?_
    refine Eq.trans (x1 (h := 17) hT rfl rfl (by decide)) ?_
    refine Eq.trans (x1 (h := 18) hT rfl rfl (by decide)) ?_
    refine Eq.trans (x21 (r := a1) (cl := 1) (h := 19) hT rfl ha1) ?_
    refine Eq.trans (x31 (r := a1) (cl := 1) (as := [(0, 0), (0, a3), (0, a4), (0, (d.m a1 5))]) (st' := []) (h := 20) hT rfl sm_98 rfl ha1) ?_
    refine xbd (fun q1 => ?_)
    rw [rv_98]
    change zB P 183 21 [(2, ((a0 : Nat) : Int)), (2, ((a1 : Nat) : Int)), (0, a2), (0, a3), (0, a4), g5] [(0, q1.1)] q1.2 = _
    refine Eq.trans (x1 (h := 21) hT rfl rfl (by decide)) ?_
    refine Eq.trans (x1 (h := 22) hT rfl rfl (by decide)) ?_
    refine Eq.trans (x1 (h := 23) hT rfl rfl (by decide)) ?_
    refine Eq.trans (x21 (r := a1) (cl := 1) (h := 24) hT rfl ha1) ?_
    refine Eq.trans (x0 (h := 25) hT rfl) ?_
    refine Eq.trans (x1 (h := 26) hT rfl rfl (by decide)) ?_
    refine Eq.trans (x31 (r := a1) (cl := 1) (as := [(0, a3), (0, (q1.2.m a1 4)), (0, 0), (0, a4)]) (st' := [(0, q1.1)]) (h := 27) hT rfl sm_98 rfl ha1) ?_
    refine xbd (fun q2 => ?_)
    rw [rv_98]
    change zB P 183 28 [(2, ((a0 : Nat) : Int)), (2, ((a1 : Nat) : Int)), (0, a2), (0, a3), (0, a4), g5] [(0, q2.1), (0, q1.1)] q2.2 = _
    refine Eq.trans (x5_0 (h := 28) hT rfl) ?_
    refine Eq.trans (x2 (ls' := [(2, ((a0 : Nat) : Int)), (2, ((a1 : Nat) : Int)), (0, a2), (0, a3), (0, a4), (0, (q1.1 + q2.1))]) (h := 29) hT rfl (Nat.le_of_ble_eq_true rfl) rfl) ?_
    refine Eq.trans (x1 (h := 30) hT rfl rfl (by decide)) ?_
    refine Eq.trans (x16_0 (h := 31) hT rfl) ?_
    refine xit (fun _ => ?_) (fun _ => ?_)
    · refine Eq.trans (x0 (h := 36) hT rfl) ?_
      refine Eq.trans (x2 (ls' := [(2, ((a0 : Nat) : Int)), (2, ((a1 : Nat) : Int)), (0, 1), (0, a3), (0, a4), (0, (q1.1 + q2.1))]) (h := 37) hT rfl (Nat.le_of_ble_eq_true rfl) rfl) ?_
      refine Eq.trans (x1 (h := 38) hT rfl rfl (by decide)) ?_
      refine Eq.trans (x1 (h := 39) hT rfl rfl (by decide)) ?_
      refine Eq.trans (x22 (r := a0) (cl := 8) (h := 40) hT rfl ha0 (by decide) rfl (by decide)) ?_
      refine Eq.trans (x1 (h := 41) hT rfl rfl (by decide)) ?_
      refine Eq.trans (x1 (h := 42) hT rfl rfl (by decide)) ?_
      refine Eq.trans (x22 (r := a0) (cl := 8) (h := 43) hT rfl ha0 (by decide) rfl (by decide)) ?_
      refine Eq.trans (x1 (h := 44) hT rfl rfl (by decide)) ?_
      refine Eq.trans (x1 (h := 45) hT rfl rfl (by decide)) ?_
      refine Eq.trans (x22 (r := a0) (cl := 8) (h := 46) hT rfl ha0 (by decide) rfl (by decide)) ?_
      refine Eq.trans (x4 (ls' := [(2, ((a0 : Nat) : Int)), (2, ((a1 : Nat) : Int)), (0, 1), (0, a3), (0, (a4 + 1)), (0, (q1.1 + q2.1))]) (h := 47) hT rfl rfl rfl) ?_
      refine Eq.trans (x18 (h := 48) hT rfl) ?_
      exact rfl
    · refine Eq.trans (x1 (h := 32) hT rfl rfl (by decide)) ?_
      refine Eq.trans (x1 (h := 33) hT rfl rfl (by decide)) ?_
      refine Eq.trans (x21 (r := a0) (cl := 8) (h := 34) hT rfl ha0) ?_
      refine Eq.trans (x17_3 (h := 35) hT rfl) ?_
      refine xit (fun _ => ?_) (fun _ => ?_)
      · refine Eq.trans (x4 (ls' := [(2, ((a0 : Nat) : Int)), (2, ((a1 : Nat) : Int)), (0, a2), (0, a3), (0, (a4 + 1)), (0, (q1.1 + q2.1))]) (h := 47) hT rfl rfl rfl) ?_
        refine Eq.trans (x18 (h := 48) hT rfl) ?_
        exact rfl
      · refine Eq.trans (x0 (h := 36) hT rfl) ?_
        refine Eq.trans (x2 (ls' := [(2, ((a0 : Nat) : Int)), (2, ((a1 : Nat) : Int)), (0, 1), (0, a3), (0, a4), (0, (q1.1 + q2.1))]) (h := 37) hT rfl (Nat.le_of_ble_eq_true rfl) rfl) ?_
        refine Eq.trans (x1 (h := 38) hT rfl rfl (by decide)) ?_
        refine Eq.trans (x1 (h := 39) hT rfl rfl (by decide)) ?_
        refine Eq.trans (x22 (r := a0) (cl := 8) (h := 40) hT rfl ha0 (by decide) rfl (by decide)) ?_
        refine Eq.trans (x1 (h := 41) hT rfl rfl (by decide)) ?_
        refine Eq.trans (x1 (h := 42) hT rfl rfl (by decide)) ?_
        refine Eq.trans (x22 (r := a0) (cl := 8) (h := 43) hT rfl ha0 (by decide) rfl (by decide)) ?_
        refine Eq.trans (x1 (h := 44) hT rfl rfl (by decide)) ?_
        refine Eq.trans (x1 (h := 45) hT rfl rfl (by decide)) ?_
        refine Eq.trans (x22 (r := a0) (cl := 8) (h := 46) hT rfl ha0 (by decide) rfl (by decide)) ?_
        refine Eq.trans (x4 (ls' := [(2, ((a0 : Nat) : Int)), (2, ((a1 : Nat) : Int)), (0, 1), (0, a3), (0, (a4 + 1)), (0, (q1.1 + q2.1))]) (h := 47) hT rfl rfl rfl) ?_
        refine Eq.trans (x18 (h := 48) hT rfl) ?_
        exact rfl
/-! WordLinks$Shape.waysOfPart(LWordLinks$Linker;IIII)J -/
set_option maxRecDepth 100000 in
theorem e_184 {P : zP} {d : zD P} {a0 : Nat} {a1 : Nat} {a2 : Int} {a3 : Int} {a4 : Int} {a5 : Int} (ha0 : zkd a0 = 8) (ha1 : zkd a1 = 1) : MM P 184 [(2, ((a0 : Nat) : Int)), (2, ((a1 : Nat) : Int)), (0, a2), (0, a3), (0, a4), (0, a5)] d = zB P 184 4 [(2, ((a0 : Nat) : Int)), (2, ((a1 : Nat) : Int)), (0, a2), (0, a3), (0, a4), (0, a5), (1, 0), (3, 0), (0, 1), (3, 0), (3, 0), (3, 0)] [] d := by
  have hT := cT_184
  refine Eq.trans (MM_def sm_184 (Nat.le_of_ble_eq_true rfl)) ?_
  change zB P 184 0 [(2, ((a0 : Nat) : Int)), (2, ((a1 : Nat) : Int)), (0, a2), (0, a3), (0, a4), (0, a5), (3, 0), (3, 0), (3, 0), (3, 0), (3, 0), (3, 0)] [] d = _
  refine Eq.trans (x0 (h := 0) hT rfl) ?_
  refine Eq.trans (x3 (ls' := [(2, ((a0 : Nat) : Int)), (2, ((a1 : Nat) : Int)), (0, a2), (0, a3), (0, a4), (0, a5), (1, 0), (3, 0), (3, 0), (3, 0), (3, 0), (3, 0)]) (h := 1) hT rfl (Nat.le_of_ble_eq_true rfl) rfl) ?_
  refine Eq.trans (x0 (h := 2) hT rfl) ?_
  refine Eq.trans (x2 (ls' := [(2, ((a0 : Nat) : Int)), (2, ((a1 : Nat) : Int)), (0, a2), (0, a3), (0, a4), (0, a5), (1, 0), (3, 0), (0, 1), (3, 0), (3, 0), (3, 0)]) (h := 3) hT rfl (Nat.le_of_ble_eq_true rfl) rfl) ?_
  exact rfl
set_option maxRecDepth 100000 in
theorem q_184_4 {P : zP} {d : zD P} {a0 : Nat} {a1 : Nat} {a2 : Int} {a3 : Int} {a4 : Int} {a5 : Int} {a6 : Int} {g7 : zV} {a8 : Int} {g9 : zV} {g10 : zV} {g11 : zV} (ha0 : zkd a0 = 8) (ha1 : zkd a1 = 1) : zB P 184 4 [(2, ((a0 : Nat) : Int)), (2, ((a1 : Nat) : Int)), (0, a2), (0, a3), (0, a4), (0, a5), (1, a6), g7, (0, a8), g9, g10, g11] [] d = (if wr a3 ≤ wr a8 then some (a6, d) else zB P 184 9 [(2, ((a0 : Nat) : Int)), (2, ((a1 : Nat) : Int)), (0, a2), (0, a3), (0, a4), (0, a5), (1, a6), g7, (0, a8), (0, 1), g10, g11] [] d) := by
  have hT := cT_184
  refine Eq.trans (x1 (h := 4) hT rfl rfl (by decide)) ?_
  refine Eq.trans (x1 (h := 5) hT rfl rfl (by decide)) ?_
  refine Eq.trans (x17_3 (h := 6) hT rfl) ?_
  refine xit (fun _ => ?_) (fun _ => ?_)
  · refine Eq.trans (x1 (h := 136) hT rfl rfl (by decide)) ?_
    exact x202 (h := 137) hT rfl
  · refine Eq.trans (x0 (h := 7) hT rfl) ?_
    refine Eq.trans (x2 (ls' := [(2, ((a0 : Nat) : Int)), (2, ((a1 : Nat) : Int)), (0, a2), (0, a3), (0, a4), (0, a5), (1, a6), g7, (0, a8), (0, 1), g10, g11]) (h := 8) hT rfl (Nat.le_of_ble_eq_true rfl) rfl) ?_
    exact rfl
set_option maxRecDepth 100000 in
theorem q_184_9 {P : zP} {d : zD P} {a0 : Nat} {a1 : Nat} {a2 : Int} {a3 : Int} {a4 : Int} {a5 : Int} {a6 : Int} {g7 : zV} {a8 : Int} {a9 : Int} {g10 : zV} {g11 : zV} (ha0 : zkd a0 = 8) (ha1 : zkd a1 = 1) : zB P 184 9 [(2, ((a0 : Nat) : Int)), (2, ((a1 : Nat) : Int)), (0, a2), (0, a3), (0, a4), (0, a5), (1, a6), g7, (0, a8), (0, a9), g10, g11] [] d = (if wr a5 ≤ wr a9 then zB P 184 4 [(2, ((a0 : Nat) : Int)), (2, ((a1 : Nat) : Int)), (0, a2), (0, a3), (0, a4), (0, a5), (1, a6), (if (g7).1 = 1 then (3, 0) else g7), (0, (a8 + 1)), (0, a9), g10, g11] [] d else ((MM P 98 [(2, ((a1 : Nat) : Int)), (0, a2), (0, (a2 + a8)), (0, (a4 + a9)), (0, (a4 + a5))] d).bind fun q1 => (if 0 < wr q1.1 then zB P 184 38 [(2, ((a0 : Nat) : Int)), (2, ((a1 : Nat) : Int)), (0, a2), (0, a3), (0, a4), (0, a5), (1, a6), g7, (0, a8), (0, a9), g10, g11] [] q1.2 else ((MM P 98 [(2, ((a1 : Nat) : Int)), (0, (a2 + a8)), (0, (a2 + a3)), (0, a4), (0, (a4 + a9))] q1.2).bind fun q2 => (if wr q2.1 ≤ 0 then ((MM P 98 [(2, ((a1 : Nat) : Int)), (0, a2), (0, (a2 + a8)), (0, a4), (0, (a4 + a9))] q2.2).bind fun q3 => (if 0 < wr q3.1 then zB P 184 68 [(2, ((a0 : Nat) : Int)), (2, ((a1 : Nat) : Int)), (0, a2), (0, a3), (0, a4), (0, a5), (1, a6), g7, (0, a8), (0, a9), (0, 0), g11] [] q3.2 else ((MM P 98 [(2, ((a1 : Nat) : Int)), (0, (a2 + a8)), (0, (a2 + a3)), (0, (a4 + a9)), (0, (a4 + a5))] q3.2).bind fun q4 => (if wr q4.1 ≤ 0 then (if wr 0 ≠ 0 then zB P 184 102 [(2, ((a0 : Nat) : Int)), (2, ((a1 : Nat) : Int)), (0, a2), (0, a3), (0, a4), (0, a5), (1, a6), g7, (0, a8), (0, a9), (0, 0), (0, 0)] [] q4.2 else ((MM P 28 [(0, a2), (0, a8), (0, a4), (0, a9)] q4.2).bind fun q5 => (if zin q5.1 2401 then ((MM P 28 [(0, (a2 + a8)), (0, (a3 - a8)), (0, (a4 + a9)), (0, (a5 - a9))] q5.2).bind fun q7 => (if zin q7.1 2401 then zB P 184 102 [(2, ((a0 : Nat) : Int)), (2, ((a1 : Nat) : Int)), (0, a2), (0, a3), (0, a4), (0, a5), (1, (a6 + ((q5.2.m ((a0 + 1)) (zix q5.1)) * (q7.2.m ((a0 + 1)) (zix q7.1))))), (3, 0), (0, a8), (0, a9), (0, 0), (0, 0)] [] q7.2 else none)) else none))) else zB P 184 68 [(2, ((a0 : Nat) : Int)), (2, ((a1 : Nat) : Int)), (0, a2), (0, a3), (0, a4), (0, a5), (1, a6), g7, (0, a8), (0, a9), (0, 0), g11] [] q4.2)))) else zB P 184 38 [(2, ((a0 : Nat) : Int)), (2, ((a1 : Nat) : Int)), (0, a2), (0, a3), (0, a4), (0, a5), (1, a6), g7, (0, a8), (0, a9), g10, g11] [] q2.2))))) := by
  have hT := cT_184
  refine Eq.trans (x1 (h := 9) hT rfl rfl (by decide)) ?_
  refine Eq.trans (x1 (h := 10) hT rfl rfl (by decide)) ?_
  refine Eq.trans (x17_3 (h := 11) hT rfl) ?_
  refine xit (fun _ => ?_) (fun _ => ?_)
  · refine Eq.trans (x4 (ls' := [(2, ((a0 : Nat) : Int)), (2, ((a1 : Nat) : Int)), (0, a2), (0, a3), (0, a4), (0, a5), (1, a6), (if (g7).1 = 1 then (3, 0) else g7), (0, (a8 + 1)), (0, a9), g10, g11]) (h := 134) hT rfl rfl rfl) ?_
    refine Eq.trans (x18 (h := 135) hT rfl) ?_
    exact rfl
  · refine Eq.trans (x1 (h := 12) hT rfl rfl (by decide)) ?_
    refine Eq.trans (x1 (h := 13) hT rfl rfl (by decide)) ?_
    refine Eq.trans (x1 (h := 14) hT rfl rfl (by decide)) ?_
    refine Eq.trans (x1 (h := 15) hT rfl rfl (by decide)) ?_
    refine Eq.trans (x5_0 (h := 16) hT rfl) ?_
    refine Eq.trans (x1 (h := 17) hT rfl rfl (by decide)) ?_
    refine Eq.trans (x1 (h := 18) hT rfl rfl (by decide)) ?_
    refine Eq.trans (x5_0 (h := 19) hT rfl) ?_
    refine Eq.trans (x1 (h := 20) hT rfl rfl (by decide)) ?_
    refine Eq.trans (x1 (h := 21) hT rfl rfl (by decide)) ?_
    refine Eq.trans (x5_0 (h := 22) hT rfl) ?_
    refine Eq.trans (x31 (r := a1) (cl := 1) (as := [(0, a2), (0, (a2 + a8)), (0, (a4 + a9)), (0, (a4 + a5))]) (st' := []) (h := 23) hT rfl sm_98 rfl ha1) ?_
    refine xbd (fun q1 => ?_)
    rw [rv_98]
    change zB P 184 24 [(2, ((a0 : Nat) : Int)), (2, ((a1 : Nat) : Int)), (0, a2), (0, a3), (0, a4), (0, a5), (1, a6), g7, (0, a8), (0, a9), g10, g11] [(0, q1.1)] q1.2 = _
    refine Eq.trans (x16_4 (h := 24) hT rfl) ?_
    refine xit (fun _ => ?_) (fun _ => ?_)
    · exact rfl
    · refine Eq.trans (x1 (h := 25) hT rfl rfl (by decide)) ?_
      refine Eq.trans (x1 (h := 26) hT rfl rfl (by decide)) ?_
      refine Eq.trans (x1 (h := 27) hT rfl rfl (by decide)) ?_
      refine Eq.trans (x5_0 (h := 28) hT rfl) ?_
      refine Eq.trans (x1 (h := 29) hT rfl rfl (by decide)) ?_
      refine Eq.trans (x1 (h := 30) hT rfl rfl (by decide)) ?_
      refine Eq.trans (x5_0 (h := 31) hT rfl) ?_
      refine Eq.trans (x1 (h := 32) hT rfl rfl (by decide)) ?_
      refine Eq.trans (x1 (h := 33) hT rfl rfl (by decide)) ?_
      refine Eq.trans (x1 (h := 34) hT rfl rfl (by decide)) ?_
      refine Eq.trans (x5_0 (h := 35) hT rfl) ?_
      refine Eq.trans (x31 (r := a1) (cl := 1) (as := [(0, (a2 + a8)), (0, (a2 + a3)), (0, a4), (0, (a4 + a9))]) (st' := []) (h := 36) hT rfl sm_98 rfl ha1) ?_
      refine xbd (fun q2 => ?_)
      rw [rv_98]
      change zB P 184 37 [(2, ((a0 : Nat) : Int)), (2, ((a1 : Nat) : Int)), (0, a2), (0, a3), (0, a4), (0, a5), (1, a6), g7, (0, a8), (0, a9), g10, g11] [(0, q2.1)] q2.2 = _
      refine Eq.trans (x16_5 (h := 37) hT rfl) ?_
      refine xit (fun _ => ?_) (fun _ => ?_)
      · refine Eq.trans (x0 (h := 40) hT rfl) ?_
        refine Eq.trans (x2 (ls' := [(2, ((a0 : Nat) : Int)), (2, ((a1 : Nat) : Int)), (0, a2), (0, a3), (0, a4), (0, a5), (1, a6), g7, (0, a8), (0, a9), (0, 0), g11]) (h := 41) hT rfl (Nat.le_of_ble_eq_true rfl) rfl) ?_
        refine Eq.trans (x1 (h := 42) hT rfl rfl (by decide)) ?_
        refine Eq.trans (x1 (h := 43) hT rfl rfl (by decide)) ?_
        refine Eq.trans (x1 (h := 44) hT rfl rfl (by decide)) ?_
        refine Eq.trans (x1 (h := 45) hT rfl rfl (by decide)) ?_
        refine Eq.trans (x5_0 (h := 46) hT rfl) ?_
        refine Eq.trans (x1 (h := 47) hT rfl rfl (by decide)) ?_
        refine Eq.trans (x1 (h := 48) hT rfl rfl (by decide)) ?_
        refine Eq.trans (x1 (h := 49) hT rfl rfl (by decide)) ?_
        refine Eq.trans (x5_0 (h := 50) hT rfl) ?_
        refine Eq.trans (x31 (r := a1) (cl := 1) (as := [(0, a2), (0, (a2 + a8)), (0, a4), (0, (a4 + a9))]) (st' := []) (h := 51) hT rfl sm_98 rfl ha1) ?_
        refine xbd (fun q3 => ?_)
        rw [rv_98]
        change zB P 184 52 [(2, ((a0 : Nat) : Int)), (2, ((a1 : Nat) : Int)), (0, a2), (0, a3), (0, a4), (0, a5), (1, a6), g7, (0, a8), (0, a9), (0, 0), g11] [(0, q3.1)] q3.2 = _
        refine Eq.trans (x16_4 (h := 52) hT rfl) ?_
        refine xit (fun _ => ?_) (fun _ => ?_)
        · exact rfl
        · refine Eq.trans (x1 (h := 53) hT rfl rfl (by decide)) ?_
          refine Eq.trans (x1 (h := 54) hT rfl rfl (by decide)) ?_
          refine Eq.trans (x1 (h := 55) hT rfl rfl (by decide)) ?_
          refine Eq.trans (x5_0 (h := 56) hT rfl) ?_
          refine Eq.trans (x1 (h := 57) hT rfl rfl (by decide)) ?_
          refine Eq.trans (x1 (h := 58) hT rfl rfl (by decide)) ?_
          refine Eq.trans (x5_0 (h := 59) hT rfl) ?_
          refine Eq.trans (x1 (h := 60) hT rfl rfl (by decide)) ?_
          refine Eq.trans (x1 (h := 61) hT rfl rfl (by decide)) ?_
          refine Eq.trans (x5_0 (h := 62) hT rfl) ?_
          refine Eq.trans (x1 (h := 63) hT rfl rfl (by decide)) ?_
          refine Eq.trans (x1 (h := 64) hT rfl rfl (by decide)) ?_
          refine Eq.trans (x5_0 (h := 65) hT rfl) ?_
          refine Eq.trans (x31 (r := a1) (cl := 1) (as := [(0, (a2 + a8)), (0, (a2 + a3)), (0, (a4 + a9)), (0, (a4 + a5))]) (st' := []) (h := 66) hT rfl sm_98 rfl ha1) ?_
          refine xbd (fun q4 => ?_)
          rw [rv_98]
          change zB P 184 67 [(2, ((a0 : Nat) : Int)), (2, ((a1 : Nat) : Int)), (0, a2), (0, a3), (0, a4), (0, a5), (1, a6), g7, (0, a8), (0, a9), (0, 0), g11] [(0, q4.1)] q4.2 = _
          refine Eq.trans (x16_5 (h := 67) hT rfl) ?_
          refine xit (fun _ => ?_) (fun _ => ?_)
          · refine Eq.trans (x0 (h := 70) hT rfl) ?_
            refine Eq.trans (x2 (ls' := [(2, ((a0 : Nat) : Int)), (2, ((a1 : Nat) : Int)), (0, a2), (0, a3), (0, a4), (0, a5), (1, a6), g7, (0, a8), (0, a9), (0, 0), (0, 0)]) (h := 71) hT rfl (Nat.le_of_ble_eq_true rfl) rfl) ?_
            refine Eq.trans (x1 (h := 72) hT rfl rfl (by decide)) ?_
            refine Eq.trans (x16_1 (h := 73) hT rfl) ?_
            refine xit (fun _ => ?_) (fun _ => ?_)
            · exact rfl
            · refine Eq.trans (x1 (h := 74) hT rfl rfl (by decide)) ?_
              refine Eq.trans (x1 (h := 75) hT rfl rfl (by decide)) ?_
              refine Eq.trans (x21r (r := a0) (cl := 8) (o := 1) (h := 76) hT rfl ha0 (by decide) rfl) ?_
              refine Eq.trans (x1 (h := 77) hT rfl rfl (by decide)) ?_
              refine Eq.trans (x1 (h := 78) hT rfl rfl (by decide)) ?_
              refine Eq.trans (x1 (h := 79) hT rfl rfl (by decide)) ?_
              refine Eq.trans (x1 (h := 80) hT rfl rfl (by decide)) ?_
              refine Eq.trans (x34 (as := [(0, a2), (0, a8), (0, a4), (0, a9)]) (st' := [(2, (((a0 + 1) : Nat) : Int)), (1, a6)]) (h := 81) hT rfl sm_28 rfl) ?_
              refine xbd (fun q5 => ?_)
              rw [rv_28]
              change zB P 184 82 [(2, ((a0 : Nat) : Int)), (2, ((a1 : Nat) : Int)), (0, a2), (0, a3), (0, a4), (0, a5), (1, a6), g7, (0, a8), (0, a9), (0, 0), (0, 0)] [(0, q5.1), (2, (((a0 + 1) : Nat) : Int)), (1, a6)] q5.2 = _
              refine Eq.trans (x24 (r := (a0 + 1)) (n := 2401) (h := 82) hT rfl (Or.inl (kd_8_0 ha0)) (ln_8_0 ha0)) ?_
              refine xig (fun hz6 => ?_)
              refine Eq.trans (x1 (h := 83) hT rfl rfl (by decide)) ?_
              refine Eq.trans (x21r (r := a0) (cl := 8) (o := 1) (h := 84) hT rfl ha0 (by decide) rfl) ?_
              refine Eq.trans (x1 (h := 85) hT rfl rfl (by decide)) ?_
              refine Eq.trans (x1 (h := 86) hT rfl rfl (by decide)) ?_
              refine Eq.trans (x5_0 (h := 87) hT rfl) ?_
              refine Eq.trans (x1 (h := 88) hT rfl rfl (by decide)) ?_
              refine Eq.trans (x1 (h := 89) hT rfl rfl (by decide)) ?_
              refine Eq.trans (x5_1 (h := 90) hT rfl) ?_
              refine Eq.trans (x1 (h := 91) hT rfl rfl (by decide)) ?_
              refine Eq.trans (x1 (h := 92) hT rfl rfl (by decide)) ?_
              refine Eq.trans (x5_0 (h := 93) hT rfl) ?_
              refine Eq.trans (x1 (h := 94) hT rfl rfl (by decide)) ?_
              refine Eq.trans (x1 (h := 95) hT rfl rfl (by decide)) ?_
              refine Eq.trans (x5_1 (h := 96) hT rfl) ?_
              refine Eq.trans (x34 (as := [(0, (a2 + a8)), (0, (a3 - a8)), (0, (a4 + a9)), (0, (a5 - a9))]) (st' := [(2, (((a0 + 1) : Nat) : Int)), (1, (q5.2.m ((a0 + 1)) (zix q5.1))), (1, a6)]) (h := 97) hT rfl sm_28 rfl) ?_
              refine xbd (fun q7 => ?_)
              rw [rv_28]
              change zB P 184 98 [(2, ((a0 : Nat) : Int)), (2, ((a1 : Nat) : Int)), (0, a2), (0, a3), (0, a4), (0, a5), (1, a6), g7, (0, a8), (0, a9), (0, 0), (0, 0)] [(0, q7.1), (2, (((a0 + 1) : Nat) : Int)), (1, (q5.2.m ((a0 + 1)) (zix q5.1))), (1, a6)] q7.2 = _
              refine Eq.trans (x24 (r := (a0 + 1)) (n := 2401) (h := 98) hT rfl (Or.inl (kd_8_0 ha0)) (ln_8_0 ha0)) ?_
              refine xig (fun hz8 => ?_)
              refine Eq.trans (x8_2 (h := 99) hT rfl) ?_
              refine Eq.trans (x8_0 (h := 100) hT rfl) ?_
              refine Eq.trans (x3 (ls' := [(2, ((a0 : Nat) : Int)), (2, ((a1 : Nat) : Int)), (0, a2), (0, a3), (0, a4), (0, a5), (1, (a6 + ((q5.2.m ((a0 + 1)) (zix q5.1)) * (q7.2.m ((a0 + 1)) (zix q7.1))))), (3, 0), (0, a8), (0, a9), (0, 0), (0, 0)]) (h := 101) hT rfl (Nat.le_of_ble_eq_true rfl) rfl) ?_
              exact rfl
          · exact rfl
      · exact rfl
set_option maxRecDepth 100000 in
theorem q_184_38 {P : zP} {d : zD P} {a0 : Nat} {a1 : Nat} {a2 : Int} {a3 : Int} {a4 : Int} {a5 : Int} {a6 : Int} {g7 : zV} {a8 : Int} {a9 : Int} {g10 : zV} {g11 : zV} (ha0 : zkd a0 = 8) (ha1 : zkd a1 = 1) : zB P 184 38 [(2, ((a0 : Nat) : Int)), (2, ((a1 : Nat) : Int)), (0, a2), (0, a3), (0, a4), (0, a5), (1, a6), g7, (0, a8), (0, a9), g10, g11] [] d = ((MM P 98 [(2, ((a1 : Nat) : Int)), (0, a2), (0, (a2 + a8)), (0, a4), (0, (a4 + a9))] d).bind fun q9 => (if 0 < wr q9.1 then zB P 184 68 [(2, ((a0 : Nat) : Int)), (2, ((a1 : Nat) : Int)), (0, a2), (0, a3), (0, a4), (0, a5), (1, a6), g7, (0, a8), (0, a9), (0, 1), g11] [] q9.2 else ((MM P 98 [(2, ((a1 : Nat) : Int)), (0, (a2 + a8)), (0, (a2 + a3)), (0, (a4 + a9)), (0, (a4 + a5))] q9.2).bind fun q10 => (if wr q10.1 ≤ 0 then (if wr 1 ≠ 0 then zB P 184 102 [(2, ((a0 : Nat) : Int)), (2, ((a1 : Nat) : Int)), (0, a2), (0, a3), (0, a4), (0, a5), (1, a6), g7, (0, a8), (0, a9), (0, 1), (0, 0)] [] q10.2 else ((MM P 28 [(0, a2), (0, a8), (0, a4), (0, a9)] q10.2).bind fun q11 => (if zin q11.1 2401 then ((MM P 28 [(0, (a2 + a8)), (0, (a3 - a8)), (0, (a4 + a9)), (0, (a5 - a9))] q11.2).bind fun q13 => (if zin q13.1 2401 then zB P 184 102 [(2, ((a0 : Nat) : Int)), (2, ((a1 : Nat) : Int)), (0, a2), (0, a3), (0, a4), (0, a5), (1, (a6 + ((q11.2.m ((a0 + 1)) (zix q11.1)) * (q13.2.m ((a0 + 1)) (zix q13.1))))), (3, 0), (0, a8), (0, a9), (0, 1), (0, 0)] [] q13.2 else none)) else none))) else zB P 184 68 [(2, ((a0 : Nat) : Int)), (2, ((a1 : Nat) : Int)), (0, a2), (0, a3), (0, a4), (0, a5), (1, a6), g7, (0, a8), (0, a9), (0, 1), g11] [] q10.2)))) := by
  have hT := cT_184
  refine Eq.trans (x0 (h := 38) hT rfl) ?_
  refine Eq.trans (x18 (h := 39) hT rfl) ?_
  refine Eq.trans (x2 (ls' := [(2, ((a0 : Nat) : Int)), (2, ((a1 : Nat) : Int)), (0, a2), (0, a3), (0, a4), (0, a5), (1, a6), g7, (0, a8), (0, a9), (0, 1), g11]) (h := 41) hT rfl (Nat.le_of_ble_eq_true rfl) rfl) ?_
  refine Eq.trans (x1 (h := 42) hT rfl rfl (by decide)) ?_
  refine Eq.trans (x1 (h := 43) hT rfl rfl (by decide)) ?_
  refine Eq.trans (x1 (h := 44) hT rfl rfl (by decide)) ?_
  refine Eq.trans (x1 (h := 45) hT rfl rfl (by decide)) ?_
  refine Eq.trans (x5_0 (h := 46) hT rfl) ?_
  refine Eq.trans (x1 (h := 47) hT rfl rfl (by decide)) ?_
  refine Eq.trans (x1 (h := 48) hT rfl rfl (by decide)) ?_
  refine Eq.trans (x1 (h := 49) hT rfl rfl (by decide)) ?_
  refine Eq.trans (x5_0 (h := 50) hT rfl) ?_
  refine Eq.trans (x31 (r := a1) (cl := 1) (as := [(0, a2), (0, (a2 + a8)), (0, a4), (0, (a4 + a9))]) (st' := []) (h := 51) hT rfl sm_98 rfl ha1) ?_
  refine xbd (fun q9 => ?_)
  rw [rv_98]
  change zB P 184 52 [(2, ((a0 : Nat) : Int)), (2, ((a1 : Nat) : Int)), (0, a2), (0, a3), (0, a4), (0, a5), (1, a6), g7, (0, a8), (0, a9), (0, 1), g11] [(0, q9.1)] q9.2 = _
  refine Eq.trans (x16_4 (h := 52) hT rfl) ?_
  refine xit (fun _ => ?_) (fun _ => ?_)
  · exact rfl
  · refine Eq.trans (x1 (h := 53) hT rfl rfl (by decide)) ?_
    refine Eq.trans (x1 (h := 54) hT rfl rfl (by decide)) ?_
    refine Eq.trans (x1 (h := 55) hT rfl rfl (by decide)) ?_
    refine Eq.trans (x5_0 (h := 56) hT rfl) ?_
    refine Eq.trans (x1 (h := 57) hT rfl rfl (by decide)) ?_
    refine Eq.trans (x1 (h := 58) hT rfl rfl (by decide)) ?_
    refine Eq.trans (x5_0 (h := 59) hT rfl) ?_
    refine Eq.trans (x1 (h := 60) hT rfl rfl (by decide)) ?_
    refine Eq.trans (x1 (h := 61) hT rfl rfl (by decide)) ?_
    refine Eq.trans (x5_0 (h := 62) hT rfl) ?_
    refine Eq.trans (x1 (h := 63) hT rfl rfl (by decide)) ?_
    refine Eq.trans (x1 (h := 64) hT rfl rfl (by decide)) ?_
    refine Eq.trans (x5_0 (h := 65) hT rfl) ?_
    refine Eq.trans (x31 (r := a1) (cl := 1) (as := [(0, (a2 + a8)), (0, (a2 + a3)), (0, (a4 + a9)), (0, (a4 + a5))]) (st' := []) (h := 66) hT rfl sm_98 rfl ha1) ?_
    refine xbd (fun q10 => ?_)
    rw [rv_98]
    change zB P 184 67 [(2, ((a0 : Nat) : Int)), (2, ((a1 : Nat) : Int)), (0, a2), (0, a3), (0, a4), (0, a5), (1, a6), g7, (0, a8), (0, a9), (0, 1), g11] [(0, q10.1)] q10.2 = _
    refine Eq.trans (x16_5 (h := 67) hT rfl) ?_
    refine xit (fun _ => ?_) (fun _ => ?_)
    · refine Eq.trans (x0 (h := 70) hT rfl) ?_
      refine Eq.trans (x2 (ls' := [(2, ((a0 : Nat) : Int)), (2, ((a1 : Nat) : Int)), (0, a2), (0, a3), (0, a4), (0, a5), (1, a6), g7, (0, a8), (0, a9), (0, 1), (0, 0)]) (h := 71) hT rfl (Nat.le_of_ble_eq_true rfl) rfl) ?_
      refine Eq.trans (x1 (h := 72) hT rfl rfl (by decide)) ?_
      refine Eq.trans (x16_1 (h := 73) hT rfl) ?_
      refine xit (fun _ => ?_) (fun _ => ?_)
      · exact rfl
      · refine Eq.trans (x1 (h := 74) hT rfl rfl (by decide)) ?_
        refine Eq.trans (x1 (h := 75) hT rfl rfl (by decide)) ?_
        refine Eq.trans (x21r (r := a0) (cl := 8) (o := 1) (h := 76) hT rfl ha0 (by decide) rfl) ?_
        refine Eq.trans (x1 (h := 77) hT rfl rfl (by decide)) ?_
        refine Eq.trans (x1 (h := 78) hT rfl rfl (by decide)) ?_
        refine Eq.trans (x1 (h := 79) hT rfl rfl (by decide)) ?_
        refine Eq.trans (x1 (h := 80) hT rfl rfl (by decide)) ?_
        refine Eq.trans (x34 (as := [(0, a2), (0, a8), (0, a4), (0, a9)]) (st' := [(2, (((a0 + 1) : Nat) : Int)), (1, a6)]) (h := 81) hT rfl sm_28 rfl) ?_
        refine xbd (fun q11 => ?_)
        rw [rv_28]
        change zB P 184 82 [(2, ((a0 : Nat) : Int)), (2, ((a1 : Nat) : Int)), (0, a2), (0, a3), (0, a4), (0, a5), (1, a6), g7, (0, a8), (0, a9), (0, 1), (0, 0)] [(0, q11.1), (2, (((a0 + 1) : Nat) : Int)), (1, a6)] q11.2 = _
        refine Eq.trans (x24 (r := (a0 + 1)) (n := 2401) (h := 82) hT rfl (Or.inl (kd_8_0 ha0)) (ln_8_0 ha0)) ?_
        refine xig (fun hz12 => ?_)
        refine Eq.trans (x1 (h := 83) hT rfl rfl (by decide)) ?_
        refine Eq.trans (x21r (r := a0) (cl := 8) (o := 1) (h := 84) hT rfl ha0 (by decide) rfl) ?_
        refine Eq.trans (x1 (h := 85) hT rfl rfl (by decide)) ?_
        refine Eq.trans (x1 (h := 86) hT rfl rfl (by decide)) ?_
        refine Eq.trans (x5_0 (h := 87) hT rfl) ?_
        refine Eq.trans (x1 (h := 88) hT rfl rfl (by decide)) ?_
        refine Eq.trans (x1 (h := 89) hT rfl rfl (by decide)) ?_
        refine Eq.trans (x5_1 (h := 90) hT rfl) ?_
        refine Eq.trans (x1 (h := 91) hT rfl rfl (by decide)) ?_
        refine Eq.trans (x1 (h := 92) hT rfl rfl (by decide)) ?_
        refine Eq.trans (x5_0 (h := 93) hT rfl) ?_
        refine Eq.trans (x1 (h := 94) hT rfl rfl (by decide)) ?_
        refine Eq.trans (x1 (h := 95) hT rfl rfl (by decide)) ?_
        refine Eq.trans (x5_1 (h := 96) hT rfl) ?_
        refine Eq.trans (x34 (as := [(0, (a2 + a8)), (0, (a3 - a8)), (0, (a4 + a9)), (0, (a5 - a9))]) (st' := [(2, (((a0 + 1) : Nat) : Int)), (1, (q11.2.m ((a0 + 1)) (zix q11.1))), (1, a6)]) (h := 97) hT rfl sm_28 rfl) ?_
        refine xbd (fun q13 => ?_)
        rw [rv_28]
        change zB P 184 98 [(2, ((a0 : Nat) : Int)), (2, ((a1 : Nat) : Int)), (0, a2), (0, a3), (0, a4), (0, a5), (1, a6), g7, (0, a8), (0, a9), (0, 1), (0, 0)] [(0, q13.1), (2, (((a0 + 1) : Nat) : Int)), (1, (q11.2.m ((a0 + 1)) (zix q11.1))), (1, a6)] q13.2 = _
        refine Eq.trans (x24 (r := (a0 + 1)) (n := 2401) (h := 98) hT rfl (Or.inl (kd_8_0 ha0)) (ln_8_0 ha0)) ?_
        refine xig (fun hz14 => ?_)
        refine Eq.trans (x8_2 (h := 99) hT rfl) ?_
        refine Eq.trans (x8_0 (h := 100) hT rfl) ?_
        refine Eq.trans (x3 (ls' := [(2, ((a0 : Nat) : Int)), (2, ((a1 : Nat) : Int)), (0, a2), (0, a3), (0, a4), (0, a5), (1, (a6 + ((q11.2.m ((a0 + 1)) (zix q11.1)) * (q13.2.m ((a0 + 1)) (zix q13.1))))), (3, 0), (0, a8), (0, a9), (0, 1), (0, 0)]) (h := 101) hT rfl (Nat.le_of_ble_eq_true rfl) rfl) ?_
        exact rfl
    · exact rfl
set_option maxRecDepth 100000 in
theorem q_184_68 {P : zP} {d : zD P} {a0 : Nat} {a1 : Nat} {a2 : Int} {a3 : Int} {a4 : Int} {a5 : Int} {a6 : Int} {g7 : zV} {a8 : Int} {a9 : Int} {a10 : Int} {g11 : zV} (ha0 : zkd a0 = 8) (ha1 : zkd a1 = 1) : zB P 184 68 [(2, ((a0 : Nat) : Int)), (2, ((a1 : Nat) : Int)), (0, a2), (0, a3), (0, a4), (0, a5), (1, a6), g7, (0, a8), (0, a9), (0, a10), g11] [] d = (if wr a10 ≠ 0 then zB P 184 102 [(2, ((a0 : Nat) : Int)), (2, ((a1 : Nat) : Int)), (0, a2), (0, a3), (0, a4), (0, a5), (1, a6), g7, (0, a8), (0, a9), (0, a10), (0, 1)] [] d else ((MM P 28 [(0, a2), (0, a8), (0, a4), (0, a9)] d).bind fun q15 => (if zin q15.1 2401 then ((MM P 28 [(0, (a2 + a8)), (0, (a3 - a8)), (0, (a4 + a9)), (0, (a5 - a9))] q15.2).bind fun q17 => (if zin q17.1 2401 then zB P 184 102 [(2, ((a0 : Nat) : Int)), (2, ((a1 : Nat) : Int)), (0, a2), (0, a3), (0, a4), (0, a5), (1, (a6 + ((q15.2.m ((a0 + 1)) (zix q15.1)) * (q17.2.m ((a0 + 1)) (zix q17.1))))), (3, 0), (0, a8), (0, a9), (0, a10), (0, 1)] [] q17.2 else none)) else none))) := by
  have hT := cT_184
  refine Eq.trans (x0 (h := 68) hT rfl) ?_
  refine Eq.trans (x18 (h := 69) hT rfl) ?_
  refine Eq.trans (x2 (ls' := [(2, ((a0 : Nat) : Int)), (2, ((a1 : Nat) : Int)), (0, a2), (0, a3), (0, a4), (0, a5), (1, a6), g7, (0, a8), (0, a9), (0, a10), (0, 1)]) (h := 71) hT rfl (Nat.le_of_ble_eq_true rfl) rfl) ?_
  refine Eq.trans (x1 (h := 72) hT rfl rfl (by decide)) ?_
  refine Eq.trans (x16_1 (h := 73) hT rfl) ?_
  refine xit (fun _ => ?_) (fun _ => ?_)
  · exact rfl
  · refine Eq.trans (x1 (h := 74) hT rfl rfl (by decide)) ?_
    refine Eq.trans (x1 (h := 75) hT rfl rfl (by decide)) ?_
    refine Eq.trans (x21r (r := a0) (cl := 8) (o := 1) (h := 76) hT rfl ha0 (by decide) rfl) ?_
    refine Eq.trans (x1 (h := 77) hT rfl rfl (by decide)) ?_
    refine Eq.trans (x1 (h := 78) hT rfl rfl (by decide)) ?_
    refine Eq.trans (x1 (h := 79) hT rfl rfl (by decide)) ?_
    refine Eq.trans (x1 (h := 80) hT rfl rfl (by decide)) ?_
    refine Eq.trans (x34 (as := [(0, a2), (0, a8), (0, a4), (0, a9)]) (st' := [(2, (((a0 + 1) : Nat) : Int)), (1, a6)]) (h := 81) hT rfl sm_28 rfl) ?_
    refine xbd (fun q15 => ?_)
    rw [rv_28]
    change zB P 184 82 [(2, ((a0 : Nat) : Int)), (2, ((a1 : Nat) : Int)), (0, a2), (0, a3), (0, a4), (0, a5), (1, a6), g7, (0, a8), (0, a9), (0, a10), (0, 1)] [(0, q15.1), (2, (((a0 + 1) : Nat) : Int)), (1, a6)] q15.2 = _
    refine Eq.trans (x24 (r := (a0 + 1)) (n := 2401) (h := 82) hT rfl (Or.inl (kd_8_0 ha0)) (ln_8_0 ha0)) ?_
    refine xig (fun hz16 => ?_)
    refine Eq.trans (x1 (h := 83) hT rfl rfl (by decide)) ?_
    refine Eq.trans (x21r (r := a0) (cl := 8) (o := 1) (h := 84) hT rfl ha0 (by decide) rfl) ?_
    refine Eq.trans (x1 (h := 85) hT rfl rfl (by decide)) ?_
    refine Eq.trans (x1 (h := 86) hT rfl rfl (by decide)) ?_
    refine Eq.trans (x5_0 (h := 87) hT rfl) ?_
    refine Eq.trans (x1 (h := 88) hT rfl rfl (by decide)) ?_
    refine Eq.trans (x1 (h := 89) hT rfl rfl (by decide)) ?_
    refine Eq.trans (x5_1 (h := 90) hT rfl) ?_
    refine Eq.trans (x1 (h := 91) hT rfl rfl (by decide)) ?_
    refine Eq.trans (x1 (h := 92) hT rfl rfl (by decide)) ?_
    refine Eq.trans (x5_0 (h := 93) hT rfl) ?_
    refine Eq.trans (x1 (h := 94) hT rfl rfl (by decide)) ?_
    refine Eq.trans (x1 (h := 95) hT rfl rfl (by decide)) ?_
    refine Eq.trans (x5_1 (h := 96) hT rfl) ?_
    refine Eq.trans (x34 (as := [(0, (a2 + a8)), (0, (a3 - a8)), (0, (a4 + a9)), (0, (a5 - a9))]) (st' := [(2, (((a0 + 1) : Nat) : Int)), (1, (q15.2.m ((a0 + 1)) (zix q15.1))), (1, a6)]) (h := 97) hT rfl sm_28 rfl) ?_
    refine xbd (fun q17 => ?_)
    rw [rv_28]
    change zB P 184 98 [(2, ((a0 : Nat) : Int)), (2, ((a1 : Nat) : Int)), (0, a2), (0, a3), (0, a4), (0, a5), (1, a6), g7, (0, a8), (0, a9), (0, a10), (0, 1)] [(0, q17.1), (2, (((a0 + 1) : Nat) : Int)), (1, (q15.2.m ((a0 + 1)) (zix q15.1))), (1, a6)] q17.2 = _
    refine Eq.trans (x24 (r := (a0 + 1)) (n := 2401) (h := 98) hT rfl (Or.inl (kd_8_0 ha0)) (ln_8_0 ha0)) ?_
    refine xig (fun hz18 => ?_)
    refine Eq.trans (x8_2 (h := 99) hT rfl) ?_
    refine Eq.trans (x8_0 (h := 100) hT rfl) ?_
    refine Eq.trans (x3 (ls' := [(2, ((a0 : Nat) : Int)), (2, ((a1 : Nat) : Int)), (0, a2), (0, a3), (0, a4), (0, a5), (1, (a6 + ((q15.2.m ((a0 + 1)) (zix q15.1)) * (q17.2.m ((a0 + 1)) (zix q17.1))))), (3, 0), (0, a8), (0, a9), (0, a10), (0, 1)]) (h := 101) hT rfl (Nat.le_of_ble_eq_true rfl) rfl) ?_
    exact rfl
set_option maxRecDepth 100000 in
theorem q_184_102 {P : zP} {d : zD P} {a0 : Nat} {a1 : Nat} {a2 : Int} {a3 : Int} {a4 : Int} {a5 : Int} {a6 : Int} {g7 : zV} {a8 : Int} {a9 : Int} {g10 : zV} {a11 : Int} (ha0 : zkd a0 = 8) (ha1 : zkd a1 = 1) : zB P 184 102 [(2, ((a0 : Nat) : Int)), (2, ((a1 : Nat) : Int)), (0, a2), (0, a3), (0, a4), (0, a5), (1, a6), g7, (0, a8), (0, a9), g10, (0, a11)] [] d = (if wr a11 ≠ 0 then zB P 184 132 [(2, ((a0 : Nat) : Int)), (2, ((a1 : Nat) : Int)), (0, a2), (0, a3), (0, a4), (0, a5), (1, a6), g7, (0, a8), (0, a9), g10, (0, a11)] [] d else ((MM P 28 [(0, a2), (0, a8), (0, (a4 + a9)), (0, (a5 - a9))] d).bind fun q19 => (if zin q19.1 2401 then ((MM P 28 [(0, (a2 + a8)), (0, (a3 - a8)), (0, a4), (0, a9)] q19.2).bind fun q21 => (if zin q21.1 2401 then zB P 184 132 [(2, ((a0 : Nat) : Int)), (2, ((a1 : Nat) : Int)), (0, a2), (0, a3), (0, a4), (0, a5), (1, (a6 + ((q19.2.m ((a0 + 1)) (zix q19.1)) * (q21.2.m ((a0 + 1)) (zix q21.1))))), (3, 0), (0, a8), (0, a9), g10, (0, a11)] [] q21.2 else none)) else none))) := by
  have hT := cT_184
  refine Eq.trans (x1 (h := 102) hT rfl rfl (by decide)) ?_
  refine Eq.trans (x16_1 (h := 103) hT rfl) ?_
  refine xit (fun _ => ?_) (fun _ => ?_)
  · exact rfl
  · refine Eq.trans (x1 (h := 104) hT rfl rfl (by decide)) ?_
    refine Eq.trans (x1 (h := 105) hT rfl rfl (by decide)) ?_
    refine Eq.trans (x21r (r := a0) (cl := 8) (o := 1) (h := 106) hT rfl ha0 (by decide) rfl) ?_
    refine Eq.trans (x1 (h := 107) hT rfl rfl (by decide)) ?_
    refine Eq.trans (x1 (h := 108) hT rfl rfl (by decide)) ?_
    refine Eq.trans (x1 (h := 109) hT rfl rfl (by decide)) ?_
    refine Eq.trans (x1 (h := 110) hT rfl rfl (by decide)) ?_
    refine Eq.trans (x5_0 (h := 111) hT rfl) ?_
    refine Eq.trans (x1 (h := 112) hT rfl rfl (by decide)) ?_
    refine Eq.trans (x1 (h := 113) hT rfl rfl (by decide)) ?_
    refine Eq.trans (x5_1 (h := 114) hT rfl) ?_
    refine Eq.trans (x34 (as := [(0, a2), (0, a8), (0, (a4 + a9)), (0, (a5 - a9))]) (st' := [(2, (((a0 + 1) : Nat) : Int)), (1, a6)]) (h := 115) hT rfl sm_28 rfl) ?_
    refine xbd (fun q19 => ?_)
    rw [rv_28]
    change zB P 184 116 [(2, ((a0 : Nat) : Int)), (2, ((a1 : Nat) : Int)), (0, a2), (0, a3), (0, a4), (0, a5), (1, a6), g7, (0, a8), (0, a9), g10, (0, a11)] [(0, q19.1), (2, (((a0 + 1) : Nat) : Int)), (1, a6)] q19.2 = _
    refine Eq.trans (x24 (r := (a0 + 1)) (n := 2401) (h := 116) hT rfl (Or.inl (kd_8_0 ha0)) (ln_8_0 ha0)) ?_
    refine xig (fun hz20 => ?_)
    refine Eq.trans (x1 (h := 117) hT rfl rfl (by decide)) ?_
    refine Eq.trans (x21r (r := a0) (cl := 8) (o := 1) (h := 118) hT rfl ha0 (by decide) rfl) ?_
    refine Eq.trans (x1 (h := 119) hT rfl rfl (by decide)) ?_
    refine Eq.trans (x1 (h := 120) hT rfl rfl (by decide)) ?_
    refine Eq.trans (x5_0 (h := 121) hT rfl) ?_
    refine Eq.trans (x1 (h := 122) hT rfl rfl (by decide)) ?_
    refine Eq.trans (x1 (h := 123) hT rfl rfl (by decide)) ?_
    refine Eq.trans (x5_1 (h := 124) hT rfl) ?_
    refine Eq.trans (x1 (h := 125) hT rfl rfl (by decide)) ?_
    refine Eq.trans (x1 (h := 126) hT rfl rfl (by decide)) ?_
    refine Eq.trans (x34 (as := [(0, (a2 + a8)), (0, (a3 - a8)), (0, a4), (0, a9)]) (st' := [(2, (((a0 + 1) : Nat) : Int)), (1, (q19.2.m ((a0 + 1)) (zix q19.1))), (1, a6)]) (h := 127) hT rfl sm_28 rfl) ?_
    refine xbd (fun q21 => ?_)
    rw [rv_28]
    change zB P 184 128 [(2, ((a0 : Nat) : Int)), (2, ((a1 : Nat) : Int)), (0, a2), (0, a3), (0, a4), (0, a5), (1, a6), g7, (0, a8), (0, a9), g10, (0, a11)] [(0, q21.1), (2, (((a0 + 1) : Nat) : Int)), (1, (q19.2.m ((a0 + 1)) (zix q19.1))), (1, a6)] q21.2 = _
    refine Eq.trans (x24 (r := (a0 + 1)) (n := 2401) (h := 128) hT rfl (Or.inl (kd_8_0 ha0)) (ln_8_0 ha0)) ?_
    refine xig (fun hz22 => ?_)
    refine Eq.trans (x8_2 (h := 129) hT rfl) ?_
    refine Eq.trans (x8_0 (h := 130) hT rfl) ?_
    refine Eq.trans (x3 (ls' := [(2, ((a0 : Nat) : Int)), (2, ((a1 : Nat) : Int)), (0, a2), (0, a3), (0, a4), (0, a5), (1, (a6 + ((q19.2.m ((a0 + 1)) (zix q19.1)) * (q21.2.m ((a0 + 1)) (zix q21.1))))), (3, 0), (0, a8), (0, a9), g10, (0, a11)]) (h := 131) hT rfl (Nat.le_of_ble_eq_true rfl) rfl) ?_
    exact rfl
set_option maxRecDepth 100000 in
theorem q_184_132 {P : zP} {d : zD P} {a0 : Nat} {a1 : Nat} {a2 : Int} {a3 : Int} {a4 : Int} {a5 : Int} {a6 : Int} {g7 : zV} {a8 : Int} {a9 : Int} {g10 : zV} {g11 : zV} (ha0 : zkd a0 = 8) (ha1 : zkd a1 = 1) : zB P 184 132 [(2, ((a0 : Nat) : Int)), (2, ((a1 : Nat) : Int)), (0, a2), (0, a3), (0, a4), (0, a5), (1, a6), g7, (0, a8), (0, a9), g10, g11] [] d = zB P 184 9 [(2, ((a0 : Nat) : Int)), (2, ((a1 : Nat) : Int)), (0, a2), (0, a3), (0, a4), (0, a5), (1, a6), g7, (0, a8), (0, (a9 + 1)), g10, g11] [] d := by
  have hT := cT_184
  refine Eq.trans (x4 (ls' := [(2, ((a0 : Nat) : Int)), (2, ((a1 : Nat) : Int)), (0, a2), (0, a3), (0, a4), (0, a5), (1, a6), g7, (0, a8), (0, (a9 + 1)), g10, g11]) (h := 132) hT rfl rfl rfl) ?_
  refine Eq.trans (x18 (h := 133) hT rfl) ?_
  exact rfl
/-! WordLinks$State.pairShares(II)J -/
set_option maxRecDepth 100000 in
theorem e_186 {P : zP} {d : zD P} {a0 : Nat} {a1 : Int} {a2 : Int} (ha0 : zkd a0 = 9) : MM P 186 [(2, ((a0 : Nat) : Int)), (0, a1), (0, a2)] d = zB P 186 4 [(2, ((a0 : Nat) : Int)), (0, a1), (0, a2), (1, 0), (3, 0), (0, 0), (3, 0)] [] d := by
  have hT := cT_186
  refine Eq.trans (MM_def sm_186 (Nat.le_of_ble_eq_true rfl)) ?_
  change zB P 186 0 [(2, ((a0 : Nat) : Int)), (0, a1), (0, a2), (3, 0), (3, 0), (3, 0), (3, 0)] [] d = _
  refine Eq.trans (x0 (h := 0) hT rfl) ?_
  refine Eq.trans (x3 (ls' := [(2, ((a0 : Nat) : Int)), (0, a1), (0, a2), (1, 0), (3, 0), (3, 0), (3, 0)]) (h := 1) hT rfl (Nat.le_of_ble_eq_true rfl) rfl) ?_
  refine Eq.trans (x0 (h := 2) hT rfl) ?_
  refine Eq.trans (x2 (ls' := [(2, ((a0 : Nat) : Int)), (0, a1), (0, a2), (1, 0), (3, 0), (0, 0), (3, 0)]) (h := 3) hT rfl (Nat.le_of_ble_eq_true rfl) rfl) ?_
  exact rfl
set_option maxRecDepth 100000 in
theorem q_186_4 {P : zP} {d : zD P} {a0 : Nat} {a1 : Int} {a2 : Int} {a3 : Int} {g4 : zV} {a5 : Int} {g6 : zV} (ha0 : zkd a0 = 9) : zB P 186 4 [(2, ((a0 : Nat) : Int)), (0, a1), (0, a2), (1, a3), g4, (0, a5), g6] [] d = (if zin a1 2 then (if zin a2 24 then (if wr ((d.m ((((a0 + 1) + 8) + (1 + zix a1))) (zix a2))) ≤ wr a5 then some (a3, d) else zB P 186 15 [(2, ((a0 : Nat) : Int)), (0, a1), (0, a2), (1, a3), g4, (0, a5), (0, 0)] [] d) else none) else none) := by
  have hT := cT_186
  refine Eq.trans (x1 (h := 4) hT rfl rfl (by decide)) ?_
  refine Eq.trans (x1 (h := 5) hT rfl rfl (by decide)) ?_
  refine Eq.trans (x21r (r := a0) (cl := 9) (o := 1) (h := 6) hT rfl ha0 (by decide) rfl) ?_
  refine Eq.trans (x21r (r := (a0 + 1)) (cl := 0) (o := 8) (h := 7) hT rfl (kd_9_0 ha0) (by decide) rfl) ?_
  refine Eq.trans (x1 (h := 8) hT rfl rfl (by decide)) ?_
  refine Eq.trans (x24r (r := ((a0 + 1) + 8)) (n := 2) (h := 9) hT rfl (kd_0_3 (kd_9_0 ha0)) (ln_0_3 (kd_9_0 ha0)) (by decide)) ?_
  refine xig (fun hz1 => ?_)
  refine Eq.trans (x1 (h := 10) hT rfl rfl (by decide)) ?_
  refine Eq.trans (x24 (r := (((a0 + 1) + 8) + (1 + zix a1))) (n := 24) (h := 11) hT rfl (Or.inl (kq_0_3 (kd_9_0 ha0) (zix_lt hz1))) (lq_0_3 (kd_9_0 ha0) (zix_lt hz1))) ?_
  refine xig (fun hz2 => ?_)
  refine Eq.trans (x17_3 (h := 12) hT rfl) ?_
  refine xit (fun _ => ?_) (fun _ => ?_)
  · refine Eq.trans (x1 (h := 40) hT rfl rfl (by decide)) ?_
    exact x202 (h := 41) hT rfl
  · refine Eq.trans (x0 (h := 13) hT rfl) ?_
    refine Eq.trans (x2 (ls' := [(2, ((a0 : Nat) : Int)), (0, a1), (0, a2), (1, a3), g4, (0, a5), (0, 0)]) (h := 14) hT rfl (Nat.le_of_ble_eq_true rfl) rfl) ?_
    exact rfl
set_option maxRecDepth 100000 in
theorem q_186_15 {P : zP} {d : zD P} {a0 : Nat} {a1 : Int} {a2 : Int} {a3 : Int} {g4 : zV} {a5 : Int} {a6 : Int} (ha0 : zkd a0 = 9) : zB P 186 15 [(2, ((a0 : Nat) : Int)), (0, a1), (0, a2), (1, a3), g4, (0, a5), (0, a6)] [] d = (if zin ((1 - a1)) 2 then (if zin a2 24 then (if wr ((d.m ((((a0 + 1) + 8) + (1 + zix ((1 - a1))))) (zix a2))) ≤ wr a6 then zB P 186 4 [(2, ((a0 : Nat) : Int)), (0, a1), (0, a2), (1, a3), (if (g4).1 = 1 then (3, 0) else g4), (0, (a5 + 1)), (0, a6)] [] d else ((MM P 118 [(2, ((a0 : Nat) : Int)), (0, a1), (0, a2), (0, a5), (0, a6)] d).bind fun q5 => zB P 186 15 [(2, ((a0 : Nat) : Int)), (0, a1), (0, a2), (1, (a3 + (wr q5.1))), (3, 0), (0, a5), (0, (a6 + 1))] [] q5.2)) else none) else none) := by
  have hT := cT_186
  refine Eq.trans (x1 (h := 15) hT rfl rfl (by decide)) ?_
  refine Eq.trans (x1 (h := 16) hT rfl rfl (by decide)) ?_
  refine Eq.trans (x21r (r := a0) (cl := 9) (o := 1) (h := 17) hT rfl ha0 (by decide) rfl) ?_
  refine Eq.trans (x21r (r := (a0 + 1)) (cl := 0) (o := 8) (h := 18) hT rfl (kd_9_0 ha0) (by decide) rfl) ?_
  refine Eq.trans (x0 (h := 19) hT rfl) ?_
  refine Eq.trans (x1 (h := 20) hT rfl rfl (by decide)) ?_
  refine Eq.trans (x5_1 (h := 21) hT rfl) ?_
  refine Eq.trans (x24r (r := ((a0 + 1) + 8)) (n := 2) (h := 22) hT rfl (kd_0_3 (kd_9_0 ha0)) (ln_0_3 (kd_9_0 ha0)) (by decide)) ?_
  refine xig (fun hz3 => ?_)
  refine Eq.trans (x1 (h := 23) hT rfl rfl (by decide)) ?_
  refine Eq.trans (x24 (r := (((a0 + 1) + 8) + (1 + zix ((1 - a1))))) (n := 24) (h := 24) hT rfl (Or.inl (kq_0_3 (kd_9_0 ha0) (zix_lt hz3))) (lq_0_3 (kd_9_0 ha0) (zix_lt hz3))) ?_
  refine xig (fun hz4 => ?_)
  refine Eq.trans (x17_3 (h := 25) hT rfl) ?_
  refine xit (fun _ => ?_) (fun _ => ?_)
  · refine Eq.trans (x4 (ls' := [(2, ((a0 : Nat) : Int)), (0, a1), (0, a2), (1, a3), (if (g4).1 = 1 then (3, 0) else g4), (0, (a5 + 1)), (0, a6)]) (h := 38) hT rfl rfl rfl) ?_
    refine Eq.trans (x18 (h := 39) hT rfl) ?_
    exact rfl
  · refine Eq.trans (x1 (h := 26) hT rfl rfl (by decide)) ?_
    refine Eq.trans (x1 (h := 27) hT rfl rfl (by decide)) ?_
    refine Eq.trans (x1 (h := 28) hT rfl rfl (by decide)) ?_
    refine Eq.trans (x1 (h := 29) hT rfl rfl (by decide)) ?_
    refine Eq.trans (x1 (h := 30) hT rfl rfl (by decide)) ?_
    refine Eq.trans (x1 (h := 31) hT rfl rfl (by decide)) ?_
    refine Eq.trans (x31 (r := a0) (cl := 9) (as := [(0, a1), (0, a2), (0, a5), (0, a6)]) (st' := [(1, a3)]) (h := 32) hT rfl sm_118 rfl ha0) ?_
    refine xbd (fun q5 => ?_)
    rw [rv_118]
    change zB P 186 33 [(2, ((a0 : Nat) : Int)), (0, a1), (0, a2), (1, a3), g4, (0, a5), (0, a6)] [(0, q5.1), (1, a3)] q5.2 = _
    refine Eq.trans (x12 (h := 33) hT rfl) ?_
    refine Eq.trans (x8_0 (h := 34) hT rfl) ?_
    refine Eq.trans (x3 (ls' := [(2, ((a0 : Nat) : Int)), (0, a1), (0, a2), (1, (a3 + (wr q5.1))), (3, 0), (0, a5), (0, a6)]) (h := 35) hT rfl (Nat.le_of_ble_eq_true rfl) rfl) ?_
    refine Eq.trans (x4 (ls' := [(2, ((a0 : Nat) : Int)), (0, a1), (0, a2), (1, (a3 + (wr q5.1))), (3, 0), (0, a5), (0, (a6 + 1))]) (h := 36) hT rfl rfl rfl) ?_
    refine Eq.trans (x18 (h := 37) hT rfl) ?_
    exact rfl
/-! WordLinks$State.ranked(III)I -/
set_option maxRecDepth 100000 in
theorem e_187 {P : zP} {d : zD P} {a0 : Nat} {a1 : Int} {a2 : Int} {a3 : Int} (ha0 : zkd a0 = 9) : MM P 187 [(2, ((a0 : Nat) : Int)), (0, a1), (0, a2), (0, a3)] d = zB P 187 2 [(2, ((a0 : Nat) : Int)), (0, a1), (0, a2), (0, a3), (0, 0)] [] d := by
  have hT := cT_187
  refine Eq.trans (MM_def sm_187 (Nat.le_of_ble_eq_true rfl)) ?_
  change zB P 187 0 [(2, ((a0 : Nat) : Int)), (0, a1), (0, a2), (0, a3), (3, 0)] [] d = _
  refine Eq.trans (x0 (h := 0) hT rfl) ?_
  refine Eq.trans (x2 (ls' := [(2, ((a0 : Nat) : Int)), (0, a1), (0, a2), (0, a3), (0, 0)]) (h := 1) hT rfl (Nat.le_of_ble_eq_true rfl) rfl) ?_
  exact rfl
set_option maxRecDepth 100000 in
theorem q_187_2 {P : zP} {d : zD P} {a0 : Nat} {a1 : Int} {a2 : Int} {a3 : Int} {a4 : Int} (ha0 : zkd a0 = 9) : zB P 187 2 [(2, ((a0 : Nat) : Int)), (0, a1), (0, a2), (0, a3), (0, a4)] [] d = (if zin ((1 - a1)) 2 then (if wr ((d.m (((a0 + 1) + 1)) (zix ((1 - a1))))) ≤ wr a4 then some ((-1), d) else ((MM P 1 [(2, (((a0 + 1) : Nat) : Int)), (0, a1), (0, a2), (0, a4)] d).bind fun q2 => (if wr q2.1 = 0 then zB P 187 2 [(2, ((a0 : Nat) : Int)), (0, a1), (0, a2), (0, a3), (0, (a4 + 1))] [] q2.2 else ((MM P 117 [(2, ((a0 : Nat) : Int)), (0, a1), (0, a2), (0, a4)] q2.2).bind fun q3 => (if wr q3.1 ≠ wr a3 then zB P 187 2 [(2, ((a0 : Nat) : Int)), (0, a1), (0, a2), (0, a3), (0, (a4 + 1))] [] q3.2 else some (a4, q3.2)))))) else none) := by
  have hT := cT_187
  refine Eq.trans (x1 (h := 2) hT rfl rfl (by decide)) ?_
  refine Eq.trans (x1 (h := 3) hT rfl rfl (by decide)) ?_
  refine Eq.trans (x21r (r := a0) (cl := 9) (o := 1) (h := 4) hT rfl ha0 (by decide) rfl) ?_
  refine Eq.trans (x21r (r := (a0 + 1)) (cl := 0) (o := 1) (h := 5) hT rfl (kd_9_0 ha0) (by decide) rfl) ?_
  refine Eq.trans (x0 (h := 6) hT rfl) ?_
  refine Eq.trans (x1 (h := 7) hT rfl rfl (by decide)) ?_
  refine Eq.trans (x5_1 (h := 8) hT rfl) ?_
  refine Eq.trans (x24 (r := ((a0 + 1) + 1)) (n := 2) (h := 9) hT rfl (Or.inl (kd_0_0 (kd_9_0 ha0))) (ln_0_0 (kd_9_0 ha0))) ?_
  refine xig (fun hz1 => ?_)
  refine Eq.trans (x17_3 (h := 10) hT rfl) ?_
  refine xit (fun _ => ?_) (fun _ => ?_)
  · refine Eq.trans (x0 (h := 29) hT rfl) ?_
    exact x201 (h := 30) hT rfl
  · refine Eq.trans (x1 (h := 11) hT rfl rfl (by decide)) ?_
    refine Eq.trans (x21r (r := a0) (cl := 9) (o := 1) (h := 12) hT rfl ha0 (by decide) rfl) ?_
    refine Eq.trans (x1 (h := 13) hT rfl rfl (by decide)) ?_
    refine Eq.trans (x1 (h := 14) hT rfl rfl (by decide)) ?_
    refine Eq.trans (x1 (h := 15) hT rfl rfl (by decide)) ?_
    refine Eq.trans (x31 (r := (a0 + 1)) (cl := 0) (as := [(0, a1), (0, a2), (0, a4)]) (st' := []) (h := 16) hT rfl sm_1 rfl (kd_9_0 ha0)) ?_
    refine xbd (fun q2 => ?_)
    rw [rv_1]
    change zB P 187 17 [(2, ((a0 : Nat) : Int)), (0, a1), (0, a2), (0, a3), (0, a4)] [(0, q2.1)] q2.2 = _
    refine Eq.trans (x16_0 (h := 17) hT rfl) ?_
    refine xit (fun _ => ?_) (fun _ => ?_)
    · refine Eq.trans (x4 (ls' := [(2, ((a0 : Nat) : Int)), (0, a1), (0, a2), (0, a3), (0, (a4 + 1))]) (h := 27) hT rfl rfl rfl) ?_
      refine Eq.trans (x18 (h := 28) hT rfl) ?_
      exact rfl
    · refine Eq.trans (x1 (h := 18) hT rfl rfl (by decide)) ?_
      refine Eq.trans (x1 (h := 19) hT rfl rfl (by decide)) ?_
      refine Eq.trans (x1 (h := 20) hT rfl rfl (by decide)) ?_
      refine Eq.trans (x1 (h := 21) hT rfl rfl (by decide)) ?_
      refine Eq.trans (x31 (r := a0) (cl := 9) (as := [(0, a1), (0, a2), (0, a4)]) (st' := []) (h := 22) hT rfl sm_117 rfl ha0) ?_
      refine xbd (fun q3 => ?_)
      rw [rv_117]
      change zB P 187 23 [(2, ((a0 : Nat) : Int)), (0, a1), (0, a2), (0, a3), (0, a4)] [(0, q3.1)] q3.2 = _
      refine Eq.trans (x1 (h := 23) hT rfl rfl (by decide)) ?_
      refine Eq.trans (x17_1 (h := 24) hT rfl) ?_
      refine xit (fun _ => ?_) (fun _ => ?_)
      · refine Eq.trans (x4 (ls' := [(2, ((a0 : Nat) : Int)), (0, a1), (0, a2), (0, a3), (0, (a4 + 1))]) (h := 27) hT rfl rfl rfl) ?_
        refine Eq.trans (x18 (h := 28) hT rfl) ?_
        exact rfl
      · refine Eq.trans (x1 (h := 25) hT rfl rfl (by decide)) ?_
        exact x201 (h := 26) hT rfl
/-! WordLinks$State.takeSheets(LWordLinks$Rows;LWordLinks$Rows;)V -/
set_option maxRecDepth 100000 in
theorem e_188 {P : zP} {d : zD P} {a0 : Nat} {a1 : Nat} {a2 : Nat} (ha0 : zkd a0 = 9) (ha1 : zkd a1 = 7) (ha2 : zkd a2 = 7) : MM P 188 [(2, ((a0 : Nat) : Int)), (2, ((a1 : Nat) : Int)), (2, ((a2 : Nat) : Int))] d = ((MM P 113 [(2, (((a0 + 16) : Nat) : Int)), (2, ((a1 : Nat) : Int))] d).bind fun q1 => ((MM P 113 [(2, (((a0 + 19) : Nat) : Int)), (2, ((a2 : Nat) : Int))] q1.2).bind fun q2 => some (0, q2.2))) := by
  have hT := cT_188
  refine Eq.trans (MM_def sm_188 (Nat.le_of_ble_eq_true rfl)) ?_
  change zB P 188 0 [(2, ((a0 : Nat) : Int)), (2, ((a1 : Nat) : Int)), (2, ((a2 : Nat) : Int))] [] d = _
  refine Eq.trans (x1 (h := 0) hT rfl rfl (by decide)) ?_
  refine Eq.trans (x21r (r := a0) (cl := 9) (o := 16) (h := 1) hT rfl ha0 (by decide) rfl) ?_
  refine Eq.trans (x1 (h := 2) hT rfl rfl (by decide)) ?_
  refine Eq.trans (x31 (r := (a0 + 16)) (cl := 7) (as := [(2, ((a1 : Nat) : Int))]) (st' := []) (h := 3) hT rfl sm_113 rfl (kd_9_1 ha0)) ?_
  refine xbd (fun q1 => ?_)
  rw [rv_113]
  change zB P 188 4 [(2, ((a0 : Nat) : Int)), (2, ((a1 : Nat) : Int)), (2, ((a2 : Nat) : Int))] [] q1.2 = _
  refine Eq.trans (x1 (h := 4) hT rfl rfl (by decide)) ?_
  refine Eq.trans (x21r (r := a0) (cl := 9) (o := 19) (h := 5) hT rfl ha0 (by decide) rfl) ?_
  refine Eq.trans (x1 (h := 6) hT rfl rfl (by decide)) ?_
  refine Eq.trans (x31 (r := (a0 + 19)) (cl := 7) (as := [(2, ((a2 : Nat) : Int))]) (st' := []) (h := 7) hT rfl sm_113 rfl (kd_9_2 ha0)) ?_
  refine xbd (fun q2 => ?_)
  rw [rv_113]
  change zB P 188 8 [(2, ((a0 : Nat) : Int)), (2, ((a1 : Nat) : Int)), (2, ((a2 : Nat) : Int))] [] q2.2 = _
  exact x20 (h := 8) hT rfl
/-! WordLinks$State.worth(IIII)J -/
set_option maxRecDepth 100000 in
theorem e_189 {P : zP} {d : zD P} {a0 : Nat} {a1 : Int} {a2 : Int} {a3 : Int} {a4 : Int} (ha0 : zkd a0 = 9) : MM P 189 [(2, ((a0 : Nat) : Int)), (0, a1), (0, a2), (0, a3), (0, a4)] d = ((MM P 118 [(2, ((a0 : Nat) : Int)), (0, a1), (0, a2), (0, a3), (0, a4)] d).bind fun q1 => (if wr ((q1.2.m a0 6)) = 0 then some ((wr q1.1), q1.2) else (if zin a1 2 then ((MM P 116 [(2, ((a0 : Nat) : Int)), (0, a1), (0, a2), (0, a3), (0, a4)] q1.2).bind fun q3 => (if zin q3.1 8 then some (((wr q1.1) * (wr ((q3.2.m (((a0 + 25) + (1 + zix a1))) (zix q3.1))))), q3.2) else none)) else none))) := by
  have hT := cT_189
  refine Eq.trans (MM_def sm_189 (Nat.le_of_ble_eq_true rfl)) ?_
  change zB P 189 0 [(2, ((a0 : Nat) : Int)), (0, a1), (0, a2), (0, a3), (0, a4), (3, 0), (3, 0)] [] d = _
  refine Eq.trans (x1 (h := 0) hT rfl rfl (by decide)) ?_
  refine Eq.trans (x1 (h := 1) hT rfl rfl (by decide)) ?_
  refine Eq.trans (x1 (h := 2) hT rfl rfl (by decide)) ?_
  refine Eq.trans (x1 (h := 3) hT rfl rfl (by decide)) ?_
  refine Eq.trans (x1 (h := 4) hT rfl rfl (by decide)) ?_
  refine Eq.trans (x31 (r := a0) (cl := 9) (as := [(0, a1), (0, a2), (0, a3), (0, a4)]) (st' := []) (h := 5) hT rfl sm_118 rfl ha0) ?_
  refine xbd (fun q1 => ?_)
  rw [rv_118]
  change zB P 189 6 [(2, ((a0 : Nat) : Int)), (0, a1), (0, a2), (0, a3), (0, a4), (3, 0), (3, 0)] [(0, q1.1)] q1.2 = _
  refine Eq.trans (x12 (h := 6) hT rfl) ?_
  refine Eq.trans (x3 (ls' := [(2, ((a0 : Nat) : Int)), (0, a1), (0, a2), (0, a3), (0, a4), (1, (wr q1.1)), (3, 0)]) (h := 7) hT rfl (Nat.le_of_ble_eq_true rfl) rfl) ?_
  refine Eq.trans (x1 (h := 8) hT rfl rfl (by decide)) ?_
  refine Eq.trans (x21 (r := a0) (cl := 9) (h := 9) hT rfl ha0) ?_
  refine Eq.trans (x16_0 (h := 10) hT rfl) ?_
  refine xit (fun _ => ?_) (fun _ => ?_)
  · refine Eq.trans (x1 (h := 26) hT rfl rfl (by decide)) ?_
    exact x202 (h := 27) hT rfl
  · refine Eq.trans (x1 (h := 11) hT rfl rfl (by decide)) ?_
    refine Eq.trans (x1 (h := 12) hT rfl rfl (by decide)) ?_
    refine Eq.trans (x21r (r := a0) (cl := 9) (o := 25) (h := 13) hT rfl ha0 (by decide) rfl) ?_
    refine Eq.trans (x1 (h := 14) hT rfl rfl (by decide)) ?_
    refine Eq.trans (x24r (r := (a0 + 25)) (n := 2) (h := 15) hT rfl (kd_9_4 ha0) (ln_9_4 ha0) (by decide)) ?_
    refine xig (fun hz2 => ?_)
    refine Eq.trans (x1 (h := 16) hT rfl rfl (by decide)) ?_
    refine Eq.trans (x1 (h := 17) hT rfl rfl (by decide)) ?_
    refine Eq.trans (x1 (h := 18) hT rfl rfl (by decide)) ?_
    refine Eq.trans (x1 (h := 19) hT rfl rfl (by decide)) ?_
    refine Eq.trans (x1 (h := 20) hT rfl rfl (by decide)) ?_
    refine Eq.trans (x31 (r := a0) (cl := 9) (as := [(0, a1), (0, a2), (0, a3), (0, a4)]) (st' := [(2, ((((a0 + 25) + (1 + zix a1)) : Nat) : Int)), (1, (wr q1.1))]) (h := 21) hT rfl sm_116 rfl ha0) ?_
    refine xbd (fun q3 => ?_)
    rw [rv_116]
    change zB P 189 22 [(2, ((a0 : Nat) : Int)), (0, a1), (0, a2), (0, a3), (0, a4), (1, (wr q1.1)), (3, 0)] [(0, q3.1), (2, ((((a0 + 25) + (1 + zix a1)) : Nat) : Int)), (1, (wr q1.1))] q3.2 = _
    refine Eq.trans (x24 (r := ((a0 + 25) + (1 + zix a1))) (n := 8) (h := 22) hT rfl (Or.inl (kq_9_4 ha0 (zix_lt hz2))) (lq_9_4 ha0 (zix_lt hz2))) ?_
    refine xig (fun hz4 => ?_)
    refine Eq.trans (x12 (h := 23) hT rfl) ?_
    refine Eq.trans (x8_2 (h := 24) hT rfl) ?_
    refine Eq.trans (x18 (h := 25) hT rfl) ?_
    exact x202 (h := 27) hT rfl
/-! WordLinks$Tape.readWord()J -/
set_option maxRecDepth 100000 in
theorem e_190 {P : zP} {d : zD P} {a0 : Nat} (ha0 : zkd a0 = 10) : MM P 190 [(2, ((a0 : Nat) : Int))] d = zB P 190 4 [(2, ((a0 : Nat) : Int)), (1, 0), (3, 0), (0, 0)] [] d := by
  have hT := cT_190
  refine Eq.trans (MM_def sm_190 (Nat.le_of_ble_eq_true rfl)) ?_
  change zB P 190 0 [(2, ((a0 : Nat) : Int)), (3, 0), (3, 0), (3, 0)] [] d = _
  refine Eq.trans (x0 (h := 0) hT rfl) ?_
  refine Eq.trans (x3 (ls' := [(2, ((a0 : Nat) : Int)), (1, 0), (3, 0), (3, 0)]) (h := 1) hT rfl (Nat.le_of_ble_eq_true rfl) rfl) ?_
  refine Eq.trans (x0 (h := 2) hT rfl) ?_
  refine Eq.trans (x2 (ls' := [(2, ((a0 : Nat) : Int)), (1, 0), (3, 0), (0, 0)]) (h := 3) hT rfl (Nat.le_of_ble_eq_true rfl) rfl) ?_
  exact rfl
set_option maxRecDepth 100000 in
theorem q_190_4 {P : zP} {d : zD P} {a0 : Nat} {a1 : Int} {g2 : zV} {a3 : Int} (ha0 : zkd a0 = 10) : zB P 190 4 [(2, ((a0 : Nat) : Int)), (1, a1), g2, (0, a3)] [] d = (if wr 7 ≤ wr a3 then ((MM P 121 [(2, ((a0 : Nat) : Int))] d).bind fun q1 => (if wr q1.1 = 0 then some (a1, q1.2) else ((MM P 37 [(2, ((a0 : Nat) : Int)), (0, 2)] q1.2).bind fun q2 => some ((-1), q2.2)))) else ((MM P 121 [(2, ((a0 : Nat) : Int))] d).bind fun q3 => (if wr q3.1 = 0 then ((MM P 121 [(2, ((a0 : Nat) : Int))] q3.2).bind fun q4 => (if wr q4.1 = 0 then some (a1, q4.2) else ((MM P 37 [(2, ((a0 : Nat) : Int)), (0, 2)] q4.2).bind fun q5 => some ((-1), q5.2)))) else ((MM P 40 [(2, ((a0 : Nat) : Int))] q3.2).bind fun q6 => ((MM P 49 [(1, a1), (0, a3), (0, q6.1)] q6.2).bind fun q7 => zB P 190 4 [(2, ((a0 : Nat) : Int)), (1, q7.1), (3, 0), (0, (a3 + 1))] [] ((q7.2.up a0 3 (((q7.2.m a0 3) + 1))))))))) := by
  have hT := cT_190
  refine Eq.trans (x1 (h := 4) hT rfl rfl (by decide)) ?_
  refine Eq.trans (x0 (h := 5) hT rfl) ?_
  refine Eq.trans (x17_3 (h := 6) hT rfl) ?_
  refine xit (fun _ => ?_) (fun _ => ?_)
  · refine Eq.trans (x1 (h := 24) hT rfl rfl (by decide)) ?_
    refine Eq.trans (x31 (r := a0) (cl := 10) (as := []) (st' := []) (h := 25) hT rfl sm_121 rfl ha0) ?_
    refine xbd (fun q1 => ?_)
    rw [rv_121]
    change zB P 190 26 [(2, ((a0 : Nat) : Int)), (1, a1), g2, (0, a3)] [(0, q1.1)] q1.2 = _
    refine Eq.trans (x16_0 (h := 26) hT rfl) ?_
    refine xit (fun _ => ?_) (fun _ => ?_)
    · refine Eq.trans (x1 (h := 33) hT rfl rfl (by decide)) ?_
      exact x202 (h := 34) hT rfl
    · refine Eq.trans (x1 (h := 27) hT rfl rfl (by decide)) ?_
      refine Eq.trans (x0 (h := 28) hT rfl) ?_
      refine Eq.trans (x31 (r := a0) (cl := 10) (as := [(0, 2)]) (st' := []) (h := 29) hT rfl sm_37 rfl ha0) ?_
      refine xbd (fun q2 => ?_)
      rw [rv_37]
      change zB P 190 30 [(2, ((a0 : Nat) : Int)), (1, a1), g2, (0, a3)] [(0, q2.1)] q2.2 = _
      refine Eq.trans (x15 (h := 30) hT rfl (by decide)) ?_
      refine Eq.trans (x0 (h := 31) hT rfl) ?_
      exact x202 (h := 32) hT rfl
  · refine Eq.trans (x1 (h := 7) hT rfl rfl (by decide)) ?_
    refine Eq.trans (x31 (r := a0) (cl := 10) (as := []) (st' := []) (h := 8) hT rfl sm_121 rfl ha0) ?_
    refine xbd (fun q3 => ?_)
    rw [rv_121]
    change zB P 190 9 [(2, ((a0 : Nat) : Int)), (1, a1), g2, (0, a3)] [(0, q3.1)] q3.2 = _
    refine Eq.trans (x16_0 (h := 9) hT rfl) ?_
    refine xit (fun _ => ?_) (fun _ => ?_)
    · refine Eq.trans (x1 (h := 24) hT rfl rfl (by decide)) ?_
      refine Eq.trans (x31 (r := a0) (cl := 10) (as := []) (st' := []) (h := 25) hT rfl sm_121 rfl ha0) ?_
      refine xbd (fun q4 => ?_)
      rw [rv_121]
      change zB P 190 26 [(2, ((a0 : Nat) : Int)), (1, a1), g2, (0, a3)] [(0, q4.1)] q4.2 = _
      refine Eq.trans (x16_0 (h := 26) hT rfl) ?_
      refine xit (fun _ => ?_) (fun _ => ?_)
      · refine Eq.trans (x1 (h := 33) hT rfl rfl (by decide)) ?_
        exact x202 (h := 34) hT rfl
      · refine Eq.trans (x1 (h := 27) hT rfl rfl (by decide)) ?_
        refine Eq.trans (x0 (h := 28) hT rfl) ?_
        refine Eq.trans (x31 (r := a0) (cl := 10) (as := [(0, 2)]) (st' := []) (h := 29) hT rfl sm_37 rfl ha0) ?_
        refine xbd (fun q5 => ?_)
        rw [rv_37]
        change zB P 190 30 [(2, ((a0 : Nat) : Int)), (1, a1), g2, (0, a3)] [(0, q5.1)] q5.2 = _
        refine Eq.trans (x15 (h := 30) hT rfl (by decide)) ?_
        refine Eq.trans (x0 (h := 31) hT rfl) ?_
        exact x202 (h := 32) hT rfl
    · refine Eq.trans (x1 (h := 10) hT rfl rfl (by decide)) ?_
      refine Eq.trans (x1 (h := 11) hT rfl rfl (by decide)) ?_
      refine Eq.trans (x1 (h := 12) hT rfl rfl (by decide)) ?_
      refine Eq.trans (x31 (r := a0) (cl := 10) (as := []) (st' := [(0, a3), (1, a1)]) (h := 13) hT rfl sm_40 rfl ha0) ?_
      refine xbd (fun q6 => ?_)
      rw [rv_40]
      change zB P 190 14 [(2, ((a0 : Nat) : Int)), (1, a1), g2, (0, a3)] [(0, q6.1), (0, a3), (1, a1)] q6.2 = _
      refine Eq.trans (x34 (as := [(1, a1), (0, a3), (0, q6.1)]) (st' := []) (h := 14) hT rfl sm_49 rfl) ?_
      refine xbd (fun q7 => ?_)
      rw [rv_49]
      change zB P 190 15 [(2, ((a0 : Nat) : Int)), (1, a1), g2, (0, a3)] [(1, q7.1)] q7.2 = _
      refine Eq.trans (x3 (ls' := [(2, ((a0 : Nat) : Int)), (1, q7.1), (3, 0), (0, a3)]) (h := 15) hT rfl (Nat.le_of_ble_eq_true rfl) rfl) ?_
      refine Eq.trans (x1 (h := 16) hT rfl rfl (by decide)) ?_
      refine Eq.trans (x13 (h := 17) hT rfl (by decide)) ?_
      refine Eq.trans (x21 (r := a0) (cl := 10) (h := 18) hT rfl ha0) ?_
      refine Eq.trans (x0 (h := 19) hT rfl) ?_
      refine Eq.trans (x5_0 (h := 20) hT rfl) ?_
      refine Eq.trans (x22 (r := a0) (cl := 10) (h := 21) hT rfl ha0 (by decide) rfl (by decide)) ?_
      refine Eq.trans (x4 (ls' := [(2, ((a0 : Nat) : Int)), (1, q7.1), (3, 0), (0, (a3 + 1))]) (h := 22) hT rfl rfl rfl) ?_
      refine Eq.trans (x18 (h := 23) hT rfl) ?_
      exact rfl
/-! WordLinks.commonLetters(JJ)I -/
set_option maxRecDepth 100000 in
theorem e_191 {P : zP} {d : zD P} {a0 : Int} {a2 : Int} : MM P 191 [(1, a0), (1, a2)] d = ((MM P 127 [(1, a0)] d).bind fun q1 => zB P 191 11 [(1, a0), (3, 0), (1, a2), (3, 0), (0, ((zbin 6 1 q1.1) - 1)), (0, ((zbin 6 1 q1.1) - 1)), (0, 0), (3, 0)] [] q1.2) := by
  have hT := cT_191
  refine Eq.trans (MM_def sm_191 (Nat.le_of_ble_eq_true rfl)) ?_
  change zB P 191 0 [(1, a0), (3, 0), (1, a2), (3, 0), (3, 0), (3, 0), (3, 0), (3, 0)] [] d = _
  refine Eq.trans (x0 (h := 0) hT rfl) ?_
  refine Eq.trans (x1 (h := 1) hT rfl rfl (by decide)) ?_
  refine Eq.trans (x34 (as := [(1, a0)]) (st' := [(0, 1)]) (h := 2) hT rfl sm_127 rfl) ?_
  refine xbd (fun q1 => ?_)
  rw [rv_127]
  change zB P 191 3 [(1, a0), (3, 0), (1, a2), (3, 0), (3, 0), (3, 0), (3, 0), (3, 0)] [(0, q1.1), (0, 1)] q1.2 = _
  refine Eq.trans (x5n (h := 3) hT rfl) ?_
  refine Eq.trans (x0 (h := 4) hT rfl) ?_
  refine Eq.trans (x5_1 (h := 5) hT rfl) ?_
  refine Eq.trans (x2 (ls' := [(1, a0), (3, 0), (1, a2), (3, 0), (0, ((zbin 6 1 q1.1) - 1)), (3, 0), (3, 0), (3, 0)]) (h := 6) hT rfl (Nat.le_of_ble_eq_true rfl) rfl) ?_
  refine Eq.trans (x1 (h := 7) hT rfl rfl (by decide)) ?_
  refine Eq.trans (x2 (ls' := [(1, a0), (3, 0), (1, a2), (3, 0), (0, ((zbin 6 1 q1.1) - 1)), (0, ((zbin 6 1 q1.1) - 1)), (3, 0), (3, 0)]) (h := 8) hT rfl (Nat.le_of_ble_eq_true rfl) rfl) ?_
  refine Eq.trans (x0 (h := 9) hT rfl) ?_
  refine Eq.trans (x2 (ls' := [(1, a0), (3, 0), (1, a2), (3, 0), (0, ((zbin 6 1 q1.1) - 1)), (0, ((zbin 6 1 q1.1) - 1)), (0, 0), (3, 0)]) (h := 10) hT rfl (Nat.le_of_ble_eq_true rfl) rfl) ?_
  exact rfl
set_option maxRecDepth 100000 in
theorem q_191_11 {P : zP} {d : zD P} {a0 : Int} {g1 : zV} {a2 : Int} {g3 : zV} {a4 : Int} {a5 : Int} {a6 : Int} {g7 : zV} : zB P 191 11 [(1, a0), g1, (1, a2), g3, (0, a4), (0, a5), (0, a6), g7] [] d = ((MM P 127 [(1, a2)] d).bind fun q2 => (if wr q2.1 ≤ wr a6 then ((MM P 84 [(0, (zbin 3 ((zbin 5 a5 ((-1)))) a4))] q2.2).bind fun q3 => some (q3.1, q3.2)) else ((MM P 47 [(1, a2), (0, a6)] q2.2).bind fun q4 => ((MM P 129 [(1, a0), (0, q4.1)] q4.2).bind fun q5 => zB P 191 11 [(1, a0), g1, (1, a2), g3, (0, a4), (0, (zbin 4 ((a5 + (zbin 3 a5 q5.1))) ((a5 - (zbin 3 a5 q5.1))))), (0, (a6 + 1)), (0, (zbin 3 a5 q5.1))] [] q5.2)))) := by
  have hT := cT_191
  refine Eq.trans (x1 (h := 11) hT rfl rfl (by decide)) ?_
  refine Eq.trans (x1 (h := 12) hT rfl rfl (by decide)) ?_
  refine Eq.trans (x34 (as := [(1, a2)]) (st' := [(0, a6)]) (h := 13) hT rfl sm_127 rfl) ?_
  refine xbd (fun q2 => ?_)
  rw [rv_127]
  change zB P 191 14 [(1, a0), g1, (1, a2), g3, (0, a4), (0, a5), (0, a6), g7] [(0, q2.1), (0, a6)] q2.2 = _
  refine Eq.trans (x17_3 (h := 14) hT rfl) ?_
  refine xit (fun _ => ?_) (fun _ => ?_)
  · refine Eq.trans (x1 (h := 33) hT rfl rfl (by decide)) ?_
    refine Eq.trans (x0 (h := 34) hT rfl) ?_
    refine Eq.trans (x5n (h := 35) hT rfl) ?_
    refine Eq.trans (x1 (h := 36) hT rfl rfl (by decide)) ?_
    refine Eq.trans (x5n (h := 37) hT rfl) ?_
    refine Eq.trans (x34 (as := [(0, (zbin 3 ((zbin 5 a5 ((-1)))) a4))]) (st' := []) (h := 38) hT rfl sm_84 rfl) ?_
    refine xbd (fun q3 => ?_)
    rw [rv_84]
    change zB P 191 39 [(1, a0), g1, (1, a2), g3, (0, a4), (0, a5), (0, a6), g7] [(0, q3.1)] q3.2 = _
    exact x201 (h := 39) hT rfl
  · refine Eq.trans (x1 (h := 15) hT rfl rfl (by decide)) ?_
    refine Eq.trans (x1 (h := 16) hT rfl rfl (by decide)) ?_
    refine Eq.trans (x1 (h := 17) hT rfl rfl (by decide)) ?_
    refine Eq.trans (x1 (h := 18) hT rfl rfl (by decide)) ?_
    refine Eq.trans (x34 (as := [(1, a2), (0, a6)]) (st' := [(1, a0), (0, a5)]) (h := 19) hT rfl sm_47 rfl) ?_
    refine xbd (fun q4 => ?_)
    rw [rv_47]
    change zB P 191 20 [(1, a0), g1, (1, a2), g3, (0, a4), (0, a5), (0, a6), g7] [(0, q4.1), (1, a0), (0, a5)] q4.2 = _
    refine Eq.trans (x34 (as := [(1, a0), (0, q4.1)]) (st' := [(0, a5)]) (h := 20) hT rfl sm_129 rfl) ?_
    refine xbd (fun q5 => ?_)
    rw [rv_129]
    change zB P 191 21 [(1, a0), g1, (1, a2), g3, (0, a4), (0, a5), (0, a6), g7] [(0, q5.1), (0, a5)] q5.2 = _
    refine Eq.trans (x5n (h := 21) hT rfl) ?_
    refine Eq.trans (x2 (ls' := [(1, a0), g1, (1, a2), g3, (0, a4), (0, a5), (0, a6), (0, (zbin 3 a5 q5.1))]) (h := 22) hT rfl (Nat.le_of_ble_eq_true rfl) rfl) ?_
    refine Eq.trans (x1 (h := 23) hT rfl rfl (by decide)) ?_
    refine Eq.trans (x1 (h := 24) hT rfl rfl (by decide)) ?_
    refine Eq.trans (x5_0 (h := 25) hT rfl) ?_
    refine Eq.trans (x1 (h := 26) hT rfl rfl (by decide)) ?_
    refine Eq.trans (x1 (h := 27) hT rfl rfl (by decide)) ?_
    refine Eq.trans (x5_1 (h := 28) hT rfl) ?_
    refine Eq.trans (x5n (h := 29) hT rfl) ?_
    refine Eq.trans (x2 (ls' := [(1, a0), g1, (1, a2), g3, (0, a4), (0, (zbin 4 ((a5 + (zbin 3 a5 q5.1))) ((a5 - (zbin 3 a5 q5.1))))), (0, a6), (0, (zbin 3 a5 q5.1))]) (h := 30) hT rfl (Nat.le_of_ble_eq_true rfl) rfl) ?_
    refine Eq.trans (x4 (ls' := [(1, a0), g1, (1, a2), g3, (0, a4), (0, (zbin 4 ((a5 + (zbin 3 a5 q5.1))) ((a5 - (zbin 3 a5 q5.1))))), (0, (a6 + 1)), (0, (zbin 3 a5 q5.1))]) (h := 31) hT rfl rfl rfl) ?_
    refine Eq.trans (x18 (h := 32) hT rfl) ?_
    exact rfl
/-! WordLinks.share(III)I -/
set_option maxRecDepth 100000 in
theorem e_192 {P : zP} {d : zD P} {a0 : Nat} {a1 : Int} {a2 : Int} {a3 : Int} (ha0 : zkd a0 = 11) : MM P 192 [(2, ((a0 : Nat) : Int)), (0, a1), (0, a2), (0, a3)] d = ((MM P 45 [(0, a1)] d).bind fun q1 => (if wr q1.1 = 0 then some ((-1), q1.2) else ((MM P 126 [(2, ((a0 : Nat) : Int)), (0, a1), (0, a2)] q1.2).bind fun q2 => (if wr q2.1 = 0 then some ((-1), q2.2) else ((MM P 126 [(2, ((a0 : Nat) : Int)), (0, (1 - a1)), (0, a3)] q2.2).bind fun q3 => (if wr q3.1 ≠ 0 then ((MM P 1 [(2, ((((a0 + 3) + 1) : Nat) : Int)), (0, a1), (0, a2), (0, a3)] q3.2).bind fun q4 => (if wr q4.1 = 0 then some ((-2), q4.2) else ((MM P 32 [(2, (((a0 + 3) : Nat) : Int)), (0, a1), (0, a2), (0, a3)] q4.2).bind fun q5 => some (q5.1, q5.2)))) else some ((-1), q3.2))))))) := by
  have hT := cT_192
  refine Eq.trans (MM_def sm_192 (Nat.le_of_ble_eq_true rfl)) ?_
  change zB P 192 0 [(2, ((a0 : Nat) : Int)), (0, a1), (0, a2), (0, a3)] [] d = _
  refine Eq.trans (x1 (h := 0) hT rfl rfl (by decide)) ?_
  refine Eq.trans (x34 (as := [(0, a1)]) (st' := []) (h := 1) hT rfl sm_45 rfl) ?_
  refine xbd (fun q1 => ?_)
  rw [rv_45]
  change zB P 192 2 [(2, ((a0 : Nat) : Int)), (0, a1), (0, a2), (0, a3)] [(0, q1.1)] q1.2 = _
  refine Eq.trans (x16_0 (h := 2) hT rfl) ?_
  refine xit (fun _ => ?_) (fun _ => ?_)
  · refine Eq.trans (x0 (h := 15) hT rfl) ?_
    exact x201 (h := 16) hT rfl
  · refine Eq.trans (x1 (h := 3) hT rfl rfl (by decide)) ?_
    refine Eq.trans (x1 (h := 4) hT rfl rfl (by decide)) ?_
    refine Eq.trans (x1 (h := 5) hT rfl rfl (by decide)) ?_
    refine Eq.trans (x31 (r := a0) (cl := 11) (as := [(0, a1), (0, a2)]) (st' := []) (h := 6) hT rfl sm_126 rfl ha0) ?_
    refine xbd (fun q2 => ?_)
    rw [rv_126]
    change zB P 192 7 [(2, ((a0 : Nat) : Int)), (0, a1), (0, a2), (0, a3)] [(0, q2.1)] q2.2 = _
    refine Eq.trans (x16_0 (h := 7) hT rfl) ?_
    refine xit (fun _ => ?_) (fun _ => ?_)
    · refine Eq.trans (x0 (h := 15) hT rfl) ?_
      exact x201 (h := 16) hT rfl
    · refine Eq.trans (x1 (h := 8) hT rfl rfl (by decide)) ?_
      refine Eq.trans (x0 (h := 9) hT rfl) ?_
      refine Eq.trans (x1 (h := 10) hT rfl rfl (by decide)) ?_
      refine Eq.trans (x5_1 (h := 11) hT rfl) ?_
      refine Eq.trans (x1 (h := 12) hT rfl rfl (by decide)) ?_
      refine Eq.trans (x31 (r := a0) (cl := 11) (as := [(0, (1 - a1)), (0, a3)]) (st' := []) (h := 13) hT rfl sm_126 rfl ha0) ?_
      refine xbd (fun q3 => ?_)
      rw [rv_126]
      change zB P 192 14 [(2, ((a0 : Nat) : Int)), (0, a1), (0, a2), (0, a3)] [(0, q3.1)] q3.2 = _
      refine Eq.trans (x16_1 (h := 14) hT rfl) ?_
      refine xit (fun _ => ?_) (fun _ => ?_)
      · refine Eq.trans (x1 (h := 17) hT rfl rfl (by decide)) ?_
        refine Eq.trans (x21r (r := a0) (cl := 11) (o := 3) (h := 18) hT rfl ha0 (by decide) rfl) ?_
        refine Eq.trans (x21r (r := (a0 + 3)) (cl := 9) (o := 1) (h := 19) hT rfl (kd_11_1 ha0) (by decide) rfl) ?_
        refine Eq.trans (x1 (h := 20) hT rfl rfl (by decide)) ?_
        refine Eq.trans (x1 (h := 21) hT rfl rfl (by decide)) ?_
        refine Eq.trans (x1 (h := 22) hT rfl rfl (by decide)) ?_
        refine Eq.trans (x31 (r := ((a0 + 3) + 1)) (cl := 0) (as := [(0, a1), (0, a2), (0, a3)]) (st' := []) (h := 23) hT rfl sm_1 rfl (kd_9_0 (kd_11_1 ha0))) ?_
        refine xbd (fun q4 => ?_)
        rw [rv_1]
        change zB P 192 24 [(2, ((a0 : Nat) : Int)), (0, a1), (0, a2), (0, a3)] [(0, q4.1)] q4.2 = _
        refine Eq.trans (x16_0 (h := 24) hT rfl) ?_
        refine xit (fun _ => ?_) (fun _ => ?_)
        · refine Eq.trans (x0 (h := 32) hT rfl) ?_
          exact x201 (h := 33) hT rfl
        · refine Eq.trans (x1 (h := 25) hT rfl rfl (by decide)) ?_
          refine Eq.trans (x21r (r := a0) (cl := 11) (o := 3) (h := 26) hT rfl ha0 (by decide) rfl) ?_
          refine Eq.trans (x1 (h := 27) hT rfl rfl (by decide)) ?_
          refine Eq.trans (x1 (h := 28) hT rfl rfl (by decide)) ?_
          refine Eq.trans (x1 (h := 29) hT rfl rfl (by decide)) ?_
          refine Eq.trans (x31 (r := (a0 + 3)) (cl := 9) (as := [(0, a1), (0, a2), (0, a3)]) (st' := []) (h := 30) hT rfl sm_32 rfl (kd_11_1 ha0)) ?_
          refine xbd (fun q5 => ?_)
          rw [rv_32]
          change zB P 192 31 [(2, ((a0 : Nat) : Int)), (0, a1), (0, a2), (0, a3)] [(0, q5.1)] q5.2 = _
          refine Eq.trans (x18 (h := 31) hT rfl) ?_
          exact x201 (h := 33) hT rfl
      · refine Eq.trans (x0 (h := 15) hT rfl) ?_
        exact x201 (h := 16) hT rfl
/-! WordLinks.tell(IIIZ)I -/
set_option maxRecDepth 100000 in
theorem e_193 {P : zP} {d : zD P} {a0 : Nat} {a1 : Int} {a2 : Int} {a3 : Int} {a4 : Int} (ha0 : zkd a0 = 11) : MM P 193 [(2, ((a0 : Nat) : Int)), (0, a1), (0, a2), (0, a3), (0, a4)] d = ((MM P 125 [(2, ((a0 : Nat) : Int)), (0, a1), (0, 0), (0, a2)] d).bind fun q1 => (if wr q1.1 = 0 then some ((-1), q1.2) else ((MM P 125 [(2, ((a0 : Nat) : Int)), (0, a1), (0, 1), (0, a3)] q1.2).bind fun q2 => (if wr q2.1 ≠ 0 then ((MM P 4 [(2, ((((a0 + 3) + 1) : Nat) : Int)), (0, a1), (0, a2), (0, a3), (0, a4)] q2.2).bind fun q3 => (if wr q3.1 = 0 then some ((-2), q3.2) else ((MM P 92 [(2, ((((a0 + 3) + 1) : Nat) : Int)), (0, a1)] q3.2).bind fun q4 => some (q4.1, q4.2)))) else some ((-1), q2.2))))) := by
  have hT := cT_193
  refine Eq.trans (MM_def sm_193 (Nat.le_of_ble_eq_true rfl)) ?_
  change zB P 193 0 [(2, ((a0 : Nat) : Int)), (0, a1), (0, a2), (0, a3), (0, a4)] [] d = _
  refine Eq.trans (x1 (h := 0) hT rfl rfl (by decide)) ?_
  refine Eq.trans (x1 (h := 1) hT rfl rfl (by decide)) ?_
  refine Eq.trans (x0 (h := 2) hT rfl) ?_
  refine Eq.trans (x1 (h := 3) hT rfl rfl (by decide)) ?_
  refine Eq.trans (x31 (r := a0) (cl := 11) (as := [(0, a1), (0, 0), (0, a2)]) (st' := []) (h := 4) hT rfl sm_125 rfl ha0) ?_
  refine xbd (fun q1 => ?_)
  rw [rv_125]
  change zB P 193 5 [(2, ((a0 : Nat) : Int)), (0, a1), (0, a2), (0, a3), (0, a4)] [(0, q1.1)] q1.2 = _
  refine Eq.trans (x16_0 (h := 5) hT rfl) ?_
  refine xit (fun _ => ?_) (fun _ => ?_)
  · refine Eq.trans (x0 (h := 12) hT rfl) ?_
    exact x201 (h := 13) hT rfl
  · refine Eq.trans (x1 (h := 6) hT rfl rfl (by decide)) ?_
    refine Eq.trans (x1 (h := 7) hT rfl rfl (by decide)) ?_
    refine Eq.trans (x0 (h := 8) hT rfl) ?_
    refine Eq.trans (x1 (h := 9) hT rfl rfl (by decide)) ?_
    refine Eq.trans (x31 (r := a0) (cl := 11) (as := [(0, a1), (0, 1), (0, a3)]) (st' := []) (h := 10) hT rfl sm_125 rfl ha0) ?_
    refine xbd (fun q2 => ?_)
    rw [rv_125]
    change zB P 193 11 [(2, ((a0 : Nat) : Int)), (0, a1), (0, a2), (0, a3), (0, a4)] [(0, q2.1)] q2.2 = _
    refine Eq.trans (x16_1 (h := 11) hT rfl) ?_
    refine xit (fun _ => ?_) (fun _ => ?_)
    · refine Eq.trans (x1 (h := 14) hT rfl rfl (by decide)) ?_
      refine Eq.trans (x21r (r := a0) (cl := 11) (o := 3) (h := 15) hT rfl ha0 (by decide) rfl) ?_
      refine Eq.trans (x21r (r := (a0 + 3)) (cl := 9) (o := 1) (h := 16) hT rfl (kd_11_1 ha0) (by decide) rfl) ?_
      refine Eq.trans (x1 (h := 17) hT rfl rfl (by decide)) ?_
      refine Eq.trans (x1 (h := 18) hT rfl rfl (by decide)) ?_
      refine Eq.trans (x1 (h := 19) hT rfl rfl (by decide)) ?_
      refine Eq.trans (x1 (h := 20) hT rfl rfl (by decide)) ?_
      refine Eq.trans (x31 (r := ((a0 + 3) + 1)) (cl := 0) (as := [(0, a1), (0, a2), (0, a3), (0, a4)]) (st' := []) (h := 21) hT rfl sm_4 rfl (kd_9_0 (kd_11_1 ha0))) ?_
      refine xbd (fun q3 => ?_)
      rw [rv_4]
      change zB P 193 22 [(2, ((a0 : Nat) : Int)), (0, a1), (0, a2), (0, a3), (0, a4)] [(0, q3.1)] q3.2 = _
      refine Eq.trans (x16_0 (h := 22) hT rfl) ?_
      refine xit (fun _ => ?_) (fun _ => ?_)
      · refine Eq.trans (x0 (h := 29) hT rfl) ?_
        exact x201 (h := 30) hT rfl
      · refine Eq.trans (x1 (h := 23) hT rfl rfl (by decide)) ?_
        refine Eq.trans (x21r (r := a0) (cl := 11) (o := 3) (h := 24) hT rfl ha0 (by decide) rfl) ?_
        refine Eq.trans (x21r (r := (a0 + 3)) (cl := 9) (o := 1) (h := 25) hT rfl (kd_11_1 ha0) (by decide) rfl) ?_
        refine Eq.trans (x1 (h := 26) hT rfl rfl (by decide)) ?_
        refine Eq.trans (x31 (r := ((a0 + 3) + 1)) (cl := 0) (as := [(0, a1)]) (st' := []) (h := 27) hT rfl sm_92 rfl (kd_9_0 (kd_11_1 ha0))) ?_
        refine xbd (fun q4 => ?_)
        rw [rv_92]
        change zB P 193 28 [(2, ((a0 : Nat) : Int)), (0, a1), (0, a2), (0, a3), (0, a4)] [(0, q4.1)] q4.2 = _
        refine Eq.trans (x18 (h := 28) hT rfl) ?_
        exact x201 (h := 30) hT rfl
    · refine Eq.trans (x0 (h := 12) hT rfl) ?_
      exact x201 (h := 13) hT rfl
/-! WordLinksModel.areWords(III)Z -/
set_option maxRecDepth 100000 in
theorem e_194 {P : zP} {d : zD P} {a0 : Nat} {a1 : Int} {a2 : Int} {a3 : Int} (ha0 : zkd a0 = 12) : MM P 194 [(2, ((a0 : Nat) : Int)), (0, a1), (0, a2), (0, a3)] d = ((MM P 147 [(0, a1)] d).bind fun q1 => (if wr q1.1 = 0 then some (0, q1.2) else ((MM P 149 [(2, ((a0 : Nat) : Int)), (0, a1), (0, a2)] q1.2).bind fun q2 => (if wr q2.1 = 0 then some (0, q2.2) else ((MM P 149 [(2, ((a0 : Nat) : Int)), (0, (1 - a1)), (0, a3)] q2.2).bind fun q3 => (if wr q3.1 = 0 then some (0, q3.2) else some (1, q3.2))))))) := by
  have hT := cT_194
  refine Eq.trans (MM_def sm_194 (Nat.le_of_ble_eq_true rfl)) ?_
  change zB P 194 0 [(2, ((a0 : Nat) : Int)), (0, a1), (0, a2), (0, a3)] [] d = _
  refine Eq.trans (x1 (h := 0) hT rfl rfl (by decide)) ?_
  refine Eq.trans (x34 (as := [(0, a1)]) (st' := []) (h := 1) hT rfl sm_147 rfl) ?_
  refine xbd (fun q1 => ?_)
  rw [rv_147]
  change zB P 194 2 [(2, ((a0 : Nat) : Int)), (0, a1), (0, a2), (0, a3)] [(0, q1.1)] q1.2 = _
  refine Eq.trans (x16_0 (h := 2) hT rfl) ?_
  refine xit (fun _ => ?_) (fun _ => ?_)
  · refine Eq.trans (x0 (h := 17) hT rfl) ?_
    exact x203c (h := 18) hT rfl (by decide)
  · refine Eq.trans (x1 (h := 3) hT rfl rfl (by decide)) ?_
    refine Eq.trans (x1 (h := 4) hT rfl rfl (by decide)) ?_
    refine Eq.trans (x1 (h := 5) hT rfl rfl (by decide)) ?_
    refine Eq.trans (x31 (r := a0) (cl := 12) (as := [(0, a1), (0, a2)]) (st' := []) (h := 6) hT rfl sm_149 rfl ha0) ?_
    refine xbd (fun q2 => ?_)
    rw [rv_149]
    change zB P 194 7 [(2, ((a0 : Nat) : Int)), (0, a1), (0, a2), (0, a3)] [(0, q2.1)] q2.2 = _
    refine Eq.trans (x16_0 (h := 7) hT rfl) ?_
    refine xit (fun _ => ?_) (fun _ => ?_)
    · refine Eq.trans (x0 (h := 17) hT rfl) ?_
      exact x203c (h := 18) hT rfl (by decide)
    · refine Eq.trans (x1 (h := 8) hT rfl rfl (by decide)) ?_
      refine Eq.trans (x0 (h := 9) hT rfl) ?_
      refine Eq.trans (x1 (h := 10) hT rfl rfl (by decide)) ?_
      refine Eq.trans (x5_1 (h := 11) hT rfl) ?_
      refine Eq.trans (x1 (h := 12) hT rfl rfl (by decide)) ?_
      refine Eq.trans (x31 (r := a0) (cl := 12) (as := [(0, (1 - a1)), (0, a3)]) (st' := []) (h := 13) hT rfl sm_149 rfl ha0) ?_
      refine xbd (fun q3 => ?_)
      rw [rv_149]
      change zB P 194 14 [(2, ((a0 : Nat) : Int)), (0, a1), (0, a2), (0, a3)] [(0, q3.1)] q3.2 = _
      refine Eq.trans (x16_0 (h := 14) hT rfl) ?_
      refine xit (fun _ => ?_) (fun _ => ?_)
      · refine Eq.trans (x0 (h := 17) hT rfl) ?_
        exact x203c (h := 18) hT rfl (by decide)
      · refine Eq.trans (x0 (h := 15) hT rfl) ?_
        refine Eq.trans (x18 (h := 16) hT rfl) ?_
        exact x203c (h := 18) hT rfl (by decide)
/-! WordLinksModel.at(III)I -/
set_option maxRecDepth 100000 in
theorem e_195 {P : zP} {d : zD P} {a0 : Nat} {a1 : Int} {a2 : Int} {a3 : Int} (ha0 : zkd a0 = 12) : MM P 195 [(2, ((a0 : Nat) : Int)), (0, a1), (0, a2), (0, a3)] d = ((MM P 145 [(2, ((a0 : Nat) : Int)), (0, a1)] d).bind fun q1 => (if wr q1.1 = 0 then some ((-1), q1.2) else ((MM P 147 [(0, a2)] q1.2).bind fun q2 => (if wr q2.1 = 0 then some ((-1), q2.2) else ((MM P 55 [(0, a3), (0, 0), (0, 5)] q2.2).bind fun q3 => (if wr q3.1 ≠ 0 then ((MM P 60 [(2, ((a0 : Nat) : Int)), (0, a1), (0, a2)] q3.2).bind fun q4 => (if wr q4.1 ≤ wr a3 then some ((-2), q4.2) else ((MM P 80 [(2, ((a0 : Nat) : Int)), (0, a1), (0, a2), (0, a3)] q4.2).bind fun q5 => some (q5.1, q5.2)))) else some ((-1), q3.2))))))) := by
  have hT := cT_195
  refine Eq.trans (MM_def sm_195 (Nat.le_of_ble_eq_true rfl)) ?_
  change zB P 195 0 [(2, ((a0 : Nat) : Int)), (0, a1), (0, a2), (0, a3)] [] d = _
  refine Eq.trans (x1 (h := 0) hT rfl rfl (by decide)) ?_
  refine Eq.trans (x1 (h := 1) hT rfl rfl (by decide)) ?_
  refine Eq.trans (x31 (r := a0) (cl := 12) (as := [(0, a1)]) (st' := []) (h := 2) hT rfl sm_145 rfl ha0) ?_
  refine xbd (fun q1 => ?_)
  rw [rv_145]
  change zB P 195 3 [(2, ((a0 : Nat) : Int)), (0, a1), (0, a2), (0, a3)] [(0, q1.1)] q1.2 = _
  refine Eq.trans (x16_0 (h := 3) hT rfl) ?_
  refine xit (fun _ => ?_) (fun _ => ?_)
  · refine Eq.trans (x0 (h := 12) hT rfl) ?_
    exact x201 (h := 13) hT rfl
  · refine Eq.trans (x1 (h := 4) hT rfl rfl (by decide)) ?_
    refine Eq.trans (x34 (as := [(0, a2)]) (st' := []) (h := 5) hT rfl sm_147 rfl) ?_
    refine xbd (fun q2 => ?_)
    rw [rv_147]
    change zB P 195 6 [(2, ((a0 : Nat) : Int)), (0, a1), (0, a2), (0, a3)] [(0, q2.1)] q2.2 = _
    refine Eq.trans (x16_0 (h := 6) hT rfl) ?_
    refine xit (fun _ => ?_) (fun _ => ?_)
    · refine Eq.trans (x0 (h := 12) hT rfl) ?_
      exact x201 (h := 13) hT rfl
    · refine Eq.trans (x1 (h := 7) hT rfl rfl (by decide)) ?_
      refine Eq.trans (x0 (h := 8) hT rfl) ?_
      refine Eq.trans (x0 (h := 9) hT rfl) ?_
      refine Eq.trans (x34 (as := [(0, a3), (0, 0), (0, 5)]) (st' := []) (h := 10) hT rfl sm_55 rfl) ?_
      refine xbd (fun q3 => ?_)
      rw [rv_55]
      change zB P 195 11 [(2, ((a0 : Nat) : Int)), (0, a1), (0, a2), (0, a3)] [(0, q3.1)] q3.2 = _
      refine Eq.trans (x16_1 (h := 11) hT rfl) ?_
      refine xit (fun _ => ?_) (fun _ => ?_)
      · refine Eq.trans (x1 (h := 14) hT rfl rfl (by decide)) ?_
        refine Eq.trans (x1 (h := 15) hT rfl rfl (by decide)) ?_
        refine Eq.trans (x1 (h := 16) hT rfl rfl (by decide)) ?_
        refine Eq.trans (x1 (h := 17) hT rfl rfl (by decide)) ?_
        refine Eq.trans (x31 (r := a0) (cl := 12) (as := [(0, a1), (0, a2)]) (st' := [(0, a3)]) (h := 18) hT rfl sm_60 rfl ha0) ?_
        refine xbd (fun q4 => ?_)
        rw [rv_60]
        change zB P 195 19 [(2, ((a0 : Nat) : Int)), (0, a1), (0, a2), (0, a3)] [(0, q4.1), (0, a3)] q4.2 = _
        refine Eq.trans (x17_3 (h := 19) hT rfl) ?_
        refine xit (fun _ => ?_) (fun _ => ?_)
        · refine Eq.trans (x0 (h := 26) hT rfl) ?_
          exact x201 (h := 27) hT rfl
        · refine Eq.trans (x1 (h := 20) hT rfl rfl (by decide)) ?_
          refine Eq.trans (x1 (h := 21) hT rfl rfl (by decide)) ?_
          refine Eq.trans (x1 (h := 22) hT rfl rfl (by decide)) ?_
          refine Eq.trans (x1 (h := 23) hT rfl rfl (by decide)) ?_
          refine Eq.trans (x31 (r := a0) (cl := 12) (as := [(0, a1), (0, a2), (0, a3)]) (st' := []) (h := 24) hT rfl sm_80 rfl ha0) ?_
          refine xbd (fun q5 => ?_)
          rw [rv_80]
          change zB P 195 25 [(2, ((a0 : Nat) : Int)), (0, a1), (0, a2), (0, a3)] [(0, q5.1)] q5.2 = _
          refine Eq.trans (x18 (h := 25) hT rfl) ?_
          exact x201 (h := 27) hT rfl
      · refine Eq.trans (x0 (h := 12) hT rfl) ?_
        exact x201 (h := 13) hT rfl
/-! WordLinksModel.boxes(I)I -/
set_option maxRecDepth 100000 in
theorem e_196 {P : zP} {d : zD P} {a0 : Nat} {a1 : Int} (ha0 : zkd a0 = 12) : MM P 196 [(2, ((a0 : Nat) : Int)), (0, a1)] d = zB P 196 4 [(2, ((a0 : Nat) : Int)), (0, a1), (0, 0), (0, 0), (3, 0), (3, 0), (3, 0)] [] d := by
  have hT := cT_196
  refine Eq.trans (MM_def sm_196 (Nat.le_of_ble_eq_true rfl)) ?_
  change zB P 196 0 [(2, ((a0 : Nat) : Int)), (0, a1), (3, 0), (3, 0), (3, 0), (3, 0), (3, 0)] [] d = _
  refine Eq.trans (x0 (h := 0) hT rfl) ?_
  refine Eq.trans (x2 (ls' := [(2, ((a0 : Nat) : Int)), (0, a1), (0, 0), (3, 0), (3, 0), (3, 0), (3, 0)]) (h := 1) hT rfl (Nat.le_of_ble_eq_true rfl) rfl) ?_
  refine Eq.trans (x0 (h := 2) hT rfl) ?_
  refine Eq.trans (x2 (ls' := [(2, ((a0 : Nat) : Int)), (0, a1), (0, 0), (0, 0), (3, 0), (3, 0), (3, 0)]) (h := 3) hT rfl (Nat.le_of_ble_eq_true rfl) rfl) ?_
  exact rfl
set_option maxRecDepth 100000 in
theorem q_196_4 {P : zP} {d : zD P} {a0 : Nat} {a1 : Int} {a2 : Int} {a3 : Int} {g4 : zV} {g5 : zV} {g6 : zV} (ha0 : zkd a0 = 12) : zB P 196 4 [(2, ((a0 : Nat) : Int)), (0, a1), (0, a2), (0, a3), g4, g5, g6] [] d = ((MM P 60 [(2, ((a0 : Nat) : Int)), (0, a1), (0, 0)] d).bind fun q1 => (if wr q1.1 ≤ wr a3 then some (a2, q1.2) else zB P 196 12 [(2, ((a0 : Nat) : Int)), (0, a1), (0, a2), (0, a3), (0, a3), g5, g6] [] q1.2)) := by
  have hT := cT_196
  refine Eq.trans (x1 (h := 4) hT rfl rfl (by decide)) ?_
  refine Eq.trans (x1 (h := 5) hT rfl rfl (by decide)) ?_
  refine Eq.trans (x1 (h := 6) hT rfl rfl (by decide)) ?_
  refine Eq.trans (x0 (h := 7) hT rfl) ?_
  refine Eq.trans (x31 (r := a0) (cl := 12) (as := [(0, a1), (0, 0)]) (st' := [(0, a3)]) (h := 8) hT rfl sm_60 rfl ha0) ?_
  refine xbd (fun q1 => ?_)
  rw [rv_60]
  change zB P 196 9 [(2, ((a0 : Nat) : Int)), (0, a1), (0, a2), (0, a3), g4, g5, g6] [(0, q1.1), (0, a3)] q1.2 = _
  refine Eq.trans (x17_3 (h := 9) hT rfl) ?_
  refine xit (fun _ => ?_) (fun _ => ?_)
  · refine Eq.trans (x1 (h := 62) hT rfl rfl (by decide)) ?_
    exact x201 (h := 63) hT rfl
  · refine Eq.trans (x1 (h := 10) hT rfl rfl (by decide)) ?_
    refine Eq.trans (x2 (ls' := [(2, ((a0 : Nat) : Int)), (0, a1), (0, a2), (0, a3), (0, a3), g5, g6]) (h := 11) hT rfl (Nat.le_of_ble_eq_true rfl) rfl) ?_
    exact rfl
set_option maxRecDepth 100000 in
theorem q_196_12 {P : zP} {d : zD P} {a0 : Nat} {a1 : Int} {a2 : Int} {a3 : Int} {a4 : Int} {g5 : zV} {g6 : zV} (ha0 : zkd a0 = 12) : zB P 196 12 [(2, ((a0 : Nat) : Int)), (0, a1), (0, a2), (0, a3), (0, a4), g5, g6] [] d = ((MM P 60 [(2, ((a0 : Nat) : Int)), (0, a1), (0, 0)] d).bind fun q2 => ((MM P 62 [(0, (a3 + 3)), (0, q2.1)] q2.2).bind fun q3 => (if wr q3.1 ≤ wr a4 then zB P 196 4 [(2, ((a0 : Nat) : Int)), (0, a1), (0, a2), (0, (a3 + 1)), (0, a4), g5, g6] [] q3.2 else zB P 196 24 [(2, ((a0 : Nat) : Int)), (0, a1), (0, a2), (0, a3), (0, a4), (0, 0), g6] [] q3.2))) := by
  have hT := cT_196
  refine Eq.trans (x1 (h := 12) hT rfl rfl (by decide)) ?_
  refine Eq.trans (x1 (h := 13) hT rfl rfl (by decide)) ?_
  refine Eq.trans (x0 (h := 14) hT rfl) ?_
  refine Eq.trans (x5_0 (h := 15) hT rfl) ?_
  refine Eq.trans (x1 (h := 16) hT rfl rfl (by decide)) ?_
  refine Eq.trans (x1 (h := 17) hT rfl rfl (by decide)) ?_
  refine Eq.trans (x0 (h := 18) hT rfl) ?_
  refine Eq.trans (x31 (r := a0) (cl := 12) (as := [(0, a1), (0, 0)]) (st' := [(0, (a3 + 3)), (0, a4)]) (h := 19) hT rfl sm_60 rfl ha0) ?_
  refine xbd (fun q2 => ?_)
  rw [rv_60]
  change zB P 196 20 [(2, ((a0 : Nat) : Int)), (0, a1), (0, a2), (0, a3), (0, a4), g5, g6] [(0, q2.1), (0, (a3 + 3)), (0, a4)] q2.2 = _
  refine Eq.trans (x34 (as := [(0, (a3 + 3)), (0, q2.1)]) (st' := [(0, a4)]) (h := 20) hT rfl sm_62 rfl) ?_
  refine xbd (fun q3 => ?_)
  rw [rv_62]
  change zB P 196 21 [(2, ((a0 : Nat) : Int)), (0, a1), (0, a2), (0, a3), (0, a4), g5, g6] [(0, q3.1), (0, a4)] q3.2 = _
  refine Eq.trans (x17_3 (h := 21) hT rfl) ?_
  refine xit (fun _ => ?_) (fun _ => ?_)
  · refine Eq.trans (x4 (ls' := [(2, ((a0 : Nat) : Int)), (0, a1), (0, a2), (0, (a3 + 1)), (0, a4), g5, g6]) (h := 60) hT rfl rfl rfl) ?_
    refine Eq.trans (x18 (h := 61) hT rfl) ?_
    exact rfl
  · refine Eq.trans (x0 (h := 22) hT rfl) ?_
    refine Eq.trans (x2 (ls' := [(2, ((a0 : Nat) : Int)), (0, a1), (0, a2), (0, a3), (0, a4), (0, 0), g6]) (h := 23) hT rfl (Nat.le_of_ble_eq_true rfl) rfl) ?_
    exact rfl
set_option maxRecDepth 100000 in
theorem q_196_24 {P : zP} {d : zD P} {a0 : Nat} {a1 : Int} {a2 : Int} {a3 : Int} {a4 : Int} {a5 : Int} {g6 : zV} (ha0 : zkd a0 = 12) : zB P 196 24 [(2, ((a0 : Nat) : Int)), (0, a1), (0, a2), (0, a3), (0, a4), (0, a5), g6] [] d = ((MM P 60 [(2, ((a0 : Nat) : Int)), (0, a1), (0, 1)] d).bind fun q4 => (if wr q4.1 ≤ wr a5 then zB P 196 12 [(2, ((a0 : Nat) : Int)), (0, a1), (0, a2), (0, a3), (0, (a4 + 1)), (0, a5), g6] [] q4.2 else zB P 196 32 [(2, ((a0 : Nat) : Int)), (0, a1), (0, a2), (0, a3), (0, a4), (0, a5), (0, a5)] [] q4.2)) := by
  have hT := cT_196
  refine Eq.trans (x1 (h := 24) hT rfl rfl (by decide)) ?_
  refine Eq.trans (x1 (h := 25) hT rfl rfl (by decide)) ?_
  refine Eq.trans (x1 (h := 26) hT rfl rfl (by decide)) ?_
  refine Eq.trans (x0 (h := 27) hT rfl) ?_
  refine Eq.trans (x31 (r := a0) (cl := 12) (as := [(0, a1), (0, 1)]) (st' := [(0, a5)]) (h := 28) hT rfl sm_60 rfl ha0) ?_
  refine xbd (fun q4 => ?_)
  rw [rv_60]
  change zB P 196 29 [(2, ((a0 : Nat) : Int)), (0, a1), (0, a2), (0, a3), (0, a4), (0, a5), g6] [(0, q4.1), (0, a5)] q4.2 = _
  refine Eq.trans (x17_3 (h := 29) hT rfl) ?_
  refine xit (fun _ => ?_) (fun _ => ?_)
  · refine Eq.trans (x4 (ls' := [(2, ((a0 : Nat) : Int)), (0, a1), (0, a2), (0, a3), (0, (a4 + 1)), (0, a5), g6]) (h := 58) hT rfl rfl rfl) ?_
    refine Eq.trans (x18 (h := 59) hT rfl) ?_
    exact rfl
  · refine Eq.trans (x1 (h := 30) hT rfl rfl (by decide)) ?_
    refine Eq.trans (x2 (ls' := [(2, ((a0 : Nat) : Int)), (0, a1), (0, a2), (0, a3), (0, a4), (0, a5), (0, a5)]) (h := 31) hT rfl (Nat.le_of_ble_eq_true rfl) rfl) ?_
    exact rfl
set_option maxRecDepth 100000 in
theorem q_196_32 {P : zP} {d : zD P} {a0 : Nat} {a1 : Int} {a2 : Int} {a3 : Int} {a4 : Int} {a5 : Int} {a6 : Int} (ha0 : zkd a0 = 12) : zB P 196 32 [(2, ((a0 : Nat) : Int)), (0, a1), (0, a2), (0, a3), (0, a4), (0, a5), (0, a6)] [] d = ((MM P 60 [(2, ((a0 : Nat) : Int)), (0, a1), (0, 1)] d).bind fun q5 => ((MM P 62 [(0, (a5 + 3)), (0, q5.1)] q5.2).bind fun q6 => (if wr q6.1 ≤ wr a6 then zB P 196 24 [(2, ((a0 : Nat) : Int)), (0, a1), (0, a2), (0, a3), (0, a4), (0, (a5 + 1)), (0, a6)] [] q6.2 else ((MM P 140 [(2, ((a0 : Nat) : Int)), (0, a1), (0, a3), (0, a4), (0, a5), (0, a6)] q6.2).bind fun q7 => (if wr q7.1 = 0 then zB P 196 32 [(2, ((a0 : Nat) : Int)), (0, a1), (0, a2), (0, a3), (0, a4), (0, a5), (0, (a6 + 1))] [] q7.2 else zB P 196 32 [(2, ((a0 : Nat) : Int)), (0, a1), (0, (a2 + 1)), (0, a3), (0, a4), (0, a5), (0, (a6 + 1))] [] q7.2))))) := by
  have hT := cT_196
  refine Eq.trans (x1 (h := 32) hT rfl rfl (by decide)) ?_
  refine Eq.trans (x1 (h := 33) hT rfl rfl (by decide)) ?_
  refine Eq.trans (x0 (h := 34) hT rfl) ?_
  refine Eq.trans (x5_0 (h := 35) hT rfl) ?_
  refine Eq.trans (x1 (h := 36) hT rfl rfl (by decide)) ?_
  refine Eq.trans (x1 (h := 37) hT rfl rfl (by decide)) ?_
  refine Eq.trans (x0 (h := 38) hT rfl) ?_
  refine Eq.trans (x31 (r := a0) (cl := 12) (as := [(0, a1), (0, 1)]) (st' := [(0, (a5 + 3)), (0, a6)]) (h := 39) hT rfl sm_60 rfl ha0) ?_
  refine xbd (fun q5 => ?_)
  rw [rv_60]
  change zB P 196 40 [(2, ((a0 : Nat) : Int)), (0, a1), (0, a2), (0, a3), (0, a4), (0, a5), (0, a6)] [(0, q5.1), (0, (a5 + 3)), (0, a6)] q5.2 = _
  refine Eq.trans (x34 (as := [(0, (a5 + 3)), (0, q5.1)]) (st' := [(0, a6)]) (h := 40) hT rfl sm_62 rfl) ?_
  refine xbd (fun q6 => ?_)
  rw [rv_62]
  change zB P 196 41 [(2, ((a0 : Nat) : Int)), (0, a1), (0, a2), (0, a3), (0, a4), (0, a5), (0, a6)] [(0, q6.1), (0, a6)] q6.2 = _
  refine Eq.trans (x17_3 (h := 41) hT rfl) ?_
  refine xit (fun _ => ?_) (fun _ => ?_)
  · refine Eq.trans (x4 (ls' := [(2, ((a0 : Nat) : Int)), (0, a1), (0, a2), (0, a3), (0, a4), (0, (a5 + 1)), (0, a6)]) (h := 56) hT rfl rfl rfl) ?_
    refine Eq.trans (x18 (h := 57) hT rfl) ?_
    exact rfl
  · refine Eq.trans (x1 (h := 42) hT rfl rfl (by decide)) ?_
    refine Eq.trans (x1 (h := 43) hT rfl rfl (by decide)) ?_
    refine Eq.trans (x1 (h := 44) hT rfl rfl (by decide)) ?_
    refine Eq.trans (x1 (h := 45) hT rfl rfl (by decide)) ?_
    refine Eq.trans (x1 (h := 46) hT rfl rfl (by decide)) ?_
    refine Eq.trans (x1 (h := 47) hT rfl rfl (by decide)) ?_
    refine Eq.trans (x31 (r := a0) (cl := 12) (as := [(0, a1), (0, a3), (0, a4), (0, a5), (0, a6)]) (st' := []) (h := 48) hT rfl sm_140 rfl ha0) ?_
    refine xbd (fun q7 => ?_)
    rw [rv_140]
    change zB P 196 49 [(2, ((a0 : Nat) : Int)), (0, a1), (0, a2), (0, a3), (0, a4), (0, a5), (0, a6)] [(0, q7.1)] q7.2 = _
    refine Eq.trans (x16_0 (h := 49) hT rfl) ?_
    refine xit (fun _ => ?_) (fun _ => ?_)
    · refine Eq.trans (x4 (ls' := [(2, ((a0 : Nat) : Int)), (0, a1), (0, a2), (0, a3), (0, a4), (0, a5), (0, (a6 + 1))]) (h := 54) hT rfl rfl rfl) ?_
      refine Eq.trans (x18 (h := 55) hT rfl) ?_
      exact rfl
    · refine Eq.trans (x1 (h := 50) hT rfl rfl (by decide)) ?_
      refine Eq.trans (x0 (h := 51) hT rfl) ?_
      refine Eq.trans (x5_0 (h := 52) hT rfl) ?_
      refine Eq.trans (x2 (ls' := [(2, ((a0 : Nat) : Int)), (0, a1), (0, (a2 + 1)), (0, a3), (0, a4), (0, a5), (0, a6)]) (h := 53) hT rfl (Nat.le_of_ble_eq_true rfl) rfl) ?_
      refine Eq.trans (x4 (ls' := [(2, ((a0 : Nat) : Int)), (0, a1), (0, (a2 + 1)), (0, a3), (0, a4), (0, a5), (0, (a6 + 1))]) (h := 54) hT rfl rfl rfl) ?_
      refine Eq.trans (x18 (h := 55) hT rfl) ?_
      exact rfl
/-! WordLinksModel.count(I)I -/
set_option maxRecDepth 100000 in
theorem e_197 {P : zP} {d : zD P} {a0 : Nat} {a1 : Int} (ha0 : zkd a0 = 12) : MM P 197 [(2, ((a0 : Nat) : Int)), (0, a1)] d = zB P 197 4 [(2, ((a0 : Nat) : Int)), (0, a1), (0, 0), (0, 0)] [] d := by
  have hT := cT_197
  refine Eq.trans (MM_def sm_197 (Nat.le_of_ble_eq_true rfl)) ?_
  change zB P 197 0 [(2, ((a0 : Nat) : Int)), (0, a1), (3, 0), (3, 0)] [] d = _
  refine Eq.trans (x0 (h := 0) hT rfl) ?_
  refine Eq.trans (x2 (ls' := [(2, ((a0 : Nat) : Int)), (0, a1), (0, 0), (3, 0)]) (h := 1) hT rfl (Nat.le_of_ble_eq_true rfl) rfl) ?_
  refine Eq.trans (x0 (h := 2) hT rfl) ?_
  refine Eq.trans (x2 (ls' := [(2, ((a0 : Nat) : Int)), (0, a1), (0, 0), (0, 0)]) (h := 3) hT rfl (Nat.le_of_ble_eq_true rfl) rfl) ?_
  exact rfl
set_option maxRecDepth 100000 in
theorem q_197_4 {P : zP} {d : zD P} {a0 : Nat} {a1 : Int} {a2 : Int} {a3 : Int} (ha0 : zkd a0 = 12) : zB P 197 4 [(2, ((a0 : Nat) : Int)), (0, a1), (0, a2), (0, a3)] [] d = (if zin 0 18180 then (if wr ((d.m ((a0 + 1)) (zix 0))) ≤ wr a3 then (if wr a1 ≠ 0 then (if wr a1 ≠ wr 1 then (if wr a1 ≠ wr 2 then (if wr a1 ≠ wr 3 then some ((-1), d) else some (a2, d)) else some ((d.m a0 3), d)) else (if zin 1 18180 then some ((d.m ((a0 + 1)) (zix 1)), d) else none)) else (if zin 0 18180 then some ((d.m ((a0 + 1)) (zix 0)), d) else none)) else ((MM P 162 [(2, ((a0 : Nat) : Int)), (0, a3)] d).bind fun q4 => zB P 197 4 [(2, ((a0 : Nat) : Int)), (0, a1), (0, (a2 + q4.1)), (0, (a3 + 1))] [] q4.2)) else none) := by
  have hT := cT_197
  refine Eq.trans (x1 (h := 4) hT rfl rfl (by decide)) ?_
  refine Eq.trans (x1 (h := 5) hT rfl rfl (by decide)) ?_
  refine Eq.trans (x21r (r := a0) (cl := 12) (o := 1) (h := 6) hT rfl ha0 (by decide) rfl) ?_
  refine Eq.trans (x0 (h := 7) hT rfl) ?_
  refine Eq.trans (x24 (r := (a0 + 1)) (n := 18180) (h := 8) hT rfl (Or.inl (kd_12_0 ha0)) (ln_12_0 ha0)) ?_
  refine xig (fun hz1 => ?_)
  refine Eq.trans (x17_3 (h := 9) hT rfl) ?_
  refine xit (fun _ => ?_) (fun _ => ?_)
  · refine Eq.trans (x1 (h := 18) hT rfl rfl (by decide)) ?_
    refine Eq.trans (x16_1 (h := 19) hT rfl) ?_
    refine xit (fun _ => ?_) (fun _ => ?_)
    · refine Eq.trans (x1 (h := 25) hT rfl rfl (by decide)) ?_
      refine Eq.trans (x0 (h := 26) hT rfl) ?_
      refine Eq.trans (x17_1 (h := 27) hT rfl) ?_
      refine xit (fun _ => ?_) (fun _ => ?_)
      · refine Eq.trans (x1 (h := 33) hT rfl rfl (by decide)) ?_
        refine Eq.trans (x0 (h := 34) hT rfl) ?_
        refine Eq.trans (x17_1 (h := 35) hT rfl) ?_
        refine xit (fun _ => ?_) (fun _ => ?_)
        · refine Eq.trans (x1 (h := 39) hT rfl rfl (by decide)) ?_
          refine Eq.trans (x0 (h := 40) hT rfl) ?_
          refine Eq.trans (x17_1 (h := 41) hT rfl) ?_
          refine xit (fun _ => ?_) (fun _ => ?_)
          · refine Eq.trans (x0 (h := 44) hT rfl) ?_
            exact x201 (h := 45) hT rfl
          · refine Eq.trans (x1 (h := 42) hT rfl rfl (by decide)) ?_
            refine Eq.trans (x18 (h := 43) hT rfl) ?_
            exact x201 (h := 45) hT rfl
        · refine Eq.trans (x1 (h := 36) hT rfl rfl (by decide)) ?_
          refine Eq.trans (x21 (r := a0) (cl := 12) (h := 37) hT rfl ha0) ?_
          refine Eq.trans (x18 (h := 38) hT rfl) ?_
          exact x201 (h := 45) hT rfl
      · refine Eq.trans (x1 (h := 28) hT rfl rfl (by decide)) ?_
        refine Eq.trans (x21r (r := a0) (cl := 12) (o := 1) (h := 29) hT rfl ha0 (by decide) rfl) ?_
        refine Eq.trans (x0 (h := 30) hT rfl) ?_
        refine Eq.trans (x24 (r := (a0 + 1)) (n := 18180) (h := 31) hT rfl (Or.inl (kd_12_0 ha0)) (ln_12_0 ha0)) ?_
        refine xig (fun hz2 => ?_)
        refine Eq.trans (x18 (h := 32) hT rfl) ?_
        exact x201 (h := 45) hT rfl
    · refine Eq.trans (x1 (h := 20) hT rfl rfl (by decide)) ?_
      refine Eq.trans (x21r (r := a0) (cl := 12) (o := 1) (h := 21) hT rfl ha0 (by decide) rfl) ?_
      refine Eq.trans (x0 (h := 22) hT rfl) ?_
      refine Eq.trans (x24 (r := (a0 + 1)) (n := 18180) (h := 23) hT rfl (Or.inl (kd_12_0 ha0)) (ln_12_0 ha0)) ?_
      refine xig (fun hz3 => ?_)
      refine Eq.trans (x18 (h := 24) hT rfl) ?_
      exact x201 (h := 45) hT rfl
  · refine Eq.trans (x1 (h := 10) hT rfl rfl (by decide)) ?_
    refine Eq.trans (x1 (h := 11) hT rfl rfl (by decide)) ?_
    refine Eq.trans (x1 (h := 12) hT rfl rfl (by decide)) ?_
    refine Eq.trans (x31 (r := a0) (cl := 12) (as := [(0, a3)]) (st' := [(0, a2)]) (h := 13) hT rfl sm_162 rfl ha0) ?_
    refine xbd (fun q4 => ?_)
    rw [rv_162]
    change zB P 197 14 [(2, ((a0 : Nat) : Int)), (0, a1), (0, a2), (0, a3)] [(0, q4.1), (0, a2)] q4.2 = _
    refine Eq.trans (x5_0 (h := 14) hT rfl) ?_
    refine Eq.trans (x2 (ls' := [(2, ((a0 : Nat) : Int)), (0, a1), (0, (a2 + q4.1)), (0, a3)]) (h := 15) hT rfl (Nat.le_of_ble_eq_true rfl) rfl) ?_
    refine Eq.trans (x4 (ls' := [(2, ((a0 : Nat) : Int)), (0, a1), (0, (a2 + q4.1)), (0, (a3 + 1))]) (h := 16) hT rfl rfl rfl) ?_
    refine Eq.trans (x18 (h := 17) hT rfl) ?_
    exact rfl
/-! WordLinksModel.firstWeight(III)J -/
set_option maxRecDepth 100000 in
theorem e_198 {P : zP} {d : zD P} {a0 : Nat} {a1 : Int} {a2 : Int} {a3 : Int} (ha0 : zkd a0 = 12) : MM P 198 [(2, ((a0 : Nat) : Int)), (0, a1), (0, a2), (0, a3)] d = (if zin 2 18180 then (if wr ((d.m ((a0 + 1)) (zix 2))) ≠ 0 then (if wr a1 ≠ 0 then ((MM P 152 [(2, ((a0 : Nat) : Int)), (0, a3), (0, a2)] d).bind fun q2 => some ((wr ((1 + (3 * q2.1)))), q2.2)) else ((MM P 152 [(2, ((a0 : Nat) : Int)), (0, a2), (0, a3)] d).bind fun q3 => some ((wr ((1 + (3 * q3.1)))), q3.2))) else some (1, d)) else none) := by
  have hT := cT_198
  refine Eq.trans (MM_def sm_198 (Nat.le_of_ble_eq_true rfl)) ?_
  change zB P 198 0 [(2, ((a0 : Nat) : Int)), (0, a1), (0, a2), (0, a3)] [] d = _
  refine Eq.trans (x1 (h := 0) hT rfl rfl (by decide)) ?_
  refine Eq.trans (x21r (r := a0) (cl := 12) (o := 1) (h := 1) hT rfl ha0 (by decide) rfl) ?_
  refine Eq.trans (x0 (h := 2) hT rfl) ?_
  refine Eq.trans (x24 (r := (a0 + 1)) (n := 18180) (h := 3) hT rfl (Or.inl (kd_12_0 ha0)) (ln_12_0 ha0)) ?_
  refine xig (fun hz1 => ?_)
  refine Eq.trans (x16_1 (h := 4) hT rfl) ?_
  refine xit (fun _ => ?_) (fun _ => ?_)
  · refine Eq.trans (x0 (h := 7) hT rfl) ?_
    refine Eq.trans (x0 (h := 8) hT rfl) ?_
    refine Eq.trans (x1 (h := 9) hT rfl rfl (by decide)) ?_
    refine Eq.trans (x16_1 (h := 10) hT rfl) ?_
    refine xit (fun _ => ?_) (fun _ => ?_)
    · refine Eq.trans (x1 (h := 16) hT rfl rfl (by decide)) ?_
      refine Eq.trans (x1 (h := 17) hT rfl rfl (by decide)) ?_
      refine Eq.trans (x1 (h := 18) hT rfl rfl (by decide)) ?_
      refine Eq.trans (x31 (r := a0) (cl := 12) (as := [(0, a3), (0, a2)]) (st' := [(0, 3), (0, 1)]) (h := 19) hT rfl sm_152 rfl ha0) ?_
      refine xbd (fun q2 => ?_)
      rw [rv_152]
      change zB P 198 20 [(2, ((a0 : Nat) : Int)), (0, a1), (0, a2), (0, a3)] [(0, q2.1), (0, 3), (0, 1)] q2.2 = _
      refine Eq.trans (x5_2 (h := 20) hT rfl) ?_
      refine Eq.trans (x5_0 (h := 21) hT rfl) ?_
      refine Eq.trans (x12 (h := 22) hT rfl) ?_
      exact x202 (h := 23) hT rfl
    · refine Eq.trans (x1 (h := 11) hT rfl rfl (by decide)) ?_
      refine Eq.trans (x1 (h := 12) hT rfl rfl (by decide)) ?_
      refine Eq.trans (x1 (h := 13) hT rfl rfl (by decide)) ?_
      refine Eq.trans (x31 (r := a0) (cl := 12) (as := [(0, a2), (0, a3)]) (st' := [(0, 3), (0, 1)]) (h := 14) hT rfl sm_152 rfl ha0) ?_
      refine xbd (fun q3 => ?_)
      rw [rv_152]
      change zB P 198 15 [(2, ((a0 : Nat) : Int)), (0, a1), (0, a2), (0, a3)] [(0, q3.1), (0, 3), (0, 1)] q3.2 = _
      refine Eq.trans (x18 (h := 15) hT rfl) ?_
      refine Eq.trans (x5_2 (h := 20) hT rfl) ?_
      refine Eq.trans (x5_0 (h := 21) hT rfl) ?_
      refine Eq.trans (x12 (h := 22) hT rfl) ?_
      exact x202 (h := 23) hT rfl
  · refine Eq.trans (x0 (h := 5) hT rfl) ?_
    exact x202 (h := 6) hT rfl
/-! WordLinksModel.fit(II)J -/
set_option maxRecDepth 100000 in
theorem e_199 {P : zP} {d : zD P} {a0 : Nat} {a1 : Int} {a2 : Int} (ha0 : zkd a0 = 12) : MM P 199 [(2, ((a0 : Nat) : Int)), (0, a1), (0, a2)] d = ((MM P 147 [(0, a1)] d).bind fun q1 => (if wr q1.1 = 0 then some ((-2), q1.2) else (if wr a2 = wr ((-1)) then (if wr a2 = wr ((-1)) then zB P 199 24 [(2, ((a0 : Nat) : Int)), (0, a1), (0, a2), (1, 0), (3, 0), (0, 0)] [] q1.2 else ((MM P 137 [(2, ((a0 : Nat) : Int)), (0, a1), (0, a2)] q1.2).bind fun q2 => some (q2.1, q2.2))) else ((MM P 145 [(2, ((a0 : Nat) : Int)), (0, a2)] q1.2).bind fun q3 => (if wr q3.1 ≠ 0 then (if wr a2 = wr ((-1)) then zB P 199 24 [(2, ((a0 : Nat) : Int)), (0, a1), (0, a2), (1, 0), (3, 0), (0, 0)] [] q3.2 else ((MM P 137 [(2, ((a0 : Nat) : Int)), (0, a1), (0, a2)] q3.2).bind fun q4 => some (q4.1, q4.2))) else some ((-2), q3.2)))))) := by
  have hT := cT_199
  refine Eq.trans (MM_def sm_199 (Nat.le_of_ble_eq_true rfl)) ?_
  change zB P 199 0 [(2, ((a0 : Nat) : Int)), (0, a1), (0, a2), (3, 0), (3, 0), (3, 0)] [] d = _
  refine Eq.trans (x1 (h := 0) hT rfl rfl (by decide)) ?_
  refine Eq.trans (x34 (as := [(0, a1)]) (st' := []) (h := 1) hT rfl sm_147 rfl) ?_
  refine xbd (fun q1 => ?_)
  rw [rv_147]
  change zB P 199 2 [(2, ((a0 : Nat) : Int)), (0, a1), (0, a2), (3, 0), (3, 0), (3, 0)] [(0, q1.1)] q1.2 = _
  refine Eq.trans (x16_0 (h := 2) hT rfl) ?_
  refine xit (fun _ => ?_) (fun _ => ?_)
  · refine Eq.trans (x0 (h := 10) hT rfl) ?_
    exact x202 (h := 11) hT rfl
  · refine Eq.trans (x1 (h := 3) hT rfl rfl (by decide)) ?_
    refine Eq.trans (x0 (h := 4) hT rfl) ?_
    refine Eq.trans (x17_0 (h := 5) hT rfl) ?_
    refine xit (fun _ => ?_) (fun _ => ?_)
    · refine Eq.trans (x1 (h := 12) hT rfl rfl (by decide)) ?_
      refine Eq.trans (x0 (h := 13) hT rfl) ?_
      refine Eq.trans (x17_0 (h := 14) hT rfl) ?_
      refine xit (fun _ => ?_) (fun _ => ?_)
      · refine Eq.trans (x0 (h := 20) hT rfl) ?_
        refine Eq.trans (x3 (ls' := [(2, ((a0 : Nat) : Int)), (0, a1), (0, a2), (1, 0), (3, 0), (3, 0)]) (h := 21) hT rfl (Nat.le_of_ble_eq_true rfl) rfl) ?_
        refine Eq.trans (x0 (h := 22) hT rfl) ?_
        refine Eq.trans (x2 (ls' := [(2, ((a0 : Nat) : Int)), (0, a1), (0, a2), (1, 0), (3, 0), (0, 0)]) (h := 23) hT rfl (Nat.le_of_ble_eq_true rfl) rfl) ?_
        exact rfl
      · refine Eq.trans (x1 (h := 15) hT rfl rfl (by decide)) ?_
        refine Eq.trans (x1 (h := 16) hT rfl rfl (by decide)) ?_
        refine Eq.trans (x1 (h := 17) hT rfl rfl (by decide)) ?_
        refine Eq.trans (x31 (r := a0) (cl := 12) (as := [(0, a1), (0, a2)]) (st' := []) (h := 18) hT rfl sm_137 rfl ha0) ?_
        refine xbd (fun q2 => ?_)
        rw [rv_137]
        change zB P 199 19 [(2, ((a0 : Nat) : Int)), (0, a1), (0, a2), (3, 0), (3, 0), (3, 0)] [(1, q2.1)] q2.2 = _
        exact x202 (h := 19) hT rfl
    · refine Eq.trans (x1 (h := 6) hT rfl rfl (by decide)) ?_
      refine Eq.trans (x1 (h := 7) hT rfl rfl (by decide)) ?_
      refine Eq.trans (x31 (r := a0) (cl := 12) (as := [(0, a2)]) (st' := []) (h := 8) hT rfl sm_145 rfl ha0) ?_
      refine xbd (fun q3 => ?_)
      rw [rv_145]
      change zB P 199 9 [(2, ((a0 : Nat) : Int)), (0, a1), (0, a2), (3, 0), (3, 0), (3, 0)] [(0, q3.1)] q3.2 = _
      refine Eq.trans (x16_1 (h := 9) hT rfl) ?_
      refine xit (fun _ => ?_) (fun _ => ?_)
      · refine Eq.trans (x1 (h := 12) hT rfl rfl (by decide)) ?_
        refine Eq.trans (x0 (h := 13) hT rfl) ?_
        refine Eq.trans (x17_0 (h := 14) hT rfl) ?_
        refine xit (fun _ => ?_) (fun _ => ?_)
        · refine Eq.trans (x0 (h := 20) hT rfl) ?_
          refine Eq.trans (x3 (ls' := [(2, ((a0 : Nat) : Int)), (0, a1), (0, a2), (1, 0), (3, 0), (3, 0)]) (h := 21) hT rfl (Nat.le_of_ble_eq_true rfl) rfl) ?_
          refine Eq.trans (x0 (h := 22) hT rfl) ?_
          refine Eq.trans (x2 (ls' := [(2, ((a0 : Nat) : Int)), (0, a1), (0, a2), (1, 0), (3, 0), (0, 0)]) (h := 23) hT rfl (Nat.le_of_ble_eq_true rfl) rfl) ?_
          exact rfl
        · refine Eq.trans (x1 (h := 15) hT rfl rfl (by decide)) ?_
          refine Eq.trans (x1 (h := 16) hT rfl rfl (by decide)) ?_
          refine Eq.trans (x1 (h := 17) hT rfl rfl (by decide)) ?_
          refine Eq.trans (x31 (r := a0) (cl := 12) (as := [(0, a1), (0, a2)]) (st' := []) (h := 18) hT rfl sm_137 rfl ha0) ?_
          refine xbd (fun q4 => ?_)
          rw [rv_137]
          change zB P 199 19 [(2, ((a0 : Nat) : Int)), (0, a1), (0, a2), (3, 0), (3, 0), (3, 0)] [(1, q4.1)] q4.2 = _
          exact x202 (h := 19) hT rfl
      · refine Eq.trans (x0 (h := 10) hT rfl) ?_
        exact x202 (h := 11) hT rfl
set_option maxRecDepth 100000 in
theorem q_199_24 {P : zP} {d : zD P} {a0 : Nat} {a1 : Int} {g2 : zV} {a3 : Int} {g4 : zV} {a5 : Int} (ha0 : zkd a0 = 12) : zB P 199 24 [(2, ((a0 : Nat) : Int)), (0, a1), g2, (1, a3), g4, (0, a5)] [] d = (if zin 0 18180 then (if wr ((d.m ((a0 + 1)) (zix 0))) ≤ wr a5 then some (a3, d) else ((MM P 137 [(2, ((a0 : Nat) : Int)), (0, a1), (0, a5)] d).bind fun q6 => zB P 199 24 [(2, ((a0 : Nat) : Int)), (0, a1), (if (g2).1 = 1 then (3, 0) else g2), (1, (a3 + q6.1)), (3, 0), (0, (a5 + 1))] [] q6.2)) else none) := by
  have hT := cT_199
  refine Eq.trans (x1 (h := 24) hT rfl rfl (by decide)) ?_
  refine Eq.trans (x1 (h := 25) hT rfl rfl (by decide)) ?_
  refine Eq.trans (x21r (r := a0) (cl := 12) (o := 1) (h := 26) hT rfl ha0 (by decide) rfl) ?_
  refine Eq.trans (x0 (h := 27) hT rfl) ?_
  refine Eq.trans (x24 (r := (a0 + 1)) (n := 18180) (h := 28) hT rfl (Or.inl (kd_12_0 ha0)) (ln_12_0 ha0)) ?_
  refine xig (fun hz5 => ?_)
  refine Eq.trans (x17_3 (h := 29) hT rfl) ?_
  refine xit (fun _ => ?_) (fun _ => ?_)
  · refine Eq.trans (x1 (h := 39) hT rfl rfl (by decide)) ?_
    exact x202 (h := 40) hT rfl
  · refine Eq.trans (x1 (h := 30) hT rfl rfl (by decide)) ?_
    refine Eq.trans (x1 (h := 31) hT rfl rfl (by decide)) ?_
    refine Eq.trans (x1 (h := 32) hT rfl rfl (by decide)) ?_
    refine Eq.trans (x1 (h := 33) hT rfl rfl (by decide)) ?_
    refine Eq.trans (x31 (r := a0) (cl := 12) (as := [(0, a1), (0, a5)]) (st' := [(1, a3)]) (h := 34) hT rfl sm_137 rfl ha0) ?_
    refine xbd (fun q6 => ?_)
    rw [rv_137]
    change zB P 199 35 [(2, ((a0 : Nat) : Int)), (0, a1), g2, (1, a3), g4, (0, a5)] [(1, q6.1), (1, a3)] q6.2 = _
    refine Eq.trans (x8_0 (h := 35) hT rfl) ?_
    refine Eq.trans (x3 (ls' := [(2, ((a0 : Nat) : Int)), (0, a1), (if (g2).1 = 1 then (3, 0) else g2), (1, (a3 + q6.1)), (3, 0), (0, a5)]) (h := 36) hT rfl (Nat.le_of_ble_eq_true rfl) rfl) ?_
    refine Eq.trans (x4 (ls' := [(2, ((a0 : Nat) : Int)), (0, a1), (if (g2).1 = 1 then (3, 0) else g2), (1, (a3 + q6.1)), (3, 0), (0, (a5 + 1))]) (h := 37) hT rfl rfl rfl) ?_
    refine Eq.trans (x18 (h := 38) hT rfl) ?_
    exact rfl
/-! WordLinksModel.growsOnce(I)Z -/
set_option maxRecDepth 100000 in
theorem e_200 {P : zP} {d : zD P} {a0 : Nat} {a1 : Int} (ha0 : zkd a0 = 12) : MM P 200 [(2, ((a0 : Nat) : Int)), (0, a1)] d = zB P 200 4 [(2, ((a0 : Nat) : Int)), (0, a1), (0, 0), (0, 0), (3, 0), (3, 0)] [] d := by
  have hT := cT_200
  refine Eq.trans (MM_def sm_200 (Nat.le_of_ble_eq_true rfl)) ?_
  change zB P 200 0 [(2, ((a0 : Nat) : Int)), (0, a1), (3, 0), (3, 0), (3, 0), (3, 0)] [] d = _
  refine Eq.trans (x0 (h := 0) hT rfl) ?_
  refine Eq.trans (x2 (ls' := [(2, ((a0 : Nat) : Int)), (0, a1), (0, 0), (3, 0), (3, 0), (3, 0)]) (h := 1) hT rfl (Nat.le_of_ble_eq_true rfl) rfl) ?_
  refine Eq.trans (x0 (h := 2) hT rfl) ?_
  refine Eq.trans (x2 (ls' := [(2, ((a0 : Nat) : Int)), (0, a1), (0, 0), (0, 0), (3, 0), (3, 0)]) (h := 3) hT rfl (Nat.le_of_ble_eq_true rfl) rfl) ?_
  exact rfl
set_option maxRecDepth 100000 in
theorem q_200_4 {P : zP} {d : zD P} {a0 : Nat} {a1 : Int} {a2 : Int} {a3 : Int} {g4 : zV} {g5 : zV} (ha0 : zkd a0 = 12) : zB P 200 4 [(2, ((a0 : Nat) : Int)), (0, a1), (0, a2), (0, a3), g4, g5] [] d = ((MM P 60 [(2, ((a0 : Nat) : Int)), (0, a1), (0, 0)] d).bind fun q1 => (if wr q1.1 ≤ wr a3 then (if a2 = 0 ∨ a2 = 1 then some (a2, q1.2) else none) else zB P 200 12 [(2, ((a0 : Nat) : Int)), (0, a1), (0, a2), (0, a3), (0, 0), g5] [] q1.2)) := by
  have hT := cT_200
  refine Eq.trans (x1 (h := 4) hT rfl rfl (by decide)) ?_
  refine Eq.trans (x1 (h := 5) hT rfl rfl (by decide)) ?_
  refine Eq.trans (x1 (h := 6) hT rfl rfl (by decide)) ?_
  refine Eq.trans (x0 (h := 7) hT rfl) ?_
  refine Eq.trans (x31 (r := a0) (cl := 12) (as := [(0, a1), (0, 0)]) (st' := [(0, a3)]) (h := 8) hT rfl sm_60 rfl ha0) ?_
  refine xbd (fun q1 => ?_)
  rw [rv_60]
  change zB P 200 9 [(2, ((a0 : Nat) : Int)), (0, a1), (0, a2), (0, a3), g4, g5] [(0, q1.1), (0, a3)] q1.2 = _
  refine Eq.trans (x17_3 (h := 9) hT rfl) ?_
  refine xit (fun _ => ?_) (fun _ => ?_)
  · refine Eq.trans (x1 (h := 72) hT rfl rfl (by decide)) ?_
    exact x203 (h := 73) hT rfl
  · refine Eq.trans (x0 (h := 10) hT rfl) ?_
    refine Eq.trans (x2 (ls' := [(2, ((a0 : Nat) : Int)), (0, a1), (0, a2), (0, a3), (0, 0), g5]) (h := 11) hT rfl (Nat.le_of_ble_eq_true rfl) rfl) ?_
    exact rfl
set_option maxRecDepth 100000 in
theorem q_200_12 {P : zP} {d : zD P} {a0 : Nat} {a1 : Int} {a2 : Int} {a3 : Int} {a4 : Int} {g5 : zV} (ha0 : zkd a0 = 12) : zB P 200 12 [(2, ((a0 : Nat) : Int)), (0, a1), (0, a2), (0, a3), (0, a4), g5] [] d = ((MM P 60 [(2, ((a0 : Nat) : Int)), (0, a1), (0, 1)] d).bind fun q2 => (if wr q2.1 ≤ wr a4 then zB P 200 4 [(2, ((a0 : Nat) : Int)), (0, a1), (0, a2), (0, (a3 + 1)), (0, a4), g5] [] q2.2 else (if zin a3 6 then ((MM P 53 [(0, (q2.2.m ((a0 + 18)) (zix a3))), (0, a4)] q2.2).bind fun q4 => (if wr q4.1 = 0 then (if wr 0 = 0 then zB P 200 12 [(2, ((a0 : Nat) : Int)), (0, a1), (0, a2), (0, a3), (0, (a4 + 1)), (0, 0)] [] q4.2 else ((MM P 139 [(2, ((a0 : Nat) : Int)), (0, a3), (0, a4)] q4.2).bind fun q5 => (if wr q5.1 ≠ 0 then (if zin a3 6 then (if zin a3 6 then zB P 200 12 [(2, ((a0 : Nat) : Int)), (0, a1), (0, 1), (0, a3), (0, (a4 + 1)), (0, 0)] [] ((q5.2.up ((a0 + 17)) (zix a3) ((zbin 4 ((q5.2.m ((a0 + 17)) (zix a3))) ((zbin 6 1 a4)))))) else none) else none) else zB P 200 12 [(2, ((a0 : Nat) : Int)), (0, a1), (0, a2), (0, a3), (0, (a4 + 1)), (0, 0)] [] q5.2))) else (if zin a3 6 then ((MM P 53 [(0, (q4.2.m ((a0 + 17)) (zix a3))), (0, a4)] q4.2).bind fun q9 => (if wr q9.1 ≠ 0 then (if wr 0 = 0 then zB P 200 12 [(2, ((a0 : Nat) : Int)), (0, a1), (0, a2), (0, a3), (0, (a4 + 1)), (0, 0)] [] q9.2 else ((MM P 139 [(2, ((a0 : Nat) : Int)), (0, a3), (0, a4)] q9.2).bind fun q10 => (if wr q10.1 ≠ 0 then (if zin a3 6 then (if zin a3 6 then zB P 200 12 [(2, ((a0 : Nat) : Int)), (0, a1), (0, 1), (0, a3), (0, (a4 + 1)), (0, 0)] [] ((q10.2.up ((a0 + 17)) (zix a3) ((zbin 4 ((q10.2.m ((a0 + 17)) (zix a3))) ((zbin 6 1 a4)))))) else none) else none) else zB P 200 12 [(2, ((a0 : Nat) : Int)), (0, a1), (0, a2), (0, a3), (0, (a4 + 1)), (0, 0)] [] q10.2))) else (if zin a3 6 then (if wr ((q9.2.m ((a0 + 17)) (zix a3))) = 0 then (if wr 1 = 0 then zB P 200 12 [(2, ((a0 : Nat) : Int)), (0, a1), (0, a2), (0, a3), (0, (a4 + 1)), (0, 1)] [] q9.2 else ((MM P 139 [(2, ((a0 : Nat) : Int)), (0, a3), (0, a4)] q9.2).bind fun q14 => (if wr q14.1 ≠ 0 then (if zin a3 6 then (if zin a3 6 then zB P 200 12 [(2, ((a0 : Nat) : Int)), (0, a1), (0, 1), (0, a3), (0, (a4 + 1)), (0, 1)] [] ((q14.2.up ((a0 + 17)) (zix a3) ((zbin 4 ((q14.2.m ((a0 + 17)) (zix a3))) ((zbin 6 1 a4)))))) else none) else none) else zB P 200 12 [(2, ((a0 : Nat) : Int)), (0, a1), (0, a2), (0, a3), (0, (a4 + 1)), (0, 1)] [] q14.2))) else ((MM P 59 [(2, ((a0 : Nat) : Int))] q9.2).bind fun q17 => ((MM P 53 [(0, q17.1), (0, a4)] q17.2).bind fun q18 => (if wr q18.1 ≠ 0 then (if wr 0 = 0 then zB P 200 12 [(2, ((a0 : Nat) : Int)), (0, a1), (0, a2), (0, a3), (0, (a4 + 1)), (0, 0)] [] q18.2 else ((MM P 139 [(2, ((a0 : Nat) : Int)), (0, a3), (0, a4)] q18.2).bind fun q19 => (if wr q19.1 ≠ 0 then (if zin a3 6 then (if zin a3 6 then zB P 200 12 [(2, ((a0 : Nat) : Int)), (0, a1), (0, 1), (0, a3), (0, (a4 + 1)), (0, 0)] [] ((q19.2.up ((a0 + 17)) (zix a3) ((zbin 4 ((q19.2.m ((a0 + 17)) (zix a3))) ((zbin 6 1 a4)))))) else none) else none) else zB P 200 12 [(2, ((a0 : Nat) : Int)), (0, a1), (0, a2), (0, a3), (0, (a4 + 1)), (0, 0)] [] q19.2))) else (if wr 1 = 0 then zB P 200 12 [(2, ((a0 : Nat) : Int)), (0, a1), (0, a2), (0, a3), (0, (a4 + 1)), (0, 1)] [] q18.2 else ((MM P 139 [(2, ((a0 : Nat) : Int)), (0, a3), (0, a4)] q18.2).bind fun q22 => (if wr q22.1 ≠ 0 then (if zin a3 6 then (if zin a3 6 then zB P 200 12 [(2, ((a0 : Nat) : Int)), (0, a1), (0, 1), (0, a3), (0, (a4 + 1)), (0, 1)] [] ((q22.2.up ((a0 + 17)) (zix a3) ((zbin 4 ((q22.2.m ((a0 + 17)) (zix a3))) ((zbin 6 1 a4)))))) else none) else none) else zB P 200 12 [(2, ((a0 : Nat) : Int)), (0, a1), (0, a2), (0, a3), (0, (a4 + 1)), (0, 1)] [] q22.2))))))) else none))) else none))) else none))) := by
  have hT := cT_200
  refine Eq.trans (x1 (h := 12) hT rfl rfl (by decide)) ?_
  refine Eq.trans (x1 (h := 13) hT rfl rfl (by decide)) ?_
  refine Eq.trans (x1 (h := 14) hT rfl rfl (by decide)) ?_
  refine Eq.trans (x0 (h := 15) hT rfl) ?_
  refine Eq.trans (x31 (r := a0) (cl := 12) (as := [(0, a1), (0, 1)]) (st' := [(0, a4)]) (h := 16) hT rfl sm_60 rfl ha0) ?_
  refine xbd (fun q2 => ?_)
  rw [rv_60]
  change zB P 200 17 [(2, ((a0 : Nat) : Int)), (0, a1), (0, a2), (0, a3), (0, a4), g5] [(0, q2.1), (0, a4)] q2.2 = _
  refine Eq.trans (x17_3 (h := 17) hT rfl) ?_
  refine xit (fun _ => ?_) (fun _ => ?_)
  · refine Eq.trans (x4 (ls' := [(2, ((a0 : Nat) : Int)), (0, a1), (0, a2), (0, (a3 + 1)), (0, a4), g5]) (h := 70) hT rfl rfl rfl) ?_
    refine Eq.trans (x18 (h := 71) hT rfl) ?_
    exact rfl
  · refine Eq.trans (x1 (h := 18) hT rfl rfl (by decide)) ?_
    refine Eq.trans (x21r (r := a0) (cl := 12) (o := 18) (h := 19) hT rfl ha0 (by decide) rfl) ?_
    refine Eq.trans (x1 (h := 20) hT rfl rfl (by decide)) ?_
    refine Eq.trans (x24 (r := (a0 + 18)) (n := 6) (h := 21) hT rfl (Or.inl (kd_12_25 ha0)) (ln_12_25 ha0)) ?_
    refine xig (fun hz3 => ?_)
    refine Eq.trans (x1 (h := 22) hT rfl rfl (by decide)) ?_
    refine Eq.trans (x34 (as := [(0, (q2.2.m ((a0 + 18)) (zix a3))), (0, a4)]) (st' := []) (h := 23) hT rfl sm_53 rfl) ?_
    refine xbd (fun q4 => ?_)
    rw [rv_53]
    change zB P 200 24 [(2, ((a0 : Nat) : Int)), (0, a1), (0, a2), (0, a3), (0, a4), g5] [(0, q4.1)] q4.2 = _
    refine Eq.trans (x16_0 (h := 24) hT rfl) ?_
    refine xit (fun _ => ?_) (fun _ => ?_)
    · refine Eq.trans (x0 (h := 44) hT rfl) ?_
      refine Eq.trans (x2 (ls' := [(2, ((a0 : Nat) : Int)), (0, a1), (0, a2), (0, a3), (0, a4), (0, 0)]) (h := 45) hT rfl (Nat.le_of_ble_eq_true rfl) rfl) ?_
      refine Eq.trans (x1 (h := 46) hT rfl rfl (by decide)) ?_
      refine Eq.trans (x16_0 (h := 47) hT rfl) ?_
      refine xit (fun _ => ?_) (fun _ => ?_)
      · refine Eq.trans (x4 (ls' := [(2, ((a0 : Nat) : Int)), (0, a1), (0, a2), (0, a3), (0, (a4 + 1)), (0, 0)]) (h := 68) hT rfl rfl rfl) ?_
        refine Eq.trans (x18 (h := 69) hT rfl) ?_
        exact rfl
      · refine Eq.trans (x1 (h := 48) hT rfl rfl (by decide)) ?_
        refine Eq.trans (x1 (h := 49) hT rfl rfl (by decide)) ?_
        refine Eq.trans (x1 (h := 50) hT rfl rfl (by decide)) ?_
        refine Eq.trans (x31 (r := a0) (cl := 12) (as := [(0, a3), (0, a4)]) (st' := []) (h := 51) hT rfl sm_139 rfl ha0) ?_
        refine xbd (fun q5 => ?_)
        rw [rv_139]
        change zB P 200 52 [(2, ((a0 : Nat) : Int)), (0, a1), (0, a2), (0, a3), (0, a4), (0, 0)] [(0, q5.1)] q5.2 = _
        refine Eq.trans (x16_1 (h := 52) hT rfl) ?_
        refine xit (fun _ => ?_) (fun _ => ?_)
        · refine Eq.trans (x1 (h := 54) hT rfl rfl (by decide)) ?_
          refine Eq.trans (x21r (r := a0) (cl := 12) (o := 17) (h := 55) hT rfl ha0 (by decide) rfl) ?_
          refine Eq.trans (x1 (h := 56) hT rfl rfl (by decide)) ?_
          refine Eq.trans (x1 (h := 57) hT rfl rfl (by decide)) ?_
          refine Eq.trans (x21r (r := a0) (cl := 12) (o := 17) (h := 58) hT rfl ha0 (by decide) rfl) ?_
          refine Eq.trans (x1 (h := 59) hT rfl rfl (by decide)) ?_
          refine Eq.trans (x24 (r := (a0 + 17)) (n := 6) (h := 60) hT rfl (Or.inl (kd_12_24 ha0)) (ln_12_24 ha0)) ?_
          refine xig (fun hz6 => ?_)
          refine Eq.trans (x0 (h := 61) hT rfl) ?_
          refine Eq.trans (x1 (h := 62) hT rfl rfl (by decide)) ?_
          refine Eq.trans (x5n (h := 63) hT rfl) ?_
          refine Eq.trans (x5n (h := 64) hT rfl) ?_
          refine Eq.trans (x25a (r := (a0 + 17)) (n := 6) (h := 65) hT rfl (kd_12_24 ha0) (ln_12_24 ha0) (by decide) rfl) ?_
          refine xig (fun hz7 => ?_)
          refine Eq.trans (x0 (h := 66) hT rfl) ?_
          refine Eq.trans (x2 (ls' := [(2, ((a0 : Nat) : Int)), (0, a1), (0, 1), (0, a3), (0, a4), (0, 0)]) (h := 67) hT rfl (Nat.le_of_ble_eq_true rfl) rfl) ?_
          refine Eq.trans (x4 (ls' := [(2, ((a0 : Nat) : Int)), (0, a1), (0, 1), (0, a3), (0, (a4 + 1)), (0, 0)]) (h := 68) hT rfl rfl rfl) ?_
          refine Eq.trans (x18 (h := 69) hT rfl) ?_
          exact rfl
        · refine Eq.trans (x18 (h := 53) hT rfl) ?_
          refine Eq.trans (x4 (ls' := [(2, ((a0 : Nat) : Int)), (0, a1), (0, a2), (0, a3), (0, (a4 + 1)), (0, 0)]) (h := 68) hT rfl rfl rfl) ?_
          refine Eq.trans (x18 (h := 69) hT rfl) ?_
          exact rfl
    · refine Eq.trans (x1 (h := 25) hT rfl rfl (by decide)) ?_
      refine Eq.trans (x21r (r := a0) (cl := 12) (o := 17) (h := 26) hT rfl ha0 (by decide) rfl) ?_
      refine Eq.trans (x1 (h := 27) hT rfl rfl (by decide)) ?_
      refine Eq.trans (x24 (r := (a0 + 17)) (n := 6) (h := 28) hT rfl (Or.inl (kd_12_24 ha0)) (ln_12_24 ha0)) ?_
      refine xig (fun hz8 => ?_)
      refine Eq.trans (x1 (h := 29) hT rfl rfl (by decide)) ?_
      refine Eq.trans (x34 (as := [(0, (q4.2.m ((a0 + 17)) (zix a3))), (0, a4)]) (st' := []) (h := 30) hT rfl sm_53 rfl) ?_
      refine xbd (fun q9 => ?_)
      rw [rv_53]
      change zB P 200 31 [(2, ((a0 : Nat) : Int)), (0, a1), (0, a2), (0, a3), (0, a4), g5] [(0, q9.1)] q9.2 = _
      refine Eq.trans (x16_1 (h := 31) hT rfl) ?_
      refine xit (fun _ => ?_) (fun _ => ?_)
      · refine Eq.trans (x0 (h := 44) hT rfl) ?_
        refine Eq.trans (x2 (ls' := [(2, ((a0 : Nat) : Int)), (0, a1), (0, a2), (0, a3), (0, a4), (0, 0)]) (h := 45) hT rfl (Nat.le_of_ble_eq_true rfl) rfl) ?_
        refine Eq.trans (x1 (h := 46) hT rfl rfl (by decide)) ?_
        refine Eq.trans (x16_0 (h := 47) hT rfl) ?_
        refine xit (fun _ => ?_) (fun _ => ?_)
        · refine Eq.trans (x4 (ls' := [(2, ((a0 : Nat) : Int)), (0, a1), (0, a2), (0, a3), (0, (a4 + 1)), (0, 0)]) (h := 68) hT rfl rfl rfl) ?_
          refine Eq.trans (x18 (h := 69) hT rfl) ?_
          exact rfl
        · refine Eq.trans (x1 (h := 48) hT rfl rfl (by decide)) ?_
          refine Eq.trans (x1 (h := 49) hT rfl rfl (by decide)) ?_
          refine Eq.trans (x1 (h := 50) hT rfl rfl (by decide)) ?_
          refine Eq.trans (x31 (r := a0) (cl := 12) (as := [(0, a3), (0, a4)]) (st' := []) (h := 51) hT rfl sm_139 rfl ha0) ?_
          refine xbd (fun q10 => ?_)
          rw [rv_139]
          change zB P 200 52 [(2, ((a0 : Nat) : Int)), (0, a1), (0, a2), (0, a3), (0, a4), (0, 0)] [(0, q10.1)] q10.2 = _
          refine Eq.trans (x16_1 (h := 52) hT rfl) ?_
          refine xit (fun _ => ?_) (fun _ => ?_)
          · refine Eq.trans (x1 (h := 54) hT rfl rfl (by decide)) ?_
            refine Eq.trans (x21r (r := a0) (cl := 12) (o := 17) (h := 55) hT rfl ha0 (by decide) rfl) ?_
            refine Eq.trans (x1 (h := 56) hT rfl rfl (by decide)) ?_
            refine Eq.trans (x1 (h := 57) hT rfl rfl (by decide)) ?_
            refine Eq.trans (x21r (r := a0) (cl := 12) (o := 17) (h := 58) hT rfl ha0 (by decide) rfl) ?_
            refine Eq.trans (x1 (h := 59) hT rfl rfl (by decide)) ?_
            refine Eq.trans (x24 (r := (a0 + 17)) (n := 6) (h := 60) hT rfl (Or.inl (kd_12_24 ha0)) (ln_12_24 ha0)) ?_
            refine xig (fun hz11 => ?_)
            refine Eq.trans (x0 (h := 61) hT rfl) ?_
            refine Eq.trans (x1 (h := 62) hT rfl rfl (by decide)) ?_
            refine Eq.trans (x5n (h := 63) hT rfl) ?_
            refine Eq.trans (x5n (h := 64) hT rfl) ?_
            refine Eq.trans (x25a (r := (a0 + 17)) (n := 6) (h := 65) hT rfl (kd_12_24 ha0) (ln_12_24 ha0) (by decide) rfl) ?_
            refine xig (fun hz12 => ?_)
            refine Eq.trans (x0 (h := 66) hT rfl) ?_
            refine Eq.trans (x2 (ls' := [(2, ((a0 : Nat) : Int)), (0, a1), (0, 1), (0, a3), (0, a4), (0, 0)]) (h := 67) hT rfl (Nat.le_of_ble_eq_true rfl) rfl) ?_
            refine Eq.trans (x4 (ls' := [(2, ((a0 : Nat) : Int)), (0, a1), (0, 1), (0, a3), (0, (a4 + 1)), (0, 0)]) (h := 68) hT rfl rfl rfl) ?_
            refine Eq.trans (x18 (h := 69) hT rfl) ?_
            exact rfl
          · refine Eq.trans (x18 (h := 53) hT rfl) ?_
            refine Eq.trans (x4 (ls' := [(2, ((a0 : Nat) : Int)), (0, a1), (0, a2), (0, a3), (0, (a4 + 1)), (0, 0)]) (h := 68) hT rfl rfl rfl) ?_
            refine Eq.trans (x18 (h := 69) hT rfl) ?_
            exact rfl
      · refine Eq.trans (x1 (h := 32) hT rfl rfl (by decide)) ?_
        refine Eq.trans (x21r (r := a0) (cl := 12) (o := 17) (h := 33) hT rfl ha0 (by decide) rfl) ?_
        refine Eq.trans (x1 (h := 34) hT rfl rfl (by decide)) ?_
        refine Eq.trans (x24 (r := (a0 + 17)) (n := 6) (h := 35) hT rfl (Or.inl (kd_12_24 ha0)) (ln_12_24 ha0)) ?_
        refine xig (fun hz13 => ?_)
        refine Eq.trans (x16_0 (h := 36) hT rfl) ?_
        refine xit (fun _ => ?_) (fun _ => ?_)
        · refine Eq.trans (x0 (h := 42) hT rfl) ?_
          refine Eq.trans (x18 (h := 43) hT rfl) ?_
          refine Eq.trans (x2 (ls' := [(2, ((a0 : Nat) : Int)), (0, a1), (0, a2), (0, a3), (0, a4), (0, 1)]) (h := 45) hT rfl (Nat.le_of_ble_eq_true rfl) rfl) ?_
          refine Eq.trans (x1 (h := 46) hT rfl rfl (by decide)) ?_
          refine Eq.trans (x16_0 (h := 47) hT rfl) ?_
          refine xit (fun _ => ?_) (fun _ => ?_)
          · refine Eq.trans (x4 (ls' := [(2, ((a0 : Nat) : Int)), (0, a1), (0, a2), (0, a3), (0, (a4 + 1)), (0, 1)]) (h := 68) hT rfl rfl rfl) ?_
            refine Eq.trans (x18 (h := 69) hT rfl) ?_
            exact rfl
          · refine Eq.trans (x1 (h := 48) hT rfl rfl (by decide)) ?_
            refine Eq.trans (x1 (h := 49) hT rfl rfl (by decide)) ?_
            refine Eq.trans (x1 (h := 50) hT rfl rfl (by decide)) ?_
            refine Eq.trans (x31 (r := a0) (cl := 12) (as := [(0, a3), (0, a4)]) (st' := []) (h := 51) hT rfl sm_139 rfl ha0) ?_
            refine xbd (fun q14 => ?_)
            rw [rv_139]
            change zB P 200 52 [(2, ((a0 : Nat) : Int)), (0, a1), (0, a2), (0, a3), (0, a4), (0, 1)] [(0, q14.1)] q14.2 = _
            refine Eq.trans (x16_1 (h := 52) hT rfl) ?_
            refine xit (fun _ => ?_) (fun _ => ?_)
            · refine Eq.trans (x1 (h := 54) hT rfl rfl (by decide)) ?_
              refine Eq.trans (x21r (r := a0) (cl := 12) (o := 17) (h := 55) hT rfl ha0 (by decide) rfl) ?_
              refine Eq.trans (x1 (h := 56) hT rfl rfl (by decide)) ?_
              refine Eq.trans (x1 (h := 57) hT rfl rfl (by decide)) ?_
              refine Eq.trans (x21r (r := a0) (cl := 12) (o := 17) (h := 58) hT rfl ha0 (by decide) rfl) ?_
              refine Eq.trans (x1 (h := 59) hT rfl rfl (by decide)) ?_
              refine Eq.trans (x24 (r := (a0 + 17)) (n := 6) (h := 60) hT rfl (Or.inl (kd_12_24 ha0)) (ln_12_24 ha0)) ?_
              refine xig (fun hz15 => ?_)
              refine Eq.trans (x0 (h := 61) hT rfl) ?_
              refine Eq.trans (x1 (h := 62) hT rfl rfl (by decide)) ?_
              refine Eq.trans (x5n (h := 63) hT rfl) ?_
              refine Eq.trans (x5n (h := 64) hT rfl) ?_
              refine Eq.trans (x25a (r := (a0 + 17)) (n := 6) (h := 65) hT rfl (kd_12_24 ha0) (ln_12_24 ha0) (by decide) rfl) ?_
              refine xig (fun hz16 => ?_)
              refine Eq.trans (x0 (h := 66) hT rfl) ?_
              refine Eq.trans (x2 (ls' := [(2, ((a0 : Nat) : Int)), (0, a1), (0, 1), (0, a3), (0, a4), (0, 1)]) (h := 67) hT rfl (Nat.le_of_ble_eq_true rfl) rfl) ?_
              refine Eq.trans (x4 (ls' := [(2, ((a0 : Nat) : Int)), (0, a1), (0, 1), (0, a3), (0, (a4 + 1)), (0, 1)]) (h := 68) hT rfl rfl rfl) ?_
              refine Eq.trans (x18 (h := 69) hT rfl) ?_
              exact rfl
            · refine Eq.trans (x18 (h := 53) hT rfl) ?_
              refine Eq.trans (x4 (ls' := [(2, ((a0 : Nat) : Int)), (0, a1), (0, a2), (0, a3), (0, (a4 + 1)), (0, 1)]) (h := 68) hT rfl rfl rfl) ?_
              refine Eq.trans (x18 (h := 69) hT rfl) ?_
              exact rfl
        · refine Eq.trans (x1 (h := 37) hT rfl rfl (by decide)) ?_
          refine Eq.trans (x31 (r := a0) (cl := 12) (as := []) (st' := []) (h := 38) hT rfl sm_59 rfl ha0) ?_
          refine xbd (fun q17 => ?_)
          rw [rv_59]
          change zB P 200 39 [(2, ((a0 : Nat) : Int)), (0, a1), (0, a2), (0, a3), (0, a4), g5] [(0, q17.1)] q17.2 = _
          refine Eq.trans (x1 (h := 39) hT rfl rfl (by decide)) ?_
          refine Eq.trans (x34 (as := [(0, q17.1), (0, a4)]) (st' := []) (h := 40) hT rfl sm_53 rfl) ?_
          refine xbd (fun q18 => ?_)
          rw [rv_53]
          change zB P 200 41 [(2, ((a0 : Nat) : Int)), (0, a1), (0, a2), (0, a3), (0, a4), g5] [(0, q18.1)] q18.2 = _
          refine Eq.trans (x16_1 (h := 41) hT rfl) ?_
          refine xit (fun _ => ?_) (fun _ => ?_)
          · refine Eq.trans (x0 (h := 44) hT rfl) ?_
            refine Eq.trans (x2 (ls' := [(2, ((a0 : Nat) : Int)), (0, a1), (0, a2), (0, a3), (0, a4), (0, 0)]) (h := 45) hT rfl (Nat.le_of_ble_eq_true rfl) rfl) ?_
            refine Eq.trans (x1 (h := 46) hT rfl rfl (by decide)) ?_
            refine Eq.trans (x16_0 (h := 47) hT rfl) ?_
            refine xit (fun _ => ?_) (fun _ => ?_)
            · refine Eq.trans (x4 (ls' := [(2, ((a0 : Nat) : Int)), (0, a1), (0, a2), (0, a3), (0, (a4 + 1)), (0, 0)]) (h := 68) hT rfl rfl rfl) ?_
              refine Eq.trans (x18 (h := 69) hT rfl) ?_
              exact rfl
            · refine Eq.trans (x1 (h := 48) hT rfl rfl (by decide)) ?_
              refine Eq.trans (x1 (h := 49) hT rfl rfl (by decide)) ?_
              refine Eq.trans (x1 (h := 50) hT rfl rfl (by decide)) ?_
              refine Eq.trans (x31 (r := a0) (cl := 12) (as := [(0, a3), (0, a4)]) (st' := []) (h := 51) hT rfl sm_139 rfl ha0) ?_
              refine xbd (fun q19 => ?_)
              rw [rv_139]
              change zB P 200 52 [(2, ((a0 : Nat) : Int)), (0, a1), (0, a2), (0, a3), (0, a4), (0, 0)] [(0, q19.1)] q19.2 = _
              refine Eq.trans (x16_1 (h := 52) hT rfl) ?_
              refine xit (fun _ => ?_) (fun _ => ?_)
              · refine Eq.trans (x1 (h := 54) hT rfl rfl (by decide)) ?_
                refine Eq.trans (x21r (r := a0) (cl := 12) (o := 17) (h := 55) hT rfl ha0 (by decide) rfl) ?_
                refine Eq.trans (x1 (h := 56) hT rfl rfl (by decide)) ?_
                refine Eq.trans (x1 (h := 57) hT rfl rfl (by decide)) ?_
                refine Eq.trans (x21r (r := a0) (cl := 12) (o := 17) (h := 58) hT rfl ha0 (by decide) rfl) ?_
                refine Eq.trans (x1 (h := 59) hT rfl rfl (by decide)) ?_
                refine Eq.trans (x24 (r := (a0 + 17)) (n := 6) (h := 60) hT rfl (Or.inl (kd_12_24 ha0)) (ln_12_24 ha0)) ?_
                refine xig (fun hz20 => ?_)
                refine Eq.trans (x0 (h := 61) hT rfl) ?_
                refine Eq.trans (x1 (h := 62) hT rfl rfl (by decide)) ?_
                refine Eq.trans (x5n (h := 63) hT rfl) ?_
                refine Eq.trans (x5n (h := 64) hT rfl) ?_
                refine Eq.trans (x25a (r := (a0 + 17)) (n := 6) (h := 65) hT rfl (kd_12_24 ha0) (ln_12_24 ha0) (by decide) rfl) ?_
                refine xig (fun hz21 => ?_)
                refine Eq.trans (x0 (h := 66) hT rfl) ?_
                refine Eq.trans (x2 (ls' := [(2, ((a0 : Nat) : Int)), (0, a1), (0, 1), (0, a3), (0, a4), (0, 0)]) (h := 67) hT rfl (Nat.le_of_ble_eq_true rfl) rfl) ?_
                refine Eq.trans (x4 (ls' := [(2, ((a0 : Nat) : Int)), (0, a1), (0, 1), (0, a3), (0, (a4 + 1)), (0, 0)]) (h := 68) hT rfl rfl rfl) ?_
                refine Eq.trans (x18 (h := 69) hT rfl) ?_
                exact rfl
              · refine Eq.trans (x18 (h := 53) hT rfl) ?_
                refine Eq.trans (x4 (ls' := [(2, ((a0 : Nat) : Int)), (0, a1), (0, a2), (0, a3), (0, (a4 + 1)), (0, 0)]) (h := 68) hT rfl rfl rfl) ?_
                refine Eq.trans (x18 (h := 69) hT rfl) ?_
                exact rfl
          · refine Eq.trans (x0 (h := 42) hT rfl) ?_
            refine Eq.trans (x18 (h := 43) hT rfl) ?_
            refine Eq.trans (x2 (ls' := [(2, ((a0 : Nat) : Int)), (0, a1), (0, a2), (0, a3), (0, a4), (0, 1)]) (h := 45) hT rfl (Nat.le_of_ble_eq_true rfl) rfl) ?_
            refine Eq.trans (x1 (h := 46) hT rfl rfl (by decide)) ?_
            refine Eq.trans (x16_0 (h := 47) hT rfl) ?_
            refine xit (fun _ => ?_) (fun _ => ?_)
            · refine Eq.trans (x4 (ls' := [(2, ((a0 : Nat) : Int)), (0, a1), (0, a2), (0, a3), (0, (a4 + 1)), (0, 1)]) (h := 68) hT rfl rfl rfl) ?_
              refine Eq.trans (x18 (h := 69) hT rfl) ?_
              exact rfl
            · refine Eq.trans (x1 (h := 48) hT rfl rfl (by decide)) ?_
              refine Eq.trans (x1 (h := 49) hT rfl rfl (by decide)) ?_
              refine Eq.trans (x1 (h := 50) hT rfl rfl (by decide)) ?_
              refine Eq.trans (x31 (r := a0) (cl := 12) (as := [(0, a3), (0, a4)]) (st' := []) (h := 51) hT rfl sm_139 rfl ha0) ?_
              refine xbd (fun q22 => ?_)
              rw [rv_139]
              change zB P 200 52 [(2, ((a0 : Nat) : Int)), (0, a1), (0, a2), (0, a3), (0, a4), (0, 1)] [(0, q22.1)] q22.2 = _
              refine Eq.trans (x16_1 (h := 52) hT rfl) ?_
              refine xit (fun _ => ?_) (fun _ => ?_)
              · refine Eq.trans (x1 (h := 54) hT rfl rfl (by decide)) ?_
                refine Eq.trans (x21r (r := a0) (cl := 12) (o := 17) (h := 55) hT rfl ha0 (by decide) rfl) ?_
                refine Eq.trans (x1 (h := 56) hT rfl rfl (by decide)) ?_
                refine Eq.trans (x1 (h := 57) hT rfl rfl (by decide)) ?_
                refine Eq.trans (x21r (r := a0) (cl := 12) (o := 17) (h := 58) hT rfl ha0 (by decide) rfl) ?_
                refine Eq.trans (x1 (h := 59) hT rfl rfl (by decide)) ?_
                refine Eq.trans (x24 (r := (a0 + 17)) (n := 6) (h := 60) hT rfl (Or.inl (kd_12_24 ha0)) (ln_12_24 ha0)) ?_
                refine xig (fun hz23 => ?_)
                refine Eq.trans (x0 (h := 61) hT rfl) ?_
                refine Eq.trans (x1 (h := 62) hT rfl rfl (by decide)) ?_
                refine Eq.trans (x5n (h := 63) hT rfl) ?_
                refine Eq.trans (x5n (h := 64) hT rfl) ?_
                refine Eq.trans (x25a (r := (a0 + 17)) (n := 6) (h := 65) hT rfl (kd_12_24 ha0) (ln_12_24 ha0) (by decide) rfl) ?_
                refine xig (fun hz24 => ?_)
                refine Eq.trans (x0 (h := 66) hT rfl) ?_
                refine Eq.trans (x2 (ls' := [(2, ((a0 : Nat) : Int)), (0, a1), (0, 1), (0, a3), (0, a4), (0, 1)]) (h := 67) hT rfl (Nat.le_of_ble_eq_true rfl) rfl) ?_
                refine Eq.trans (x4 (ls' := [(2, ((a0 : Nat) : Int)), (0, a1), (0, 1), (0, a3), (0, (a4 + 1)), (0, 1)]) (h := 68) hT rfl rfl rfl) ?_
                refine Eq.trans (x18 (h := 69) hT rfl) ?_
                exact rfl
              · refine Eq.trans (x18 (h := 53) hT rfl) ?_
                refine Eq.trans (x4 (ls' := [(2, ((a0 : Nat) : Int)), (0, a1), (0, a2), (0, a3), (0, (a4 + 1)), (0, 1)]) (h := 68) hT rfl rfl rfl) ?_
                refine Eq.trans (x18 (h := 69) hT rfl) ?_
                exact rfl
/-! WordLinksModel.likeness(II)I -/
set_option maxRecDepth 100000 in
theorem e_201 {P : zP} {d : zD P} {a0 : Nat} {a1 : Int} {a2 : Int} (ha0 : zkd a0 = 12) : MM P 201 [(2, ((a0 : Nat) : Int)), (0, a1), (0, a2)] d = ((MM P 149 [(2, ((a0 : Nat) : Int)), (0, 0), (0, a1)] d).bind fun q1 => (if wr q1.1 = 0 then some ((-1), q1.2) else ((MM P 149 [(2, ((a0 : Nat) : Int)), (0, 1), (0, a2)] q1.2).bind fun q2 => (if wr q2.1 = 0 then some ((-1), q2.2) else ((MM P 152 [(2, ((a0 : Nat) : Int)), (0, a1), (0, a2)] q2.2).bind fun q3 => some (q3.1, q3.2)))))) := by
  have hT := cT_201
  refine Eq.trans (MM_def sm_201 (Nat.le_of_ble_eq_true rfl)) ?_
  change zB P 201 0 [(2, ((a0 : Nat) : Int)), (0, a1), (0, a2)] [] d = _
  refine Eq.trans (x1 (h := 0) hT rfl rfl (by decide)) ?_
  refine Eq.trans (x0 (h := 1) hT rfl) ?_
  refine Eq.trans (x1 (h := 2) hT rfl rfl (by decide)) ?_
  refine Eq.trans (x31 (r := a0) (cl := 12) (as := [(0, 0), (0, a1)]) (st' := []) (h := 3) hT rfl sm_149 rfl ha0) ?_
  refine xbd (fun q1 => ?_)
  rw [rv_149]
  change zB P 201 4 [(2, ((a0 : Nat) : Int)), (0, a1), (0, a2)] [(0, q1.1)] q1.2 = _
  refine Eq.trans (x16_0 (h := 4) hT rfl) ?_
  refine xit (fun _ => ?_) (fun _ => ?_)
  · refine Eq.trans (x0 (h := 15) hT rfl) ?_
    exact x201 (h := 16) hT rfl
  · refine Eq.trans (x1 (h := 5) hT rfl rfl (by decide)) ?_
    refine Eq.trans (x0 (h := 6) hT rfl) ?_
    refine Eq.trans (x1 (h := 7) hT rfl rfl (by decide)) ?_
    refine Eq.trans (x31 (r := a0) (cl := 12) (as := [(0, 1), (0, a2)]) (st' := []) (h := 8) hT rfl sm_149 rfl ha0) ?_
    refine xbd (fun q2 => ?_)
    rw [rv_149]
    change zB P 201 9 [(2, ((a0 : Nat) : Int)), (0, a1), (0, a2)] [(0, q2.1)] q2.2 = _
    refine Eq.trans (x16_0 (h := 9) hT rfl) ?_
    refine xit (fun _ => ?_) (fun _ => ?_)
    · refine Eq.trans (x0 (h := 15) hT rfl) ?_
      exact x201 (h := 16) hT rfl
    · refine Eq.trans (x1 (h := 10) hT rfl rfl (by decide)) ?_
      refine Eq.trans (x1 (h := 11) hT rfl rfl (by decide)) ?_
      refine Eq.trans (x1 (h := 12) hT rfl rfl (by decide)) ?_
      refine Eq.trans (x31 (r := a0) (cl := 12) (as := [(0, a1), (0, a2)]) (st' := []) (h := 13) hT rfl sm_152 rfl ha0) ?_
      refine xbd (fun q3 => ?_)
      rw [rv_152]
      change zB P 201 14 [(2, ((a0 : Nat) : Int)), (0, a1), (0, a2)] [(0, q3.1)] q3.2 = _
      refine Eq.trans (x18 (h := 14) hT rfl) ?_
      exact x201 (h := 16) hT rfl
/-! WordLinksModel.near(II)I -/
set_option maxRecDepth 100000 in
theorem e_202 {P : zP} {d : zD P} {a0 : Nat} {a1 : Int} {a2 : Int} (ha0 : zkd a0 = 12) : MM P 202 [(2, ((a0 : Nat) : Int)), (0, a1), (0, a2)] d = ((MM P 147 [(0, a1)] d).bind fun q1 => (if wr q1.1 = 0 then some ((-1), q1.2) else ((MM P 55 [(0, a2), (0, 0), (0, 7)] q1.2).bind fun q2 => (if wr q2.1 = 0 then some ((-1), q2.2) else (if zin (((8 + (8 * a1)) + a2)) 18180 then some ((q2.2.m ((a0 + 1)) (zix (((8 + (8 * a1)) + a2)))), q2.2) else none))))) := by
  have hT := cT_202
  refine Eq.trans (MM_def sm_202 (Nat.le_of_ble_eq_true rfl)) ?_
  change zB P 202 0 [(2, ((a0 : Nat) : Int)), (0, a1), (0, a2)] [] d = _
  refine Eq.trans (x1 (h := 0) hT rfl rfl (by decide)) ?_
  refine Eq.trans (x34 (as := [(0, a1)]) (st' := []) (h := 1) hT rfl sm_147 rfl) ?_
  refine xbd (fun q1 => ?_)
  rw [rv_147]
  change zB P 202 2 [(2, ((a0 : Nat) : Int)), (0, a1), (0, a2)] [(0, q1.1)] q1.2 = _
  refine Eq.trans (x16_0 (h := 2) hT rfl) ?_
  refine xit (fun _ => ?_) (fun _ => ?_)
  · refine Eq.trans (x0 (h := 19) hT rfl) ?_
    exact x201 (h := 20) hT rfl
  · refine Eq.trans (x1 (h := 3) hT rfl rfl (by decide)) ?_
    refine Eq.trans (x0 (h := 4) hT rfl) ?_
    refine Eq.trans (x0 (h := 5) hT rfl) ?_
    refine Eq.trans (x34 (as := [(0, a2), (0, 0), (0, 7)]) (st' := []) (h := 6) hT rfl sm_55 rfl) ?_
    refine xbd (fun q2 => ?_)
    rw [rv_55]
    change zB P 202 7 [(2, ((a0 : Nat) : Int)), (0, a1), (0, a2)] [(0, q2.1)] q2.2 = _
    refine Eq.trans (x16_0 (h := 7) hT rfl) ?_
    refine xit (fun _ => ?_) (fun _ => ?_)
    · refine Eq.trans (x0 (h := 19) hT rfl) ?_
      exact x201 (h := 20) hT rfl
    · refine Eq.trans (x1 (h := 8) hT rfl rfl (by decide)) ?_
      refine Eq.trans (x21r (r := a0) (cl := 12) (o := 1) (h := 9) hT rfl ha0 (by decide) rfl) ?_
      refine Eq.trans (x0 (h := 10) hT rfl) ?_
      refine Eq.trans (x0 (h := 11) hT rfl) ?_
      refine Eq.trans (x1 (h := 12) hT rfl rfl (by decide)) ?_
      refine Eq.trans (x5_2 (h := 13) hT rfl) ?_
      refine Eq.trans (x5_0 (h := 14) hT rfl) ?_
      refine Eq.trans (x1 (h := 15) hT rfl rfl (by decide)) ?_
      refine Eq.trans (x5_0 (h := 16) hT rfl) ?_
      refine Eq.trans (x24 (r := (a0 + 1)) (n := 18180) (h := 17) hT rfl (Or.inl (kd_12_0 ha0)) (ln_12_0 ha0)) ?_
      refine xig (fun hz3 => ?_)
      refine Eq.trans (x18 (h := 18) hT rfl) ?_
      exact x201 (h := 20) hT rfl
/-! WordLinksModel.numberOfHand(I)I -/
set_option maxRecDepth 100000 in
theorem e_203 {P : zP} {d : zD P} {a0 : Nat} {a1 : Int} (ha0 : zkd a0 = 12) : MM P 203 [(2, ((a0 : Nat) : Int)), (0, a1)] d = zB P 203 2 [(2, ((a0 : Nat) : Int)), (0, a1), (0, 0)] [] d := by
  have hT := cT_203
  refine Eq.trans (MM_def sm_203 (Nat.le_of_ble_eq_true rfl)) ?_
  change zB P 203 0 [(2, ((a0 : Nat) : Int)), (0, a1), (3, 0)] [] d = _
  refine Eq.trans (x0 (h := 0) hT rfl) ?_
  refine Eq.trans (x2 (ls' := [(2, ((a0 : Nat) : Int)), (0, a1), (0, 0)]) (h := 1) hT rfl (Nat.le_of_ble_eq_true rfl) rfl) ?_
  exact rfl
set_option maxRecDepth 100000 in
theorem q_203_2 {P : zP} {d : zD P} {a0 : Nat} {a1 : Int} {a2 : Int} (ha0 : zkd a0 = 12) : zB P 203 2 [(2, ((a0 : Nat) : Int)), (0, a1), (0, a2)] [] d = ((MM P 81 [(2, ((a0 : Nat) : Int)), (0, a1)] d).bind fun q1 => (if wr q1.1 ≤ wr a2 then some ((-1), q1.2) else ((MM P 142 [(2, ((a0 : Nat) : Int)), (0, a1), (0, a2)] q1.2).bind fun q2 => (if wr q2.1 = 0 then zB P 203 2 [(2, ((a0 : Nat) : Int)), (0, a1), (0, (a2 + 1))] [] q2.2 else some (a2, q2.2))))) := by
  have hT := cT_203
  refine Eq.trans (x1 (h := 2) hT rfl rfl (by decide)) ?_
  refine Eq.trans (x1 (h := 3) hT rfl rfl (by decide)) ?_
  refine Eq.trans (x1 (h := 4) hT rfl rfl (by decide)) ?_
  refine Eq.trans (x31 (r := a0) (cl := 12) (as := [(0, a1)]) (st' := [(0, a2)]) (h := 5) hT rfl sm_81 rfl ha0) ?_
  refine xbd (fun q1 => ?_)
  rw [rv_81]
  change zB P 203 6 [(2, ((a0 : Nat) : Int)), (0, a1), (0, a2)] [(0, q1.1), (0, a2)] q1.2 = _
  refine Eq.trans (x17_3 (h := 6) hT rfl) ?_
  refine xit (fun _ => ?_) (fun _ => ?_)
  · refine Eq.trans (x0 (h := 16) hT rfl) ?_
    exact x201 (h := 17) hT rfl
  · refine Eq.trans (x1 (h := 7) hT rfl rfl (by decide)) ?_
    refine Eq.trans (x1 (h := 8) hT rfl rfl (by decide)) ?_
    refine Eq.trans (x1 (h := 9) hT rfl rfl (by decide)) ?_
    refine Eq.trans (x31 (r := a0) (cl := 12) (as := [(0, a1), (0, a2)]) (st' := []) (h := 10) hT rfl sm_142 rfl ha0) ?_
    refine xbd (fun q2 => ?_)
    rw [rv_142]
    change zB P 203 11 [(2, ((a0 : Nat) : Int)), (0, a1), (0, a2)] [(0, q2.1)] q2.2 = _
    refine Eq.trans (x16_0 (h := 11) hT rfl) ?_
    refine xit (fun _ => ?_) (fun _ => ?_)
    · refine Eq.trans (x4 (ls' := [(2, ((a0 : Nat) : Int)), (0, a1), (0, (a2 + 1))]) (h := 14) hT rfl rfl rfl) ?_
      refine Eq.trans (x18 (h := 15) hT rfl) ?_
      exact rfl
    · refine Eq.trans (x1 (h := 12) hT rfl rfl (by decide)) ?_
      exact x201 (h := 13) hT rfl
/-! WordLinksModel.partingsBy(IIII)J -/
set_option maxRecDepth 100000 in
theorem e_204 {P : zP} {d : zD P} {a0 : Nat} {a1 : Int} {a2 : Int} {a3 : Int} {a4 : Int} (ha0 : zkd a0 = 12) : MM P 204 [(2, ((a0 : Nat) : Int)), (0, a1), (0, a2), (0, a3), (0, a4)] d = (if wr a1 = wr a2 then some (1, d) else (if wr a3 ≠ wr a4 then zB P 204 14 [(2, ((a0 : Nat) : Int)), (0, a1), (0, a2), (0, a3), (0, a4), (1, 0), (3, 0), (0, (a1 + 1)), (3, 0)] [] d else some (1, d))) := by
  have hT := cT_204
  refine Eq.trans (MM_def sm_204 (Nat.le_of_ble_eq_true rfl)) ?_
  change zB P 204 0 [(2, ((a0 : Nat) : Int)), (0, a1), (0, a2), (0, a3), (0, a4), (3, 0), (3, 0), (3, 0), (3, 0)] [] d = _
  refine Eq.trans (x1 (h := 0) hT rfl rfl (by decide)) ?_
  refine Eq.trans (x1 (h := 1) hT rfl rfl (by decide)) ?_
  refine Eq.trans (x17_0 (h := 2) hT rfl) ?_
  refine xit (fun _ => ?_) (fun _ => ?_)
  · refine Eq.trans (x0 (h := 6) hT rfl) ?_
    exact x202 (h := 7) hT rfl
  · refine Eq.trans (x1 (h := 3) hT rfl rfl (by decide)) ?_
    refine Eq.trans (x1 (h := 4) hT rfl rfl (by decide)) ?_
    refine Eq.trans (x17_1 (h := 5) hT rfl) ?_
    refine xit (fun _ => ?_) (fun _ => ?_)
    · refine Eq.trans (x0 (h := 8) hT rfl) ?_
      refine Eq.trans (x3 (ls' := [(2, ((a0 : Nat) : Int)), (0, a1), (0, a2), (0, a3), (0, a4), (1, 0), (3, 0), (3, 0), (3, 0)]) (h := 9) hT rfl (Nat.le_of_ble_eq_true rfl) rfl) ?_
      refine Eq.trans (x1 (h := 10) hT rfl rfl (by decide)) ?_
      refine Eq.trans (x0 (h := 11) hT rfl) ?_
      refine Eq.trans (x5_0 (h := 12) hT rfl) ?_
      refine Eq.trans (x2 (ls' := [(2, ((a0 : Nat) : Int)), (0, a1), (0, a2), (0, a3), (0, a4), (1, 0), (3, 0), (0, (a1 + 1)), (3, 0)]) (h := 13) hT rfl (Nat.le_of_ble_eq_true rfl) rfl) ?_
      exact rfl
    · refine Eq.trans (x0 (h := 6) hT rfl) ?_
      exact x202 (h := 7) hT rfl
set_option maxRecDepth 100000 in
theorem q_204_14 {P : zP} {d : zD P} {a0 : Nat} {a1 : Int} {a2 : Int} {a3 : Int} {a4 : Int} {a5 : Int} {g6 : zV} {a7 : Int} {g8 : zV} (ha0 : zkd a0 = 12) : zB P 204 14 [(2, ((a0 : Nat) : Int)), (0, a1), (0, a2), (0, a3), (0, a4), (1, a5), g6, (0, a7), g8] [] d = (if wr a2 < wr a7 then some (a5, d) else zB P 204 21 [(2, ((a0 : Nat) : Int)), (0, a1), (0, a2), (0, a3), (0, a4), (1, a5), g6, (0, a7), (0, (a3 + 1))] [] d) := by
  have hT := cT_204
  refine Eq.trans (x1 (h := 14) hT rfl rfl (by decide)) ?_
  refine Eq.trans (x1 (h := 15) hT rfl rfl (by decide)) ?_
  refine Eq.trans (x17_4 (h := 16) hT rfl) ?_
  refine xit (fun _ => ?_) (fun _ => ?_)
  · refine Eq.trans (x1 (h := 96) hT rfl rfl (by decide)) ?_
    exact x202 (h := 97) hT rfl
  · refine Eq.trans (x1 (h := 17) hT rfl rfl (by decide)) ?_
    refine Eq.trans (x0 (h := 18) hT rfl) ?_
    refine Eq.trans (x5_0 (h := 19) hT rfl) ?_
    refine Eq.trans (x2 (ls' := [(2, ((a0 : Nat) : Int)), (0, a1), (0, a2), (0, a3), (0, a4), (1, a5), g6, (0, a7), (0, (a3 + 1))]) (h := 20) hT rfl (Nat.le_of_ble_eq_true rfl) rfl) ?_
    exact rfl
set_option maxRecDepth 100000 in
theorem q_204_21 {P : zP} {d : zD P} {a0 : Nat} {a1 : Int} {a2 : Int} {a3 : Int} {a4 : Int} {a5 : Int} {g6 : zV} {a7 : Int} {a8 : Int} (ha0 : zkd a0 = 12) : zB P 204 21 [(2, ((a0 : Nat) : Int)), (0, a1), (0, a2), (0, a3), (0, a4), (1, a5), g6, (0, a7), (0, a8)] [] d = (if wr a4 < wr a8 then zB P 204 14 [(2, ((a0 : Nat) : Int)), (0, a1), (0, a2), (0, a3), (0, a4), (1, a5), (if (g6).1 = 1 then (3, 0) else g6), (0, (a7 + 1)), (0, a8)] [] d else ((MM P 138 [(2, ((a0 : Nat) : Int)), (0, a1), (0, a2), (0, a3), (0, a4), (0, a7), (0, a8), (0, 0)] d).bind fun q1 => (if wr q1.1 ≠ 0 then ((MM P 138 [(2, ((a0 : Nat) : Int)), (0, a1), (0, a2), (0, a3), (0, a4), (0, a7), (0, a8), (0, 1)] q1.2).bind fun q2 => (if wr q2.1 ≠ 0 then zB P 204 21 [(2, ((a0 : Nat) : Int)), (0, a1), (0, a2), (0, a3), (0, a4), (1, a5), g6, (0, a7), (0, (a8 + 1))] [] q2.2 else ((MM P 66 [(0, a1), (0, (a7 - 1)), (0, a8), (0, a4)] q2.2).bind fun q3 => (if zin q3.1 1296 then ((MM P 66 [(0, a7), (0, a2), (0, a3), (0, (a8 - 1))] q3.2).bind fun q5 => (if zin q5.1 1296 then zB P 204 21 [(2, ((a0 : Nat) : Int)), (0, a1), (0, a2), (0, a3), (0, a4), (1, (a5 + ((q3.2.m ((a0 + 20)) (zix q3.1)) * (q5.2.m ((a0 + 20)) (zix q5.1))))), (3, 0), (0, a7), (0, (a8 + 1))] [] q5.2 else none)) else none)))) else ((MM P 66 [(0, a1), (0, (a7 - 1)), (0, a3), (0, (a8 - 1))] q1.2).bind fun q7 => (if zin q7.1 1296 then ((MM P 66 [(0, a7), (0, a2), (0, a8), (0, a4)] q7.2).bind fun q9 => (if zin q9.1 1296 then ((MM P 138 [(2, ((a0 : Nat) : Int)), (0, a1), (0, a2), (0, a3), (0, a4), (0, a7), (0, a8), (0, 1)] q9.2).bind fun q11 => (if wr q11.1 ≠ 0 then zB P 204 21 [(2, ((a0 : Nat) : Int)), (0, a1), (0, a2), (0, a3), (0, a4), (1, (a5 + ((q7.2.m ((a0 + 20)) (zix q7.1)) * (q9.2.m ((a0 + 20)) (zix q9.1))))), (3, 0), (0, a7), (0, (a8 + 1))] [] q11.2 else ((MM P 66 [(0, a1), (0, (a7 - 1)), (0, a8), (0, a4)] q11.2).bind fun q12 => (if zin q12.1 1296 then ((MM P 66 [(0, a7), (0, a2), (0, a3), (0, (a8 - 1))] q12.2).bind fun q14 => (if zin q14.1 1296 then zB P 204 21 [(2, ((a0 : Nat) : Int)), (0, a1), (0, a2), (0, a3), (0, a4), (1, ((a5 + ((q7.2.m ((a0 + 20)) (zix q7.1)) * (q9.2.m ((a0 + 20)) (zix q9.1)))) + ((q12.2.m ((a0 + 20)) (zix q12.1)) * (q14.2.m ((a0 + 20)) (zix q14.1))))), (3, 0), (0, a7), (0, (a8 + 1))] [] q14.2 else none)) else none)))) else none)) else none))))) := by
  have hT := cT_204
  refine Eq.trans (x1 (h := 21) hT rfl rfl (by decide)) ?_
  refine Eq.trans (x1 (h := 22) hT rfl rfl (by decide)) ?_
  refine Eq.trans (x17_4 (h := 23) hT rfl) ?_
  refine xit (fun _ => ?_) (fun _ => ?_)
  · refine Eq.trans (x4 (ls' := [(2, ((a0 : Nat) : Int)), (0, a1), (0, a2), (0, a3), (0, a4), (1, a5), (if (g6).1 = 1 then (3, 0) else g6), (0, (a7 + 1)), (0, a8)]) (h := 94) hT rfl rfl rfl) ?_
    refine Eq.trans (x18 (h := 95) hT rfl) ?_
    exact rfl
  · refine Eq.trans (x1 (h := 24) hT rfl rfl (by decide)) ?_
    refine Eq.trans (x1 (h := 25) hT rfl rfl (by decide)) ?_
    refine Eq.trans (x1 (h := 26) hT rfl rfl (by decide)) ?_
    refine Eq.trans (x1 (h := 27) hT rfl rfl (by decide)) ?_
    refine Eq.trans (x1 (h := 28) hT rfl rfl (by decide)) ?_
    refine Eq.trans (x1 (h := 29) hT rfl rfl (by decide)) ?_
    refine Eq.trans (x1 (h := 30) hT rfl rfl (by decide)) ?_
    refine Eq.trans (x0 (h := 31) hT rfl) ?_
    refine Eq.trans (x31 (r := a0) (cl := 12) (as := [(0, a1), (0, a2), (0, a3), (0, a4), (0, a7), (0, a8), (0, 0)]) (st' := []) (h := 32) hT rfl sm_138 rfl ha0) ?_
    refine xbd (fun q1 => ?_)
    rw [rv_138]
    change zB P 204 33 [(2, ((a0 : Nat) : Int)), (0, a1), (0, a2), (0, a3), (0, a4), (1, a5), g6, (0, a7), (0, a8)] [(0, q1.1)] q1.2 = _
    refine Eq.trans (x16_1 (h := 33) hT rfl) ?_
    refine xit (fun _ => ?_) (fun _ => ?_)
    · refine Eq.trans (x1 (h := 58) hT rfl rfl (by decide)) ?_
      refine Eq.trans (x1 (h := 59) hT rfl rfl (by decide)) ?_
      refine Eq.trans (x1 (h := 60) hT rfl rfl (by decide)) ?_
      refine Eq.trans (x1 (h := 61) hT rfl rfl (by decide)) ?_
      refine Eq.trans (x1 (h := 62) hT rfl rfl (by decide)) ?_
      refine Eq.trans (x1 (h := 63) hT rfl rfl (by decide)) ?_
      refine Eq.trans (x1 (h := 64) hT rfl rfl (by decide)) ?_
      refine Eq.trans (x0 (h := 65) hT rfl) ?_
      refine Eq.trans (x31 (r := a0) (cl := 12) (as := [(0, a1), (0, a2), (0, a3), (0, a4), (0, a7), (0, a8), (0, 1)]) (st' := []) (h := 66) hT rfl sm_138 rfl ha0) ?_
      refine xbd (fun q2 => ?_)
      rw [rv_138]
      change zB P 204 67 [(2, ((a0 : Nat) : Int)), (0, a1), (0, a2), (0, a3), (0, a4), (1, a5), g6, (0, a7), (0, a8)] [(0, q2.1)] q2.2 = _
      refine Eq.trans (x16_1 (h := 67) hT rfl) ?_
      refine xit (fun _ => ?_) (fun _ => ?_)
      · refine Eq.trans (x4 (ls' := [(2, ((a0 : Nat) : Int)), (0, a1), (0, a2), (0, a3), (0, a4), (1, a5), g6, (0, a7), (0, (a8 + 1))]) (h := 92) hT rfl rfl rfl) ?_
        refine Eq.trans (x18 (h := 93) hT rfl) ?_
        exact rfl
      · refine Eq.trans (x1 (h := 68) hT rfl rfl (by decide)) ?_
        refine Eq.trans (x1 (h := 69) hT rfl rfl (by decide)) ?_
        refine Eq.trans (x21r (r := a0) (cl := 12) (o := 20) (h := 70) hT rfl ha0 (by decide) rfl) ?_
        refine Eq.trans (x1 (h := 71) hT rfl rfl (by decide)) ?_
        refine Eq.trans (x1 (h := 72) hT rfl rfl (by decide)) ?_
        refine Eq.trans (x0 (h := 73) hT rfl) ?_
        refine Eq.trans (x5_1 (h := 74) hT rfl) ?_
        refine Eq.trans (x1 (h := 75) hT rfl rfl (by decide)) ?_
        refine Eq.trans (x1 (h := 76) hT rfl rfl (by decide)) ?_
        refine Eq.trans (x34 (as := [(0, a1), (0, (a7 - 1)), (0, a8), (0, a4)]) (st' := [(2, (((a0 + 20) : Nat) : Int)), (1, a5)]) (h := 77) hT rfl sm_66 rfl) ?_
        refine xbd (fun q3 => ?_)
        rw [rv_66]
        change zB P 204 78 [(2, ((a0 : Nat) : Int)), (0, a1), (0, a2), (0, a3), (0, a4), (1, a5), g6, (0, a7), (0, a8)] [(0, q3.1), (2, (((a0 + 20) : Nat) : Int)), (1, a5)] q3.2 = _
        refine Eq.trans (x24 (r := (a0 + 20)) (n := 1296) (h := 78) hT rfl (Or.inl (kd_12_27 ha0)) (ln_12_27 ha0)) ?_
        refine xig (fun hz4 => ?_)
        refine Eq.trans (x1 (h := 79) hT rfl rfl (by decide)) ?_
        refine Eq.trans (x21r (r := a0) (cl := 12) (o := 20) (h := 80) hT rfl ha0 (by decide) rfl) ?_
        refine Eq.trans (x1 (h := 81) hT rfl rfl (by decide)) ?_
        refine Eq.trans (x1 (h := 82) hT rfl rfl (by decide)) ?_
        refine Eq.trans (x1 (h := 83) hT rfl rfl (by decide)) ?_
        refine Eq.trans (x1 (h := 84) hT rfl rfl (by decide)) ?_
        refine Eq.trans (x0 (h := 85) hT rfl) ?_
        refine Eq.trans (x5_1 (h := 86) hT rfl) ?_
        refine Eq.trans (x34 (as := [(0, a7), (0, a2), (0, a3), (0, (a8 - 1))]) (st' := [(2, (((a0 + 20) : Nat) : Int)), (1, (q3.2.m ((a0 + 20)) (zix q3.1))), (1, a5)]) (h := 87) hT rfl sm_66 rfl) ?_
        refine xbd (fun q5 => ?_)
        rw [rv_66]
        change zB P 204 88 [(2, ((a0 : Nat) : Int)), (0, a1), (0, a2), (0, a3), (0, a4), (1, a5), g6, (0, a7), (0, a8)] [(0, q5.1), (2, (((a0 + 20) : Nat) : Int)), (1, (q3.2.m ((a0 + 20)) (zix q3.1))), (1, a5)] q5.2 = _
        refine Eq.trans (x24 (r := (a0 + 20)) (n := 1296) (h := 88) hT rfl (Or.inl (kd_12_27 ha0)) (ln_12_27 ha0)) ?_
        refine xig (fun hz6 => ?_)
        refine Eq.trans (x8_2 (h := 89) hT rfl) ?_
        refine Eq.trans (x8_0 (h := 90) hT rfl) ?_
        refine Eq.trans (x3 (ls' := [(2, ((a0 : Nat) : Int)), (0, a1), (0, a2), (0, a3), (0, a4), (1, (a5 + ((q3.2.m ((a0 + 20)) (zix q3.1)) * (q5.2.m ((a0 + 20)) (zix q5.1))))), (3, 0), (0, a7), (0, a8)]) (h := 91) hT rfl (Nat.le_of_ble_eq_true rfl) rfl) ?_
        refine Eq.trans (x4 (ls' := [(2, ((a0 : Nat) : Int)), (0, a1), (0, a2), (0, a3), (0, a4), (1, (a5 + ((q3.2.m ((a0 + 20)) (zix q3.1)) * (q5.2.m ((a0 + 20)) (zix q5.1))))), (3, 0), (0, a7), (0, (a8 + 1))]) (h := 92) hT rfl rfl rfl) ?_
        refine Eq.trans (x18 (h := 93) hT rfl) ?_
        exact rfl
    · refine Eq.trans (x1 (h := 34) hT rfl rfl (by decide)) ?_
      refine Eq.trans (x1 (h := 35) hT rfl rfl (by decide)) ?_
      refine Eq.trans (x21r (r := a0) (cl := 12) (o := 20) (h := 36) hT rfl ha0 (by decide) rfl) ?_
      refine Eq.trans (x1 (h := 37) hT rfl rfl (by decide)) ?_
      refine Eq.trans (x1 (h := 38) hT rfl rfl (by decide)) ?_
      refine Eq.trans (x0 (h := 39) hT rfl) ?_
      refine Eq.trans (x5_1 (h := 40) hT rfl) ?_
      refine Eq.trans (x1 (h := 41) hT rfl rfl (by decide)) ?_
      refine Eq.trans (x1 (h := 42) hT rfl rfl (by decide)) ?_
      refine Eq.trans (x0 (h := 43) hT rfl) ?_
      refine Eq.trans (x5_1 (h := 44) hT rfl) ?_
      refine Eq.trans (x34 (as := [(0, a1), (0, (a7 - 1)), (0, a3), (0, (a8 - 1))]) (st' := [(2, (((a0 + 20) : Nat) : Int)), (1, a5)]) (h := 45) hT rfl sm_66 rfl) ?_
      refine xbd (fun q7 => ?_)
      rw [rv_66]
      change zB P 204 46 [(2, ((a0 : Nat) : Int)), (0, a1), (0, a2), (0, a3), (0, a4), (1, a5), g6, (0, a7), (0, a8)] [(0, q7.1), (2, (((a0 + 20) : Nat) : Int)), (1, a5)] q7.2 = _
      refine Eq.trans (x24 (r := (a0 + 20)) (n := 1296) (h := 46) hT rfl (Or.inl (kd_12_27 ha0)) (ln_12_27 ha0)) ?_
      refine xig (fun hz8 => ?_)
      refine Eq.trans (x1 (h := 47) hT rfl rfl (by decide)) ?_
      refine Eq.trans (x21r (r := a0) (cl := 12) (o := 20) (h := 48) hT rfl ha0 (by decide) rfl) ?_
      refine Eq.trans (x1 (h := 49) hT rfl rfl (by decide)) ?_
      refine Eq.trans (x1 (h := 50) hT rfl rfl (by decide)) ?_
      refine Eq.trans (x1 (h := 51) hT rfl rfl (by decide)) ?_
      refine Eq.trans (x1 (h := 52) hT rfl rfl (by decide)) ?_
      refine Eq.trans (x34 (as := [(0, a7), (0, a2), (0, a8), (0, a4)]) (st' := [(2, (((a0 + 20) : Nat) : Int)), (1, (q7.2.m ((a0 + 20)) (zix q7.1))), (1, a5)]) (h := 53) hT rfl sm_66 rfl) ?_
      refine xbd (fun q9 => ?_)
      rw [rv_66]
      change zB P 204 54 [(2, ((a0 : Nat) : Int)), (0, a1), (0, a2), (0, a3), (0, a4), (1, a5), g6, (0, a7), (0, a8)] [(0, q9.1), (2, (((a0 + 20) : Nat) : Int)), (1, (q7.2.m ((a0 + 20)) (zix q7.1))), (1, a5)] q9.2 = _
      refine Eq.trans (x24 (r := (a0 + 20)) (n := 1296) (h := 54) hT rfl (Or.inl (kd_12_27 ha0)) (ln_12_27 ha0)) ?_
      refine xig (fun hz10 => ?_)
      refine Eq.trans (x8_2 (h := 55) hT rfl) ?_
      refine Eq.trans (x8_0 (h := 56) hT rfl) ?_
      refine Eq.trans (x3 (ls' := [(2, ((a0 : Nat) : Int)), (0, a1), (0, a2), (0, a3), (0, a4), (1, (a5 + ((q7.2.m ((a0 + 20)) (zix q7.1)) * (q9.2.m ((a0 + 20)) (zix q9.1))))), (3, 0), (0, a7), (0, a8)]) (h := 57) hT rfl (Nat.le_of_ble_eq_true rfl) rfl) ?_
      refine Eq.trans (x1 (h := 58) hT rfl rfl (by decide)) ?_
      refine Eq.trans (x1 (h := 59) hT rfl rfl (by decide)) ?_
      refine Eq.trans (x1 (h := 60) hT rfl rfl (by decide)) ?_
      refine Eq.trans (x1 (h := 61) hT rfl rfl (by decide)) ?_
      refine Eq.trans (x1 (h := 62) hT rfl rfl (by decide)) ?_
      refine Eq.trans (x1 (h := 63) hT rfl rfl (by decide)) ?_
      refine Eq.trans (x1 (h := 64) hT rfl rfl (by decide)) ?_
      refine Eq.trans (x0 (h := 65) hT rfl) ?_
      refine Eq.trans (x31 (r := a0) (cl := 12) (as := [(0, a1), (0, a2), (0, a3), (0, a4), (0, a7), (0, a8), (0, 1)]) (st' := []) (h := 66) hT rfl sm_138 rfl ha0) ?_
      refine xbd (fun q11 => ?_)
      rw [rv_138]
      change zB P 204 67 [(2, ((a0 : Nat) : Int)), (0, a1), (0, a2), (0, a3), (0, a4), (1, (a5 + ((q7.2.m ((a0 + 20)) (zix q7.1)) * (q9.2.m ((a0 + 20)) (zix q9.1))))), (3, 0), (0, a7), (0, a8)] [(0, q11.1)] q11.2 = _
      refine Eq.trans (x16_1 (h := 67) hT rfl) ?_
      refine xit (fun _ => ?_) (fun _ => ?_)
      · refine Eq.trans (x4 (ls' := [(2, ((a0 : Nat) : Int)), (0, a1), (0, a2), (0, a3), (0, a4), (1, (a5 + ((q7.2.m ((a0 + 20)) (zix q7.1)) * (q9.2.m ((a0 + 20)) (zix q9.1))))), (3, 0), (0, a7), (0, (a8 + 1))]) (h := 92) hT rfl rfl rfl) ?_
        refine Eq.trans (x18 (h := 93) hT rfl) ?_
        exact rfl
      · refine Eq.trans (x1 (h := 68) hT rfl rfl (by decide)) ?_
        refine Eq.trans (x1 (h := 69) hT rfl rfl (by decide)) ?_
        refine Eq.trans (x21r (r := a0) (cl := 12) (o := 20) (h := 70) hT rfl ha0 (by decide) rfl) ?_
        refine Eq.trans (x1 (h := 71) hT rfl rfl (by decide)) ?_
        refine Eq.trans (x1 (h := 72) hT rfl rfl (by decide)) ?_
        refine Eq.trans (x0 (h := 73) hT rfl) ?_
        refine Eq.trans (x5_1 (h := 74) hT rfl) ?_
        refine Eq.trans (x1 (h := 75) hT rfl rfl (by decide)) ?_
        refine Eq.trans (x1 (h := 76) hT rfl rfl (by decide)) ?_
        refine Eq.trans (x34 (as := [(0, a1), (0, (a7 - 1)), (0, a8), (0, a4)]) (st' := [(2, (((a0 + 20) : Nat) : Int)), (1, (a5 + ((q7.2.m ((a0 + 20)) (zix q7.1)) * (q9.2.m ((a0 + 20)) (zix q9.1)))))]) (h := 77) hT rfl sm_66 rfl) ?_
        refine xbd (fun q12 => ?_)
        rw [rv_66]
        change zB P 204 78 [(2, ((a0 : Nat) : Int)), (0, a1), (0, a2), (0, a3), (0, a4), (1, (a5 + ((q7.2.m ((a0 + 20)) (zix q7.1)) * (q9.2.m ((a0 + 20)) (zix q9.1))))), (3, 0), (0, a7), (0, a8)] [(0, q12.1), (2, (((a0 + 20) : Nat) : Int)), (1, (a5 + ((q7.2.m ((a0 + 20)) (zix q7.1)) * (q9.2.m ((a0 + 20)) (zix q9.1)))))] q12.2 = _
        refine Eq.trans (x24 (r := (a0 + 20)) (n := 1296) (h := 78) hT rfl (Or.inl (kd_12_27 ha0)) (ln_12_27 ha0)) ?_
        refine xig (fun hz13 => ?_)
        refine Eq.trans (x1 (h := 79) hT rfl rfl (by decide)) ?_
        refine Eq.trans (x21r (r := a0) (cl := 12) (o := 20) (h := 80) hT rfl ha0 (by decide) rfl) ?_
        refine Eq.trans (x1 (h := 81) hT rfl rfl (by decide)) ?_
        refine Eq.trans (x1 (h := 82) hT rfl rfl (by decide)) ?_
        refine Eq.trans (x1 (h := 83) hT rfl rfl (by decide)) ?_
        refine Eq.trans (x1 (h := 84) hT rfl rfl (by decide)) ?_
        refine Eq.trans (x0 (h := 85) hT rfl) ?_
        refine Eq.trans (x5_1 (h := 86) hT rfl) ?_
        refine Eq.trans (x34 (as := [(0, a7), (0, a2), (0, a3), (0, (a8 - 1))]) (st' := [(2, (((a0 + 20) : Nat) : Int)), (1, (q12.2.m ((a0 + 20)) (zix q12.1))), (1, (a5 + ((q7.2.m ((a0 + 20)) (zix q7.1)) * (q9.2.m ((a0 + 20)) (zix q9.1)))))]) (h := 87) hT rfl sm_66 rfl) ?_
        refine xbd (fun q14 => ?_)
        rw [rv_66]
        change zB P 204 88 [(2, ((a0 : Nat) : Int)), (0, a1), (0, a2), (0, a3), (0, a4), (1, (a5 + ((q7.2.m ((a0 + 20)) (zix q7.1)) * (q9.2.m ((a0 + 20)) (zix q9.1))))), (3, 0), (0, a7), (0, a8)] [(0, q14.1), (2, (((a0 + 20) : Nat) : Int)), (1, (q12.2.m ((a0 + 20)) (zix q12.1))), (1, (a5 + ((q7.2.m ((a0 + 20)) (zix q7.1)) * (q9.2.m ((a0 + 20)) (zix q9.1)))))] q14.2 = _
        refine Eq.trans (x24 (r := (a0 + 20)) (n := 1296) (h := 88) hT rfl (Or.inl (kd_12_27 ha0)) (ln_12_27 ha0)) ?_
        refine xig (fun hz15 => ?_)
        refine Eq.trans (x8_2 (h := 89) hT rfl) ?_
        refine Eq.trans (x8_0 (h := 90) hT rfl) ?_
        refine Eq.trans (x3 (ls' := [(2, ((a0 : Nat) : Int)), (0, a1), (0, a2), (0, a3), (0, a4), (1, ((a5 + ((q7.2.m ((a0 + 20)) (zix q7.1)) * (q9.2.m ((a0 + 20)) (zix q9.1)))) + ((q12.2.m ((a0 + 20)) (zix q12.1)) * (q14.2.m ((a0 + 20)) (zix q14.1))))), (3, 0), (0, a7), (0, a8)]) (h := 91) hT rfl (Nat.le_of_ble_eq_true rfl) rfl) ?_
        refine Eq.trans (x4 (ls' := [(2, ((a0 : Nat) : Int)), (0, a1), (0, a2), (0, a3), (0, a4), (1, ((a5 + ((q7.2.m ((a0 + 20)) (zix q7.1)) * (q9.2.m ((a0 + 20)) (zix q9.1)))) + ((q12.2.m ((a0 + 20)) (zix q12.1)) * (q14.2.m ((a0 + 20)) (zix q14.1))))), (3, 0), (0, a7), (0, (a8 + 1))]) (h := 92) hT rfl rfl rfl) ?_
        refine Eq.trans (x18 (h := 93) hT rfl) ?_
        exact rfl
/-! WordLinksModel.partnerAt(III)I -/
set_option maxRecDepth 100000 in
theorem e_205 {P : zP} {d : zD P} {a0 : Nat} {a1 : Int} {a2 : Int} {a3 : Int} (ha0 : zkd a0 = 12) : MM P 205 [(2, ((a0 : Nat) : Int)), (0, a1), (0, a2), (0, a3)] d = zB P 205 2 [(2, ((a0 : Nat) : Int)), (0, a1), (0, a2), (0, a3), (0, 0), (3, 0), (3, 0)] [] d := by
  have hT := cT_205
  refine Eq.trans (MM_def sm_205 (Nat.le_of_ble_eq_true rfl)) ?_
  change zB P 205 0 [(2, ((a0 : Nat) : Int)), (0, a1), (0, a2), (0, a3), (3, 0), (3, 0), (3, 0)] [] d = _
  refine Eq.trans (x0 (h := 0) hT rfl) ?_
  refine Eq.trans (x2 (ls' := [(2, ((a0 : Nat) : Int)), (0, a1), (0, a2), (0, a3), (0, 0), (3, 0), (3, 0)]) (h := 1) hT rfl (Nat.le_of_ble_eq_true rfl) rfl) ?_
  exact rfl
set_option maxRecDepth 100000 in
theorem q_205_2 {P : zP} {d : zD P} {a0 : Nat} {a1 : Int} {a2 : Int} {a3 : Int} {a4 : Int} {g5 : zV} {g6 : zV} (ha0 : zkd a0 = 12) : zB P 205 2 [(2, ((a0 : Nat) : Int)), (0, a1), (0, a2), (0, a3), (0, a4), g5, g6] [] d = ((MM P 81 [(2, ((a0 : Nat) : Int)), (0, (1 - a1))] d).bind fun q1 => (if wr q1.1 ≤ wr a4 then some ((-1), q1.2) else ((MM P 146 [(2, ((a0 : Nat) : Int)), (0, a1), (0, a2), (0, a4)] q1.2).bind fun q2 => (if wr q2.1 ≠ 0 then zB P 205 20 [(2, ((a0 : Nat) : Int)), (0, a1), (0, a2), (0, a3), (0, a4), (0, 0), (0, 0)] [] q2.2 else zB P 205 2 [(2, ((a0 : Nat) : Int)), (0, a1), (0, a2), (0, a3), (0, (a4 + 1)), g5, g6] [] q2.2)))) := by
  have hT := cT_205
  refine Eq.trans (x1 (h := 2) hT rfl rfl (by decide)) ?_
  refine Eq.trans (x1 (h := 3) hT rfl rfl (by decide)) ?_
  refine Eq.trans (x0 (h := 4) hT rfl) ?_
  refine Eq.trans (x1 (h := 5) hT rfl rfl (by decide)) ?_
  refine Eq.trans (x5_1 (h := 6) hT rfl) ?_
  refine Eq.trans (x31 (r := a0) (cl := 12) (as := [(0, (1 - a1))]) (st' := [(0, a4)]) (h := 7) hT rfl sm_81 rfl ha0) ?_
  refine xbd (fun q1 => ?_)
  rw [rv_81]
  change zB P 205 8 [(2, ((a0 : Nat) : Int)), (0, a1), (0, a2), (0, a3), (0, a4), g5, g6] [(0, q1.1), (0, a4)] q1.2 = _
  refine Eq.trans (x17_3 (h := 8) hT rfl) ?_
  refine xit (fun _ => ?_) (fun _ => ?_)
  · refine Eq.trans (x0 (h := 71) hT rfl) ?_
    exact x201 (h := 72) hT rfl
  · refine Eq.trans (x1 (h := 9) hT rfl rfl (by decide)) ?_
    refine Eq.trans (x1 (h := 10) hT rfl rfl (by decide)) ?_
    refine Eq.trans (x1 (h := 11) hT rfl rfl (by decide)) ?_
    refine Eq.trans (x1 (h := 12) hT rfl rfl (by decide)) ?_
    refine Eq.trans (x31 (r := a0) (cl := 12) (as := [(0, a1), (0, a2), (0, a4)]) (st' := []) (h := 13) hT rfl sm_146 rfl ha0) ?_
    refine xbd (fun q2 => ?_)
    rw [rv_146]
    change zB P 205 14 [(2, ((a0 : Nat) : Int)), (0, a1), (0, a2), (0, a3), (0, a4), g5, g6] [(0, q2.1)] q2.2 = _
    refine Eq.trans (x16_1 (h := 14) hT rfl) ?_
    refine xit (fun _ => ?_) (fun _ => ?_)
    · refine Eq.trans (x0 (h := 16) hT rfl) ?_
      refine Eq.trans (x2 (ls' := [(2, ((a0 : Nat) : Int)), (0, a1), (0, a2), (0, a3), (0, a4), (0, 0), g6]) (h := 17) hT rfl (Nat.le_of_ble_eq_true rfl) rfl) ?_
      refine Eq.trans (x0 (h := 18) hT rfl) ?_
      refine Eq.trans (x2 (ls' := [(2, ((a0 : Nat) : Int)), (0, a1), (0, a2), (0, a3), (0, a4), (0, 0), (0, 0)]) (h := 19) hT rfl (Nat.le_of_ble_eq_true rfl) rfl) ?_
      exact rfl
    · refine Eq.trans (x18 (h := 15) hT rfl) ?_
      refine Eq.trans (x4 (ls' := [(2, ((a0 : Nat) : Int)), (0, a1), (0, a2), (0, a3), (0, (a4 + 1)), g5, g6]) (h := 69) hT rfl rfl rfl) ?_
      refine Eq.trans (x18 (h := 70) hT rfl) ?_
      exact rfl
set_option maxRecDepth 100000 in
theorem q_205_20 {P : zP} {d : zD P} {a0 : Nat} {a1 : Int} {a2 : Int} {a3 : Int} {a4 : Int} {a5 : Int} {a6 : Int} (ha0 : zkd a0 = 12) : zB P 205 20 [(2, ((a0 : Nat) : Int)), (0, a1), (0, a2), (0, a3), (0, a4), (0, a5), (0, a6)] [] d = ((MM P 81 [(2, ((a0 : Nat) : Int)), (0, (1 - a1))] d).bind fun q3 => (if wr q3.1 ≤ wr a6 then (if wr a5 ≠ wr a3 then zB P 205 2 [(2, ((a0 : Nat) : Int)), (0, a1), (0, a2), (0, a3), (0, (a4 + 1)), (0, a5), (0, a6)] [] q3.2 else some (a4, q3.2)) else ((MM P 146 [(2, ((a0 : Nat) : Int)), (0, a1), (0, a2), (0, a6)] q3.2).bind fun q4 => (if wr q4.1 = 0 then zB P 205 20 [(2, ((a0 : Nat) : Int)), (0, a1), (0, a2), (0, a3), (0, a4), (0, a5), (0, (a6 + 1))] [] q4.2 else ((MM P 71 [(2, ((a0 : Nat) : Int)), (0, a1), (0, a2), (0, a6)] q4.2).bind fun q5 => ((MM P 71 [(2, ((a0 : Nat) : Int)), (0, a1), (0, a2), (0, a4)] q5.2).bind fun q6 => (if wr q6.1 < wr q5.1 then zB P 205 20 [(2, ((a0 : Nat) : Int)), (0, a1), (0, a2), (0, a3), (0, a4), (0, (a5 + 1)), (0, (a6 + 1))] [] q6.2 else ((MM P 71 [(2, ((a0 : Nat) : Int)), (0, a1), (0, a2), (0, a6)] q6.2).bind fun q7 => ((MM P 71 [(2, ((a0 : Nat) : Int)), (0, a1), (0, a2), (0, a4)] q7.2).bind fun q8 => (if wr q7.1 ≠ wr q8.1 then zB P 205 20 [(2, ((a0 : Nat) : Int)), (0, a1), (0, a2), (0, a3), (0, a4), (0, a5), (0, (a6 + 1))] [] q8.2 else (if wr a4 ≤ wr a6 then zB P 205 20 [(2, ((a0 : Nat) : Int)), (0, a1), (0, a2), (0, a3), (0, a4), (0, a5), (0, (a6 + 1))] [] q8.2 else zB P 205 20 [(2, ((a0 : Nat) : Int)), (0, a1), (0, a2), (0, a3), (0, a4), (0, (a5 + 1)), (0, (a6 + 1))] [] q8.2))))))))))) := by
  have hT := cT_205
  refine Eq.trans (x1 (h := 20) hT rfl rfl (by decide)) ?_
  refine Eq.trans (x1 (h := 21) hT rfl rfl (by decide)) ?_
  refine Eq.trans (x0 (h := 22) hT rfl) ?_
  refine Eq.trans (x1 (h := 23) hT rfl rfl (by decide)) ?_
  refine Eq.trans (x5_1 (h := 24) hT rfl) ?_
  refine Eq.trans (x31 (r := a0) (cl := 12) (as := [(0, (1 - a1))]) (st' := [(0, a6)]) (h := 25) hT rfl sm_81 rfl ha0) ?_
  refine xbd (fun q3 => ?_)
  rw [rv_81]
  change zB P 205 26 [(2, ((a0 : Nat) : Int)), (0, a1), (0, a2), (0, a3), (0, a4), (0, a5), (0, a6)] [(0, q3.1), (0, a6)] q3.2 = _
  refine Eq.trans (x17_3 (h := 26) hT rfl) ?_
  refine xit (fun _ => ?_) (fun _ => ?_)
  · refine Eq.trans (x1 (h := 64) hT rfl rfl (by decide)) ?_
    refine Eq.trans (x1 (h := 65) hT rfl rfl (by decide)) ?_
    refine Eq.trans (x17_1 (h := 66) hT rfl) ?_
    refine xit (fun _ => ?_) (fun _ => ?_)
    · refine Eq.trans (x4 (ls' := [(2, ((a0 : Nat) : Int)), (0, a1), (0, a2), (0, a3), (0, (a4 + 1)), (0, a5), (0, a6)]) (h := 69) hT rfl rfl rfl) ?_
      refine Eq.trans (x18 (h := 70) hT rfl) ?_
      exact rfl
    · refine Eq.trans (x1 (h := 67) hT rfl rfl (by decide)) ?_
      exact x201 (h := 68) hT rfl
  · refine Eq.trans (x1 (h := 27) hT rfl rfl (by decide)) ?_
    refine Eq.trans (x1 (h := 28) hT rfl rfl (by decide)) ?_
    refine Eq.trans (x1 (h := 29) hT rfl rfl (by decide)) ?_
    refine Eq.trans (x1 (h := 30) hT rfl rfl (by decide)) ?_
    refine Eq.trans (x31 (r := a0) (cl := 12) (as := [(0, a1), (0, a2), (0, a6)]) (st' := []) (h := 31) hT rfl sm_146 rfl ha0) ?_
    refine xbd (fun q4 => ?_)
    rw [rv_146]
    change zB P 205 32 [(2, ((a0 : Nat) : Int)), (0, a1), (0, a2), (0, a3), (0, a4), (0, a5), (0, a6)] [(0, q4.1)] q4.2 = _
    refine Eq.trans (x16_0 (h := 32) hT rfl) ?_
    refine xit (fun _ => ?_) (fun _ => ?_)
    · refine Eq.trans (x4 (ls' := [(2, ((a0 : Nat) : Int)), (0, a1), (0, a2), (0, a3), (0, a4), (0, a5), (0, (a6 + 1))]) (h := 62) hT rfl rfl rfl) ?_
      refine Eq.trans (x18 (h := 63) hT rfl) ?_
      exact rfl
    · refine Eq.trans (x1 (h := 33) hT rfl rfl (by decide)) ?_
      refine Eq.trans (x1 (h := 34) hT rfl rfl (by decide)) ?_
      refine Eq.trans (x1 (h := 35) hT rfl rfl (by decide)) ?_
      refine Eq.trans (x1 (h := 36) hT rfl rfl (by decide)) ?_
      refine Eq.trans (x31 (r := a0) (cl := 12) (as := [(0, a1), (0, a2), (0, a6)]) (st' := []) (h := 37) hT rfl sm_71 rfl ha0) ?_
      refine xbd (fun q5 => ?_)
      rw [rv_71]
      change zB P 205 38 [(2, ((a0 : Nat) : Int)), (0, a1), (0, a2), (0, a3), (0, a4), (0, a5), (0, a6)] [(0, q5.1)] q5.2 = _
      refine Eq.trans (x1 (h := 38) hT rfl rfl (by decide)) ?_
      refine Eq.trans (x1 (h := 39) hT rfl rfl (by decide)) ?_
      refine Eq.trans (x1 (h := 40) hT rfl rfl (by decide)) ?_
      refine Eq.trans (x1 (h := 41) hT rfl rfl (by decide)) ?_
      refine Eq.trans (x31 (r := a0) (cl := 12) (as := [(0, a1), (0, a2), (0, a4)]) (st' := [(0, q5.1)]) (h := 42) hT rfl sm_71 rfl ha0) ?_
      refine xbd (fun q6 => ?_)
      rw [rv_71]
      change zB P 205 43 [(2, ((a0 : Nat) : Int)), (0, a1), (0, a2), (0, a3), (0, a4), (0, a5), (0, a6)] [(0, q6.1), (0, q5.1)] q6.2 = _
      refine Eq.trans (x17_4 (h := 43) hT rfl) ?_
      refine xit (fun _ => ?_) (fun _ => ?_)
      · refine Eq.trans (x1 (h := 58) hT rfl rfl (by decide)) ?_
        refine Eq.trans (x0 (h := 59) hT rfl) ?_
        refine Eq.trans (x5_0 (h := 60) hT rfl) ?_
        refine Eq.trans (x2 (ls' := [(2, ((a0 : Nat) : Int)), (0, a1), (0, a2), (0, a3), (0, a4), (0, (a5 + 1)), (0, a6)]) (h := 61) hT rfl (Nat.le_of_ble_eq_true rfl) rfl) ?_
        refine Eq.trans (x4 (ls' := [(2, ((a0 : Nat) : Int)), (0, a1), (0, a2), (0, a3), (0, a4), (0, (a5 + 1)), (0, (a6 + 1))]) (h := 62) hT rfl rfl rfl) ?_
        refine Eq.trans (x18 (h := 63) hT rfl) ?_
        exact rfl
      · refine Eq.trans (x1 (h := 44) hT rfl rfl (by decide)) ?_
        refine Eq.trans (x1 (h := 45) hT rfl rfl (by decide)) ?_
        refine Eq.trans (x1 (h := 46) hT rfl rfl (by decide)) ?_
        refine Eq.trans (x1 (h := 47) hT rfl rfl (by decide)) ?_
        refine Eq.trans (x31 (r := a0) (cl := 12) (as := [(0, a1), (0, a2), (0, a6)]) (st' := []) (h := 48) hT rfl sm_71 rfl ha0) ?_
        refine xbd (fun q7 => ?_)
        rw [rv_71]
        change zB P 205 49 [(2, ((a0 : Nat) : Int)), (0, a1), (0, a2), (0, a3), (0, a4), (0, a5), (0, a6)] [(0, q7.1)] q7.2 = _
        refine Eq.trans (x1 (h := 49) hT rfl rfl (by decide)) ?_
        refine Eq.trans (x1 (h := 50) hT rfl rfl (by decide)) ?_
        refine Eq.trans (x1 (h := 51) hT rfl rfl (by decide)) ?_
        refine Eq.trans (x1 (h := 52) hT rfl rfl (by decide)) ?_
        refine Eq.trans (x31 (r := a0) (cl := 12) (as := [(0, a1), (0, a2), (0, a4)]) (st' := [(0, q7.1)]) (h := 53) hT rfl sm_71 rfl ha0) ?_
        refine xbd (fun q8 => ?_)
        rw [rv_71]
        change zB P 205 54 [(2, ((a0 : Nat) : Int)), (0, a1), (0, a2), (0, a3), (0, a4), (0, a5), (0, a6)] [(0, q8.1), (0, q7.1)] q8.2 = _
        refine Eq.trans (x17_1 (h := 54) hT rfl) ?_
        refine xit (fun _ => ?_) (fun _ => ?_)
        · refine Eq.trans (x4 (ls' := [(2, ((a0 : Nat) : Int)), (0, a1), (0, a2), (0, a3), (0, a4), (0, a5), (0, (a6 + 1))]) (h := 62) hT rfl rfl rfl) ?_
          refine Eq.trans (x18 (h := 63) hT rfl) ?_
          exact rfl
        · refine Eq.trans (x1 (h := 55) hT rfl rfl (by decide)) ?_
          refine Eq.trans (x1 (h := 56) hT rfl rfl (by decide)) ?_
          refine Eq.trans (x17_3 (h := 57) hT rfl) ?_
          refine xit (fun _ => ?_) (fun _ => ?_)
          · refine Eq.trans (x4 (ls' := [(2, ((a0 : Nat) : Int)), (0, a1), (0, a2), (0, a3), (0, a4), (0, a5), (0, (a6 + 1))]) (h := 62) hT rfl rfl rfl) ?_
            refine Eq.trans (x18 (h := 63) hT rfl) ?_
            exact rfl
          · refine Eq.trans (x1 (h := 58) hT rfl rfl (by decide)) ?_
            refine Eq.trans (x0 (h := 59) hT rfl) ?_
            refine Eq.trans (x5_0 (h := 60) hT rfl) ?_
            refine Eq.trans (x2 (ls' := [(2, ((a0 : Nat) : Int)), (0, a1), (0, a2), (0, a3), (0, a4), (0, (a5 + 1)), (0, a6)]) (h := 61) hT rfl (Nat.le_of_ble_eq_true rfl) rfl) ?_
            refine Eq.trans (x4 (ls' := [(2, ((a0 : Nat) : Int)), (0, a1), (0, a2), (0, a3), (0, a4), (0, (a5 + 1)), (0, (a6 + 1))]) (h := 62) hT rfl rfl rfl) ?_
            refine Eq.trans (x18 (h := 63) hT rfl) ?_
            exact rfl
/-! WordLinksModel.partners(IIZ)I -/
set_option maxRecDepth 100000 in
theorem e_206 {P : zP} {d : zD P} {a0 : Nat} {a1 : Int} {a2 : Int} {a3 : Int} (ha0 : zkd a0 = 12) : MM P 206 [(2, ((a0 : Nat) : Int)), (0, a1), (0, a2), (0, a3)] d = zB P 206 4 [(2, ((a0 : Nat) : Int)), (0, a1), (0, a2), (0, a3), (0, 0), (0, 0)] [] d := by
  have hT := cT_206
  refine Eq.trans (MM_def sm_206 (Nat.le_of_ble_eq_true rfl)) ?_
  change zB P 206 0 [(2, ((a0 : Nat) : Int)), (0, a1), (0, a2), (0, a3), (3, 0), (3, 0)] [] d = _
  refine Eq.trans (x0 (h := 0) hT rfl) ?_
  refine Eq.trans (x2 (ls' := [(2, ((a0 : Nat) : Int)), (0, a1), (0, a2), (0, a3), (0, 0), (3, 0)]) (h := 1) hT rfl (Nat.le_of_ble_eq_true rfl) rfl) ?_
  refine Eq.trans (x0 (h := 2) hT rfl) ?_
  refine Eq.trans (x2 (ls' := [(2, ((a0 : Nat) : Int)), (0, a1), (0, a2), (0, a3), (0, 0), (0, 0)]) (h := 3) hT rfl (Nat.le_of_ble_eq_true rfl) rfl) ?_
  exact rfl
set_option maxRecDepth 100000 in
theorem q_206_4 {P : zP} {d : zD P} {a0 : Nat} {a1 : Int} {a2 : Int} {a3 : Int} {a4 : Int} {a5 : Int} (ha0 : zkd a0 = 12) : zB P 206 4 [(2, ((a0 : Nat) : Int)), (0, a1), (0, a2), (0, a3), (0, a4), (0, a5)] [] d = ((MM P 81 [(2, ((a0 : Nat) : Int)), (0, (1 - a1))] d).bind fun q1 => (if wr q1.1 ≤ wr a5 then some (a4, q1.2) else (if wr a3 = 0 then ((MM P 146 [(2, ((a0 : Nat) : Int)), (0, a1), (0, a2), (0, a5)] q1.2).bind fun q2 => (if wr q2.1 = 0 then zB P 206 4 [(2, ((a0 : Nat) : Int)), (0, a1), (0, a2), (0, a3), (0, a4), (0, (a5 + 1))] [] q2.2 else zB P 206 4 [(2, ((a0 : Nat) : Int)), (0, a1), (0, a2), (0, a3), (0, (a4 + 1)), (0, (a5 + 1))] [] q2.2)) else ((MM P 71 [(2, ((a0 : Nat) : Int)), (0, a1), (0, a2), (0, a5)] q1.2).bind fun q3 => (if wr q3.1 ≠ 0 then zB P 206 4 [(2, ((a0 : Nat) : Int)), (0, a1), (0, a2), (0, a3), (0, a4), (0, (a5 + 1))] [] q3.2 else zB P 206 4 [(2, ((a0 : Nat) : Int)), (0, a1), (0, a2), (0, a3), (0, (a4 + 1)), (0, (a5 + 1))] [] q3.2))))) := by
  have hT := cT_206
  refine Eq.trans (x1 (h := 4) hT rfl rfl (by decide)) ?_
  refine Eq.trans (x1 (h := 5) hT rfl rfl (by decide)) ?_
  refine Eq.trans (x0 (h := 6) hT rfl) ?_
  refine Eq.trans (x1 (h := 7) hT rfl rfl (by decide)) ?_
  refine Eq.trans (x5_1 (h := 8) hT rfl) ?_
  refine Eq.trans (x31 (r := a0) (cl := 12) (as := [(0, (1 - a1))]) (st' := [(0, a5)]) (h := 9) hT rfl sm_81 rfl ha0) ?_
  refine xbd (fun q1 => ?_)
  rw [rv_81]
  change zB P 206 10 [(2, ((a0 : Nat) : Int)), (0, a1), (0, a2), (0, a3), (0, a4), (0, a5)] [(0, q1.1), (0, a5)] q1.2 = _
  refine Eq.trans (x17_3 (h := 10) hT rfl) ?_
  refine xit (fun _ => ?_) (fun _ => ?_)
  · refine Eq.trans (x1 (h := 32) hT rfl rfl (by decide)) ?_
    exact x201 (h := 33) hT rfl
  · refine Eq.trans (x1 (h := 11) hT rfl rfl (by decide)) ?_
    refine Eq.trans (x16_0 (h := 12) hT rfl) ?_
    refine xit (fun _ => ?_) (fun _ => ?_)
    · refine Eq.trans (x1 (h := 20) hT rfl rfl (by decide)) ?_
      refine Eq.trans (x1 (h := 21) hT rfl rfl (by decide)) ?_
      refine Eq.trans (x1 (h := 22) hT rfl rfl (by decide)) ?_
      refine Eq.trans (x1 (h := 23) hT rfl rfl (by decide)) ?_
      refine Eq.trans (x31 (r := a0) (cl := 12) (as := [(0, a1), (0, a2), (0, a5)]) (st' := []) (h := 24) hT rfl sm_146 rfl ha0) ?_
      refine xbd (fun q2 => ?_)
      rw [rv_146]
      change zB P 206 25 [(2, ((a0 : Nat) : Int)), (0, a1), (0, a2), (0, a3), (0, a4), (0, a5)] [(0, q2.1)] q2.2 = _
      refine Eq.trans (x16_0 (h := 25) hT rfl) ?_
      refine xit (fun _ => ?_) (fun _ => ?_)
      · refine Eq.trans (x4 (ls' := [(2, ((a0 : Nat) : Int)), (0, a1), (0, a2), (0, a3), (0, a4), (0, (a5 + 1))]) (h := 30) hT rfl rfl rfl) ?_
        refine Eq.trans (x18 (h := 31) hT rfl) ?_
        exact rfl
      · refine Eq.trans (x1 (h := 26) hT rfl rfl (by decide)) ?_
        refine Eq.trans (x0 (h := 27) hT rfl) ?_
        refine Eq.trans (x5_0 (h := 28) hT rfl) ?_
        refine Eq.trans (x2 (ls' := [(2, ((a0 : Nat) : Int)), (0, a1), (0, a2), (0, a3), (0, (a4 + 1)), (0, a5)]) (h := 29) hT rfl (Nat.le_of_ble_eq_true rfl) rfl) ?_
        refine Eq.trans (x4 (ls' := [(2, ((a0 : Nat) : Int)), (0, a1), (0, a2), (0, a3), (0, (a4 + 1)), (0, (a5 + 1))]) (h := 30) hT rfl rfl rfl) ?_
        refine Eq.trans (x18 (h := 31) hT rfl) ?_
        exact rfl
    · refine Eq.trans (x1 (h := 13) hT rfl rfl (by decide)) ?_
      refine Eq.trans (x1 (h := 14) hT rfl rfl (by decide)) ?_
      refine Eq.trans (x1 (h := 15) hT rfl rfl (by decide)) ?_
      refine Eq.trans (x1 (h := 16) hT rfl rfl (by decide)) ?_
      refine Eq.trans (x31 (r := a0) (cl := 12) (as := [(0, a1), (0, a2), (0, a5)]) (st' := []) (h := 17) hT rfl sm_71 rfl ha0) ?_
      refine xbd (fun q3 => ?_)
      rw [rv_71]
      change zB P 206 18 [(2, ((a0 : Nat) : Int)), (0, a1), (0, a2), (0, a3), (0, a4), (0, a5)] [(0, q3.1)] q3.2 = _
      refine Eq.trans (x16_1 (h := 18) hT rfl) ?_
      refine xit (fun _ => ?_) (fun _ => ?_)
      · refine Eq.trans (x4 (ls' := [(2, ((a0 : Nat) : Int)), (0, a1), (0, a2), (0, a3), (0, a4), (0, (a5 + 1))]) (h := 30) hT rfl rfl rfl) ?_
        refine Eq.trans (x18 (h := 31) hT rfl) ?_
        exact rfl
      · refine Eq.trans (x18 (h := 19) hT rfl) ?_
        refine Eq.trans (x1 (h := 26) hT rfl rfl (by decide)) ?_
        refine Eq.trans (x0 (h := 27) hT rfl) ?_
        refine Eq.trans (x5_0 (h := 28) hT rfl) ?_
        refine Eq.trans (x2 (ls' := [(2, ((a0 : Nat) : Int)), (0, a1), (0, a2), (0, a3), (0, (a4 + 1)), (0, a5)]) (h := 29) hT rfl (Nat.le_of_ble_eq_true rfl) rfl) ?_
        refine Eq.trans (x4 (ls' := [(2, ((a0 : Nat) : Int)), (0, a1), (0, a2), (0, a3), (0, (a4 + 1)), (0, (a5 + 1))]) (h := 30) hT rfl rfl rfl) ?_
        refine Eq.trans (x18 (h := 31) hT rfl) ?_
        exact rfl
/-! WordLinksModel.piecesWords(II)I -/
set_option maxRecDepth 100000 in
theorem e_207 {P : zP} {d : zD P} {a0 : Nat} {a1 : Int} {a2 : Int} (ha0 : zkd a0 = 12) : MM P 207 [(2, ((a0 : Nat) : Int)), (0, a1), (0, a2)] d = (if wr a1 ≠ wr 9999 then ((MM P 69 [(2, ((a0 : Nat) : Int)), (0, a1), (0, a2)] d).bind fun q1 => ((MM P 155 [(0, q1.1)] q1.2).bind fun q2 => some (q2.1, q2.2))) else some (1, d)) := by
  have hT := cT_207
  refine Eq.trans (MM_def sm_207 (Nat.le_of_ble_eq_true rfl)) ?_
  change zB P 207 0 [(2, ((a0 : Nat) : Int)), (0, a1), (0, a2)] [] d = _
  refine Eq.trans (x1 (h := 0) hT rfl rfl (by decide)) ?_
  refine Eq.trans (x0 (h := 1) hT rfl) ?_
  refine Eq.trans (x17_1 (h := 2) hT rfl) ?_
  refine xit (fun _ => ?_) (fun _ => ?_)
  · refine Eq.trans (x1 (h := 5) hT rfl rfl (by decide)) ?_
    refine Eq.trans (x1 (h := 6) hT rfl rfl (by decide)) ?_
    refine Eq.trans (x1 (h := 7) hT rfl rfl (by decide)) ?_
    refine Eq.trans (x31 (r := a0) (cl := 12) (as := [(0, a1), (0, a2)]) (st' := []) (h := 8) hT rfl sm_69 rfl ha0) ?_
    refine xbd (fun q1 => ?_)
    rw [rv_69]
    change zB P 207 9 [(2, ((a0 : Nat) : Int)), (0, a1), (0, a2)] [(0, q1.1)] q1.2 = _
    refine Eq.trans (x34 (as := [(0, q1.1)]) (st' := []) (h := 9) hT rfl sm_155 rfl) ?_
    refine xbd (fun q2 => ?_)
    rw [rv_155]
    change zB P 207 10 [(2, ((a0 : Nat) : Int)), (0, a1), (0, a2)] [(0, q2.1)] q2.2 = _
    exact x201 (h := 10) hT rfl
  · refine Eq.trans (x0 (h := 3) hT rfl) ?_
    refine Eq.trans (x18 (h := 4) hT rfl) ?_
    exact x201 (h := 10) hT rfl
/-! WordLinksModel.putsOver()V -/
set_option maxRecDepth 100000 in
theorem e_208 {P : zP} {d : zD P} {a0 : Nat} (ha0 : zkd a0 = 12) : MM P 208 [(2, ((a0 : Nat) : Int))] d = (if zin ((d.m a0 35)) 9 then (if zin ((((d.up ((a0 + 24)) (zix ((d.m a0 35))) 0)).m a0 35)) 9 then zB P 208 17 [(2, ((a0 : Nat) : Int)), (0, ((((((d.up ((a0 + 24)) (zix ((d.m a0 35))) 0)).up ((a0 + 25)) (zix ((((d.up ((a0 + 24)) (zix ((d.m a0 35))) 0)).m a0 35))) 0)).m a0 35) - 1)), (3, 0), (3, 0), (3, 0), (3, 0)] [] ((((d.up ((a0 + 24)) (zix ((d.m a0 35))) 0)).up ((a0 + 25)) (zix ((((d.up ((a0 + 24)) (zix ((d.m a0 35))) 0)).m a0 35))) 0)) else none) else none) := by
  have hT := cT_208
  refine Eq.trans (MM_def sm_208 (Nat.le_of_ble_eq_true rfl)) ?_
  change zB P 208 0 [(2, ((a0 : Nat) : Int)), (3, 0), (3, 0), (3, 0), (3, 0), (3, 0)] [] d = _
  refine Eq.trans (x1 (h := 0) hT rfl rfl (by decide)) ?_
  refine Eq.trans (x21r (r := a0) (cl := 12) (o := 24) (h := 1) hT rfl ha0 (by decide) rfl) ?_
  refine Eq.trans (x1 (h := 2) hT rfl rfl (by decide)) ?_
  refine Eq.trans (x21 (r := a0) (cl := 12) (h := 3) hT rfl ha0) ?_
  refine Eq.trans (x0 (h := 4) hT rfl) ?_
  refine Eq.trans (x25a (r := (a0 + 24)) (n := 9) (h := 5) hT rfl (kd_12_32 ha0) (ln_12_32 ha0) (by decide) rfl) ?_
  refine xig (fun hz1 => ?_)
  refine Eq.trans (x1 (h := 6) hT rfl rfl (by decide)) ?_
  refine Eq.trans (x21r (r := a0) (cl := 12) (o := 25) (h := 7) hT rfl ha0 (by decide) rfl) ?_
  refine Eq.trans (x1 (h := 8) hT rfl rfl (by decide)) ?_
  refine Eq.trans (x21 (r := a0) (cl := 12) (h := 9) hT rfl ha0) ?_
  refine Eq.trans (x0 (h := 10) hT rfl) ?_
  refine Eq.trans (x25a (r := (a0 + 25)) (n := 9) (h := 11) hT rfl (kd_12_33 ha0) (ln_12_33 ha0) (by decide) rfl) ?_
  refine xig (fun hz2 => ?_)
  refine Eq.trans (x1 (h := 12) hT rfl rfl (by decide)) ?_
  refine Eq.trans (x21 (r := a0) (cl := 12) (h := 13) hT rfl ha0) ?_
  refine Eq.trans (x0 (h := 14) hT rfl) ?_
  refine Eq.trans (x5_1 (h := 15) hT rfl) ?_
  refine Eq.trans (x2 (ls' := [(2, ((a0 : Nat) : Int)), (0, ((((((d.up ((a0 + 24)) (zix ((d.m a0 35))) 0)).up ((a0 + 25)) (zix ((((d.up ((a0 + 24)) (zix ((d.m a0 35))) 0)).m a0 35))) 0)).m a0 35) - 1)), (3, 0), (3, 0), (3, 0), (3, 0)]) (h := 16) hT rfl (Nat.le_of_ble_eq_true rfl) rfl) ?_
  exact rfl
set_option maxRecDepth 100000 in
theorem q_208_17 {P : zP} {d : zD P} {a0 : Nat} {a1 : Int} {g2 : zV} {g3 : zV} {g4 : zV} {g5 : zV} (ha0 : zkd a0 = 12) : zB P 208 17 [(2, ((a0 : Nat) : Int)), (0, a1), g2, g3, g4, g5] [] d = (if wr a1 < 0 then some (0, d) else (if zin a1 9 then (if zin a1 9 then (if zin a1 9 then ((MM P 64 [(2, ((a0 : Nat) : Int)), (0, a1), (0, 9999), (0, 2000), (0, 1)] ((((((d.up ((a0 + 24)) (zix a1) 1000000000)).up ((a0 + 25)) (zix a1) 0)).up ((a0 + 26)) (zix a1) 9999))).bind fun q6 => zB P 208 42 [(2, ((a0 : Nat) : Int)), (0, a1), (0, 1), g3, g4, g5] [] q6.2) else none) else none) else none)) := by
  have hT := cT_208
  refine Eq.trans (x1 (h := 17) hT rfl rfl (by decide)) ?_
  refine Eq.trans (x16_2 (h := 18) hT rfl) ?_
  refine xit (fun _ => ?_) (fun _ => ?_)
  · exact x20 (h := 111) hT rfl
  · refine Eq.trans (x1 (h := 19) hT rfl rfl (by decide)) ?_
    refine Eq.trans (x21r (r := a0) (cl := 12) (o := 24) (h := 20) hT rfl ha0 (by decide) rfl) ?_
    refine Eq.trans (x1 (h := 21) hT rfl rfl (by decide)) ?_
    refine Eq.trans (x0 (h := 22) hT rfl) ?_
    refine Eq.trans (x25a (r := (a0 + 24)) (n := 9) (h := 23) hT rfl (kd_12_32 ha0) (ln_12_32 ha0) (by decide) rfl) ?_
    refine xig (fun hz3 => ?_)
    refine Eq.trans (x1 (h := 24) hT rfl rfl (by decide)) ?_
    refine Eq.trans (x21r (r := a0) (cl := 12) (o := 25) (h := 25) hT rfl ha0 (by decide) rfl) ?_
    refine Eq.trans (x1 (h := 26) hT rfl rfl (by decide)) ?_
    refine Eq.trans (x0 (h := 27) hT rfl) ?_
    refine Eq.trans (x25a (r := (a0 + 25)) (n := 9) (h := 28) hT rfl (kd_12_33 ha0) (ln_12_33 ha0) (by decide) rfl) ?_
    refine xig (fun hz4 => ?_)
    refine Eq.trans (x1 (h := 29) hT rfl rfl (by decide)) ?_
    refine Eq.trans (x21r (r := a0) (cl := 12) (o := 26) (h := 30) hT rfl ha0 (by decide) rfl) ?_
    refine Eq.trans (x1 (h := 31) hT rfl rfl (by decide)) ?_
    refine Eq.trans (x0 (h := 32) hT rfl) ?_
    refine Eq.trans (x25a (r := (a0 + 26)) (n := 9) (h := 33) hT rfl (kd_12_34 ha0) (ln_12_34 ha0) (by decide) rfl) ?_
    refine xig (fun hz5 => ?_)
    refine Eq.trans (x1 (h := 34) hT rfl rfl (by decide)) ?_
    refine Eq.trans (x1 (h := 35) hT rfl rfl (by decide)) ?_
    refine Eq.trans (x0 (h := 36) hT rfl) ?_
    refine Eq.trans (x0 (h := 37) hT rfl) ?_
    refine Eq.trans (x0 (h := 38) hT rfl) ?_
    refine Eq.trans (x31 (r := a0) (cl := 12) (as := [(0, a1), (0, 9999), (0, 2000), (0, 1)]) (st' := []) (h := 39) hT rfl sm_64 rfl ha0) ?_
    refine xbd (fun q6 => ?_)
    rw [rv_64]
    change zB P 208 40 [(2, ((a0 : Nat) : Int)), (0, a1), g2, g3, g4, g5] [] q6.2 = _
    refine Eq.trans (x0 (h := 40) hT rfl) ?_
    refine Eq.trans (x2 (ls' := [(2, ((a0 : Nat) : Int)), (0, a1), (0, 1), g3, g4, g5]) (h := 41) hT rfl (Nat.le_of_ble_eq_true rfl) rfl) ?_
    exact rfl
set_option maxRecDepth 100000 in
theorem q_208_42 {P : zP} {d : zD P} {a0 : Nat} {a1 : Int} {a2 : Int} {g3 : zV} {g4 : zV} {g5 : zV} (ha0 : zkd a0 = 12) : zB P 208 42 [(2, ((a0 : Nat) : Int)), (0, a1), (0, a2), g3, g4, g5] [] d = (if wr 3 < wr a2 then zB P 208 17 [(2, ((a0 : Nat) : Int)), (0, (a1 + (-1))), (0, a2), g3, g4, g5] [] d else (if wr ((d.m a0 35)) < wr ((a1 + a2)) then zB P 208 17 [(2, ((a0 : Nat) : Int)), (0, (a1 + (-1))), (0, a2), g3, g4, g5] [] d else zB P 208 55 [(2, ((a0 : Nat) : Int)), (0, a1), (0, a2), (0, 0), (0, 0), g5] [] d)) := by
  have hT := cT_208
  refine Eq.trans (x1 (h := 42) hT rfl rfl (by decide)) ?_
  refine Eq.trans (x0 (h := 43) hT rfl) ?_
  refine Eq.trans (x17_4 (h := 44) hT rfl) ?_
  refine xit (fun _ => ?_) (fun _ => ?_)
  · refine Eq.trans (x4 (ls' := [(2, ((a0 : Nat) : Int)), (0, (a1 + (-1))), (0, a2), g3, g4, g5]) (h := 109) hT rfl rfl rfl) ?_
    refine Eq.trans (x18 (h := 110) hT rfl) ?_
    exact rfl
  · refine Eq.trans (x1 (h := 45) hT rfl rfl (by decide)) ?_
    refine Eq.trans (x1 (h := 46) hT rfl rfl (by decide)) ?_
    refine Eq.trans (x5_0 (h := 47) hT rfl) ?_
    refine Eq.trans (x1 (h := 48) hT rfl rfl (by decide)) ?_
    refine Eq.trans (x21 (r := a0) (cl := 12) (h := 49) hT rfl ha0) ?_
    refine Eq.trans (x17_4 (h := 50) hT rfl) ?_
    refine xit (fun _ => ?_) (fun _ => ?_)
    · refine Eq.trans (x4 (ls' := [(2, ((a0 : Nat) : Int)), (0, (a1 + (-1))), (0, a2), g3, g4, g5]) (h := 109) hT rfl rfl rfl) ?_
      refine Eq.trans (x18 (h := 110) hT rfl) ?_
      exact rfl
    · refine Eq.trans (x0 (h := 51) hT rfl) ?_
      refine Eq.trans (x2 (ls' := [(2, ((a0 : Nat) : Int)), (0, a1), (0, a2), (0, 0), g4, g5]) (h := 52) hT rfl (Nat.le_of_ble_eq_true rfl) rfl) ?_
      refine Eq.trans (x0 (h := 53) hT rfl) ?_
      refine Eq.trans (x2 (ls' := [(2, ((a0 : Nat) : Int)), (0, a1), (0, a2), (0, 0), (0, 0), g5]) (h := 54) hT rfl (Nat.le_of_ble_eq_true rfl) rfl) ?_
      exact rfl
set_option maxRecDepth 100000 in
theorem q_208_55 {P : zP} {d : zD P} {a0 : Nat} {a1 : Int} {a2 : Int} {a3 : Int} {a4 : Int} {g5 : zV} (ha0 : zkd a0 = 12) : zB P 208 55 [(2, ((a0 : Nat) : Int)), (0, a1), (0, a2), (0, a3), (0, a4), g5] [] d = (if wr 3 ≤ wr a4 then ((MM P 134 [(2, ((a0 : Nat) : Int)), (0, a3)] d).bind fun q7 => zB P 208 84 [(2, ((a0 : Nat) : Int)), (0, a1), (0, a2), (0, a3), (0, q7.1), (0, 0)] [] q7.2) else (if wr a2 ≤ wr a4 then zB P 208 55 [(2, ((a0 : Nat) : Int)), (0, a1), (0, a2), (0, ((41 * a3) + 0)), (0, (a4 + 1)), g5] [] d else (if zin ((a1 + a4)) 8 then zB P 208 55 [(2, ((a0 : Nat) : Int)), (0, a1), (0, a2), (0, ((41 * a3) + ((d.m ((a0 + 23)) (zix ((a1 + a4)))) + 1))), (0, (a4 + 1)), g5] [] d else none))) := by
  have hT := cT_208
  refine Eq.trans (x1 (h := 55) hT rfl rfl (by decide)) ?_
  refine Eq.trans (x0 (h := 56) hT rfl) ?_
  refine Eq.trans (x17_3 (h := 57) hT rfl) ?_
  refine xit (fun _ => ?_) (fun _ => ?_)
  · refine Eq.trans (x1 (h := 78) hT rfl rfl (by decide)) ?_
    refine Eq.trans (x1 (h := 79) hT rfl rfl (by decide)) ?_
    refine Eq.trans (x31 (r := a0) (cl := 12) (as := [(0, a3)]) (st' := []) (h := 80) hT rfl sm_134 rfl ha0) ?_
    refine xbd (fun q7 => ?_)
    rw [rv_134]
    change zB P 208 81 [(2, ((a0 : Nat) : Int)), (0, a1), (0, a2), (0, a3), (0, a4), g5] [(0, q7.1)] q7.2 = _
    refine Eq.trans (x2 (ls' := [(2, ((a0 : Nat) : Int)), (0, a1), (0, a2), (0, a3), (0, q7.1), g5]) (h := 81) hT rfl (Nat.le_of_ble_eq_true rfl) rfl) ?_
    refine Eq.trans (x0 (h := 82) hT rfl) ?_
    refine Eq.trans (x2 (ls' := [(2, ((a0 : Nat) : Int)), (0, a1), (0, a2), (0, a3), (0, q7.1), (0, 0)]) (h := 83) hT rfl (Nat.le_of_ble_eq_true rfl) rfl) ?_
    exact rfl
  · refine Eq.trans (x0 (h := 58) hT rfl) ?_
    refine Eq.trans (x1 (h := 59) hT rfl rfl (by decide)) ?_
    refine Eq.trans (x5_2 (h := 60) hT rfl) ?_
    refine Eq.trans (x1 (h := 61) hT rfl rfl (by decide)) ?_
    refine Eq.trans (x1 (h := 62) hT rfl rfl (by decide)) ?_
    refine Eq.trans (x17_3 (h := 63) hT rfl) ?_
    refine xit (fun _ => ?_) (fun _ => ?_)
    · refine Eq.trans (x0 (h := 73) hT rfl) ?_
      refine Eq.trans (x5_0 (h := 74) hT rfl) ?_
      refine Eq.trans (x2 (ls' := [(2, ((a0 : Nat) : Int)), (0, a1), (0, a2), (0, ((41 * a3) + 0)), (0, a4), g5]) (h := 75) hT rfl (Nat.le_of_ble_eq_true rfl) rfl) ?_
      refine Eq.trans (x4 (ls' := [(2, ((a0 : Nat) : Int)), (0, a1), (0, a2), (0, ((41 * a3) + 0)), (0, (a4 + 1)), g5]) (h := 76) hT rfl rfl rfl) ?_
      refine Eq.trans (x18 (h := 77) hT rfl) ?_
      exact rfl
    · refine Eq.trans (x1 (h := 64) hT rfl rfl (by decide)) ?_
      refine Eq.trans (x21r (r := a0) (cl := 12) (o := 23) (h := 65) hT rfl ha0 (by decide) rfl) ?_
      refine Eq.trans (x1 (h := 66) hT rfl rfl (by decide)) ?_
      refine Eq.trans (x1 (h := 67) hT rfl rfl (by decide)) ?_
      refine Eq.trans (x5_0 (h := 68) hT rfl) ?_
      refine Eq.trans (x24 (r := (a0 + 23)) (n := 8) (h := 69) hT rfl (Or.inl (kd_12_31 ha0)) (ln_12_31 ha0)) ?_
      refine xig (fun hz8 => ?_)
      refine Eq.trans (x0 (h := 70) hT rfl) ?_
      refine Eq.trans (x5_0 (h := 71) hT rfl) ?_
      refine Eq.trans (x18 (h := 72) hT rfl) ?_
      refine Eq.trans (x5_0 (h := 74) hT rfl) ?_
      refine Eq.trans (x2 (ls' := [(2, ((a0 : Nat) : Int)), (0, a1), (0, a2), (0, ((41 * a3) + ((d.m ((a0 + 23)) (zix ((a1 + a4)))) + 1))), (0, a4), g5]) (h := 75) hT rfl (Nat.le_of_ble_eq_true rfl) rfl) ?_
      refine Eq.trans (x4 (ls' := [(2, ((a0 : Nat) : Int)), (0, a1), (0, a2), (0, ((41 * a3) + ((d.m ((a0 + 23)) (zix ((a1 + a4)))) + 1))), (0, (a4 + 1)), g5]) (h := 76) hT rfl rfl rfl) ?_
      refine Eq.trans (x18 (h := 77) hT rfl) ?_
      exact rfl
set_option maxRecDepth 100000 in
theorem q_208_84 {P : zP} {d : zD P} {a0 : Nat} {a1 : Int} {a2 : Int} {a3 : Int} {a4 : Int} {a5 : Int} (ha0 : zkd a0 = 12) : zB P 208 84 [(2, ((a0 : Nat) : Int)), (0, a1), (0, a2), (0, a3), (0, a4), (0, a5)] [] d = (if wr ((d.m a0 30)) ≤ wr a5 then zB P 208 42 [(2, ((a0 : Nat) : Int)), (0, a1), (0, (a2 + 1)), (0, a3), (0, a4), (0, a5)] [] d else (if wr a4 ≤ 0 then zB P 208 42 [(2, ((a0 : Nat) : Int)), (0, a1), (0, (a2 + 1)), (0, a3), (0, a4), (0, a5)] [] d else ((MM P 69 [(2, ((a0 : Nat) : Int)), (0, a5), (0, 0)] d).bind fun q9 => (if wr q9.1 ≠ wr a3 then zB P 208 84 [(2, ((a0 : Nat) : Int)), (0, a1), (0, a2), (0, a3), (0, a4), (0, (a5 + 1))] [] q9.2 else ((MM P 51 [(2, ((a0 : Nat) : Int)), (0, a5), (0, a4)] q9.2).bind fun q10 => ((MM P 64 [(2, ((a0 : Nat) : Int)), (0, a1), (0, a5), (0, q10.1), (0, a2)] q10.2).bind fun q11 => zB P 208 84 [(2, ((a0 : Nat) : Int)), (0, a1), (0, a2), (0, a3), (0, a4), (0, (a5 + 1))] [] q11.2)))))) := by
  have hT := cT_208
  refine Eq.trans (x1 (h := 84) hT rfl rfl (by decide)) ?_
  refine Eq.trans (x1 (h := 85) hT rfl rfl (by decide)) ?_
  refine Eq.trans (x21 (r := a0) (cl := 12) (h := 86) hT rfl ha0) ?_
  refine Eq.trans (x17_3 (h := 87) hT rfl) ?_
  refine xit (fun _ => ?_) (fun _ => ?_)
  · refine Eq.trans (x4 (ls' := [(2, ((a0 : Nat) : Int)), (0, a1), (0, (a2 + 1)), (0, a3), (0, a4), (0, a5)]) (h := 107) hT rfl rfl rfl) ?_
    refine Eq.trans (x18 (h := 108) hT rfl) ?_
    exact rfl
  · refine Eq.trans (x1 (h := 88) hT rfl rfl (by decide)) ?_
    refine Eq.trans (x16_5 (h := 89) hT rfl) ?_
    refine xit (fun _ => ?_) (fun _ => ?_)
    · refine Eq.trans (x4 (ls' := [(2, ((a0 : Nat) : Int)), (0, a1), (0, (a2 + 1)), (0, a3), (0, a4), (0, a5)]) (h := 107) hT rfl rfl rfl) ?_
      refine Eq.trans (x18 (h := 108) hT rfl) ?_
      exact rfl
    · refine Eq.trans (x1 (h := 90) hT rfl rfl (by decide)) ?_
      refine Eq.trans (x1 (h := 91) hT rfl rfl (by decide)) ?_
      refine Eq.trans (x0 (h := 92) hT rfl) ?_
      refine Eq.trans (x31 (r := a0) (cl := 12) (as := [(0, a5), (0, 0)]) (st' := []) (h := 93) hT rfl sm_69 rfl ha0) ?_
      refine xbd (fun q9 => ?_)
      rw [rv_69]
      change zB P 208 94 [(2, ((a0 : Nat) : Int)), (0, a1), (0, a2), (0, a3), (0, a4), (0, a5)] [(0, q9.1)] q9.2 = _
      refine Eq.trans (x1 (h := 94) hT rfl rfl (by decide)) ?_
      refine Eq.trans (x17_1 (h := 95) hT rfl) ?_
      refine xit (fun _ => ?_) (fun _ => ?_)
      · refine Eq.trans (x4 (ls' := [(2, ((a0 : Nat) : Int)), (0, a1), (0, a2), (0, a3), (0, a4), (0, (a5 + 1))]) (h := 105) hT rfl rfl rfl) ?_
        refine Eq.trans (x18 (h := 106) hT rfl) ?_
        exact rfl
      · refine Eq.trans (x1 (h := 96) hT rfl rfl (by decide)) ?_
        refine Eq.trans (x1 (h := 97) hT rfl rfl (by decide)) ?_
        refine Eq.trans (x1 (h := 98) hT rfl rfl (by decide)) ?_
        refine Eq.trans (x1 (h := 99) hT rfl rfl (by decide)) ?_
        refine Eq.trans (x1 (h := 100) hT rfl rfl (by decide)) ?_
        refine Eq.trans (x1 (h := 101) hT rfl rfl (by decide)) ?_
        refine Eq.trans (x31 (r := a0) (cl := 12) (as := [(0, a5), (0, a4)]) (st' := [(0, a5), (0, a1), (2, ((a0 : Nat) : Int))]) (h := 102) hT rfl sm_51 rfl ha0) ?_
        refine xbd (fun q10 => ?_)
        rw [rv_51]
        change zB P 208 103 [(2, ((a0 : Nat) : Int)), (0, a1), (0, a2), (0, a3), (0, a4), (0, a5)] [(0, q10.1), (0, a5), (0, a1), (2, ((a0 : Nat) : Int))] q10.2 = _
        refine Eq.trans (x1 (h := 103) hT rfl rfl (by decide)) ?_
        refine Eq.trans (x31 (r := a0) (cl := 12) (as := [(0, a1), (0, a5), (0, q10.1), (0, a2)]) (st' := []) (h := 104) hT rfl sm_64 rfl ha0) ?_
        refine xbd (fun q11 => ?_)
        rw [rv_64]
        change zB P 208 105 [(2, ((a0 : Nat) : Int)), (0, a1), (0, a2), (0, a3), (0, a4), (0, a5)] [] q11.2 = _
        refine Eq.trans (x4 (ls' := [(2, ((a0 : Nat) : Int)), (0, a1), (0, a2), (0, a3), (0, a4), (0, (a5 + 1))]) (h := 105) hT rfl rfl rfl) ?_
        refine Eq.trans (x18 (h := 106) hT rfl) ?_
        exact rfl
/-! WordLinksModel.rankOf(II)I -/
set_option maxRecDepth 100000 in
theorem e_209 {P : zP} {d : zD P} {a0 : Nat} {a1 : Int} {a2 : Int} (ha0 : zkd a0 = 12) : MM P 209 [(2, ((a0 : Nat) : Int)), (0, a1), (0, a2)] d = zB P 209 4 [(2, ((a0 : Nat) : Int)), (0, a1), (0, a2), (0, 0), (0, 0)] [] d := by
  have hT := cT_209
  refine Eq.trans (MM_def sm_209 (Nat.le_of_ble_eq_true rfl)) ?_
  change zB P 209 0 [(2, ((a0 : Nat) : Int)), (0, a1), (0, a2), (3, 0), (3, 0)] [] d = _
  refine Eq.trans (x0 (h := 0) hT rfl) ?_
  refine Eq.trans (x2 (ls' := [(2, ((a0 : Nat) : Int)), (0, a1), (0, a2), (0, 0), (3, 0)]) (h := 1) hT rfl (Nat.le_of_ble_eq_true rfl) rfl) ?_
  refine Eq.trans (x0 (h := 2) hT rfl) ?_
  refine Eq.trans (x2 (ls' := [(2, ((a0 : Nat) : Int)), (0, a1), (0, a2), (0, 0), (0, 0)]) (h := 3) hT rfl (Nat.le_of_ble_eq_true rfl) rfl) ?_
  exact rfl
set_option maxRecDepth 100000 in
theorem q_209_4 {P : zP} {d : zD P} {a0 : Nat} {a1 : Int} {a2 : Int} {a3 : Int} {a4 : Int} (ha0 : zkd a0 = 12) : zB P 209 4 [(2, ((a0 : Nat) : Int)), (0, a1), (0, a2), (0, a3), (0, a4)] [] d = ((MM P 81 [(2, ((a0 : Nat) : Int)), (0, a1)] d).bind fun q1 => (if wr q1.1 ≤ wr a4 then some (a3, q1.2) else ((MM P 144 [(2, ((a0 : Nat) : Int)), (0, a1), (0, a4), (0, a2)] q1.2).bind fun q2 => (if wr q2.1 = 0 then zB P 209 4 [(2, ((a0 : Nat) : Int)), (0, a1), (0, a2), (0, a3), (0, (a4 + 1))] [] q2.2 else zB P 209 4 [(2, ((a0 : Nat) : Int)), (0, a1), (0, a2), (0, (a3 + 1)), (0, (a4 + 1))] [] q2.2)))) := by
  have hT := cT_209
  refine Eq.trans (x1 (h := 4) hT rfl rfl (by decide)) ?_
  refine Eq.trans (x1 (h := 5) hT rfl rfl (by decide)) ?_
  refine Eq.trans (x1 (h := 6) hT rfl rfl (by decide)) ?_
  refine Eq.trans (x31 (r := a0) (cl := 12) (as := [(0, a1)]) (st' := [(0, a4)]) (h := 7) hT rfl sm_81 rfl ha0) ?_
  refine xbd (fun q1 => ?_)
  rw [rv_81]
  change zB P 209 8 [(2, ((a0 : Nat) : Int)), (0, a1), (0, a2), (0, a3), (0, a4)] [(0, q1.1), (0, a4)] q1.2 = _
  refine Eq.trans (x17_3 (h := 8) hT rfl) ?_
  refine xit (fun _ => ?_) (fun _ => ?_)
  · refine Eq.trans (x1 (h := 21) hT rfl rfl (by decide)) ?_
    exact x201 (h := 22) hT rfl
  · refine Eq.trans (x1 (h := 9) hT rfl rfl (by decide)) ?_
    refine Eq.trans (x1 (h := 10) hT rfl rfl (by decide)) ?_
    refine Eq.trans (x1 (h := 11) hT rfl rfl (by decide)) ?_
    refine Eq.trans (x1 (h := 12) hT rfl rfl (by decide)) ?_
    refine Eq.trans (x31 (r := a0) (cl := 12) (as := [(0, a1), (0, a4), (0, a2)]) (st' := []) (h := 13) hT rfl sm_144 rfl ha0) ?_
    refine xbd (fun q2 => ?_)
    rw [rv_144]
    change zB P 209 14 [(2, ((a0 : Nat) : Int)), (0, a1), (0, a2), (0, a3), (0, a4)] [(0, q2.1)] q2.2 = _
    refine Eq.trans (x16_0 (h := 14) hT rfl) ?_
    refine xit (fun _ => ?_) (fun _ => ?_)
    · refine Eq.trans (x4 (ls' := [(2, ((a0 : Nat) : Int)), (0, a1), (0, a2), (0, a3), (0, (a4 + 1))]) (h := 19) hT rfl rfl rfl) ?_
      refine Eq.trans (x18 (h := 20) hT rfl) ?_
      exact rfl
    · refine Eq.trans (x1 (h := 15) hT rfl rfl (by decide)) ?_
      refine Eq.trans (x0 (h := 16) hT rfl) ?_
      refine Eq.trans (x5_0 (h := 17) hT rfl) ?_
      refine Eq.trans (x2 (ls' := [(2, ((a0 : Nat) : Int)), (0, a1), (0, a2), (0, (a3 + 1)), (0, a4)]) (h := 18) hT rfl (Nat.le_of_ble_eq_true rfl) rfl) ?_
      refine Eq.trans (x4 (ls' := [(2, ((a0 : Nat) : Int)), (0, a1), (0, a2), (0, (a3 + 1)), (0, (a4 + 1))]) (h := 19) hT rfl rfl rfl) ?_
      refine Eq.trans (x18 (h := 20) hT rfl) ?_
      exact rfl
/-! WordLinksModel.side(II)I -/
set_option maxRecDepth 100000 in
theorem e_210 {P : zP} {d : zD P} {a0 : Nat} {a1 : Int} {a2 : Int} (ha0 : zkd a0 = 12) : MM P 210 [(2, ((a0 : Nat) : Int)), (0, a1), (0, a2)] d = ((MM P 147 [(0, a1)] d).bind fun q1 => (if wr q1.1 = 0 then some ((-1), q1.2) else ((MM P 55 [(0, a2), (0, 0), (0, 1)] q1.2).bind fun q2 => (if wr q2.1 ≠ 0 then (if wr a2 ≠ 0 then zB P 210 20 [(2, ((a0 : Nat) : Int)), (0, a1), (0, a2), (0, 0), (0, 0)] [] q2.2 else ((MM P 81 [(2, ((a0 : Nat) : Int)), (0, a1)] q2.2).bind fun q3 => some (q3.1, q3.2))) else some ((-1), q2.2))))) := by
  have hT := cT_210
  refine Eq.trans (MM_def sm_210 (Nat.le_of_ble_eq_true rfl)) ?_
  change zB P 210 0 [(2, ((a0 : Nat) : Int)), (0, a1), (0, a2), (3, 0), (3, 0)] [] d = _
  refine Eq.trans (x1 (h := 0) hT rfl rfl (by decide)) ?_
  refine Eq.trans (x34 (as := [(0, a1)]) (st' := []) (h := 1) hT rfl sm_147 rfl) ?_
  refine xbd (fun q1 => ?_)
  rw [rv_147]
  change zB P 210 2 [(2, ((a0 : Nat) : Int)), (0, a1), (0, a2), (3, 0), (3, 0)] [(0, q1.1)] q1.2 = _
  refine Eq.trans (x16_0 (h := 2) hT rfl) ?_
  refine xit (fun _ => ?_) (fun _ => ?_)
  · refine Eq.trans (x0 (h := 8) hT rfl) ?_
    exact x201 (h := 9) hT rfl
  · refine Eq.trans (x1 (h := 3) hT rfl rfl (by decide)) ?_
    refine Eq.trans (x0 (h := 4) hT rfl) ?_
    refine Eq.trans (x0 (h := 5) hT rfl) ?_
    refine Eq.trans (x34 (as := [(0, a2), (0, 0), (0, 1)]) (st' := []) (h := 6) hT rfl sm_55 rfl) ?_
    refine xbd (fun q2 => ?_)
    rw [rv_55]
    change zB P 210 7 [(2, ((a0 : Nat) : Int)), (0, a1), (0, a2), (3, 0), (3, 0)] [(0, q2.1)] q2.2 = _
    refine Eq.trans (x16_1 (h := 7) hT rfl) ?_
    refine xit (fun _ => ?_) (fun _ => ?_)
    · refine Eq.trans (x1 (h := 10) hT rfl rfl (by decide)) ?_
      refine Eq.trans (x16_1 (h := 11) hT rfl) ?_
      refine xit (fun _ => ?_) (fun _ => ?_)
      · refine Eq.trans (x0 (h := 16) hT rfl) ?_
        refine Eq.trans (x2 (ls' := [(2, ((a0 : Nat) : Int)), (0, a1), (0, a2), (0, 0), (3, 0)]) (h := 17) hT rfl (Nat.le_of_ble_eq_true rfl) rfl) ?_
        refine Eq.trans (x0 (h := 18) hT rfl) ?_
        refine Eq.trans (x2 (ls' := [(2, ((a0 : Nat) : Int)), (0, a1), (0, a2), (0, 0), (0, 0)]) (h := 19) hT rfl (Nat.le_of_ble_eq_true rfl) rfl) ?_
        exact rfl
      · refine Eq.trans (x1 (h := 12) hT rfl rfl (by decide)) ?_
        refine Eq.trans (x1 (h := 13) hT rfl rfl (by decide)) ?_
        refine Eq.trans (x31 (r := a0) (cl := 12) (as := [(0, a1)]) (st' := []) (h := 14) hT rfl sm_81 rfl ha0) ?_
        refine xbd (fun q3 => ?_)
        rw [rv_81]
        change zB P 210 15 [(2, ((a0 : Nat) : Int)), (0, a1), (0, a2), (3, 0), (3, 0)] [(0, q3.1)] q3.2 = _
        exact x201 (h := 15) hT rfl
    · refine Eq.trans (x0 (h := 8) hT rfl) ?_
      exact x201 (h := 9) hT rfl
set_option maxRecDepth 100000 in
theorem q_210_20 {P : zP} {d : zD P} {a0 : Nat} {a1 : Int} {g2 : zV} {a3 : Int} {a4 : Int} (ha0 : zkd a0 = 12) : zB P 210 20 [(2, ((a0 : Nat) : Int)), (0, a1), g2, (0, a3), (0, a4)] [] d = (if zin 0 18180 then (if wr ((d.m ((a0 + 1)) (zix 0))) ≤ wr a4 then some (a3, d) else ((MM P 60 [(2, ((a0 : Nat) : Int)), (0, a4), (0, a1)] d).bind fun q5 => zB P 210 20 [(2, ((a0 : Nat) : Int)), (0, a1), (if (g2).1 = 1 then (3, 0) else g2), (0, (a3 + q5.1)), (0, (a4 + 1))] [] q5.2)) else none) := by
  have hT := cT_210
  refine Eq.trans (x1 (h := 20) hT rfl rfl (by decide)) ?_
  refine Eq.trans (x1 (h := 21) hT rfl rfl (by decide)) ?_
  refine Eq.trans (x21r (r := a0) (cl := 12) (o := 1) (h := 22) hT rfl ha0 (by decide) rfl) ?_
  refine Eq.trans (x0 (h := 23) hT rfl) ?_
  refine Eq.trans (x24 (r := (a0 + 1)) (n := 18180) (h := 24) hT rfl (Or.inl (kd_12_0 ha0)) (ln_12_0 ha0)) ?_
  refine xig (fun hz4 => ?_)
  refine Eq.trans (x17_3 (h := 25) hT rfl) ?_
  refine xit (fun _ => ?_) (fun _ => ?_)
  · refine Eq.trans (x1 (h := 35) hT rfl rfl (by decide)) ?_
    exact x201 (h := 36) hT rfl
  · refine Eq.trans (x1 (h := 26) hT rfl rfl (by decide)) ?_
    refine Eq.trans (x1 (h := 27) hT rfl rfl (by decide)) ?_
    refine Eq.trans (x1 (h := 28) hT rfl rfl (by decide)) ?_
    refine Eq.trans (x1 (h := 29) hT rfl rfl (by decide)) ?_
    refine Eq.trans (x31 (r := a0) (cl := 12) (as := [(0, a4), (0, a1)]) (st' := [(0, a3)]) (h := 30) hT rfl sm_60 rfl ha0) ?_
    refine xbd (fun q5 => ?_)
    rw [rv_60]
    change zB P 210 31 [(2, ((a0 : Nat) : Int)), (0, a1), g2, (0, a3), (0, a4)] [(0, q5.1), (0, a3)] q5.2 = _
    refine Eq.trans (x5_0 (h := 31) hT rfl) ?_
    refine Eq.trans (x2 (ls' := [(2, ((a0 : Nat) : Int)), (0, a1), (if (g2).1 = 1 then (3, 0) else g2), (0, (a3 + q5.1)), (0, a4)]) (h := 32) hT rfl (Nat.le_of_ble_eq_true rfl) rfl) ?_
    refine Eq.trans (x4 (ls' := [(2, ((a0 : Nat) : Int)), (0, a1), (if (g2).1 = 1 then (3, 0) else g2), (0, (a3 + q5.1)), (0, (a4 + 1))]) (h := 33) hT rfl rfl rfl) ?_
    refine Eq.trans (x18 (h := 34) hT rfl) ?_
    exact rfl
/-! WordLinksModel.tell(IIIZ)I -/
set_option maxRecDepth 100000 in
theorem e_211 {P : zP} {d : zD P} {a0 : Nat} {a1 : Int} {a2 : Int} {a3 : Int} {a4 : Int} (ha0 : zkd a0 = 12) : MM P 211 [(2, ((a0 : Nat) : Int)), (0, a1), (0, a2), (0, a3), (0, a4)] d = ((MM P 145 [(2, ((a0 : Nat) : Int)), (0, a1)] d).bind fun q1 => (if wr q1.1 = 0 then some ((-1), q1.2) else ((MM P 60 [(2, ((a0 : Nat) : Int)), (0, a1), (0, 0)] q1.2).bind fun q2 => ((MM P 55 [(0, a2), (0, 0), (0, (q2.1 - 1))] q2.2).bind fun q3 => (if wr q3.1 = 0 then some ((-1), q3.2) else ((MM P 60 [(2, ((a0 : Nat) : Int)), (0, a1), (0, 1)] q3.2).bind fun q4 => ((MM P 55 [(0, a3), (0, 0), (0, (q4.1 - 1))] q4.2).bind fun q5 => (if wr q5.1 ≠ 0 then ((MM P 77 [(2, ((a0 : Nat) : Int)), (0, a1), (0, a2)] q5.2).bind fun q6 => ((MM P 53 [(0, q6.1), (0, a3)] q6.2).bind fun q7 => (if wr q7.1 ≠ wr a4 then ((MM P 77 [(2, ((a0 : Nat) : Int)), (0, a1), (0, a2)] q7.2).bind fun q8 => (if zin ((((24 + (20 * a1)) + 14) + a2)) 18180 then ((MM P 162 [(2, ((a0 : Nat) : Int)), (0, a1)] ((q8.2.up ((a0 + 1)) (zix ((((24 + (20 * a1)) + 14) + a2))) ((zbin 5 q8.1 ((zbin 6 1 a3))))))).bind fun q10 => some (q10.1, q10.2)) else none)) else some ((-2), q7.2)))) else some ((-1), q5.2))))))))) := by
  have hT := cT_211
  refine Eq.trans (MM_def sm_211 (Nat.le_of_ble_eq_true rfl)) ?_
  change zB P 211 0 [(2, ((a0 : Nat) : Int)), (0, a1), (0, a2), (0, a3), (0, a4)] [] d = _
  refine Eq.trans (x1 (h := 0) hT rfl rfl (by decide)) ?_
  refine Eq.trans (x1 (h := 1) hT rfl rfl (by decide)) ?_
  refine Eq.trans (x31 (r := a0) (cl := 12) (as := [(0, a1)]) (st' := []) (h := 2) hT rfl sm_145 rfl ha0) ?_
  refine xbd (fun q1 => ?_)
  rw [rv_145]
  change zB P 211 3 [(2, ((a0 : Nat) : Int)), (0, a1), (0, a2), (0, a3), (0, a4)] [(0, q1.1)] q1.2 = _
  refine Eq.trans (x16_0 (h := 3) hT rfl) ?_
  refine xit (fun _ => ?_) (fun _ => ?_)
  · refine Eq.trans (x0 (h := 24) hT rfl) ?_
    exact x201 (h := 25) hT rfl
  · refine Eq.trans (x1 (h := 4) hT rfl rfl (by decide)) ?_
    refine Eq.trans (x0 (h := 5) hT rfl) ?_
    refine Eq.trans (x1 (h := 6) hT rfl rfl (by decide)) ?_
    refine Eq.trans (x1 (h := 7) hT rfl rfl (by decide)) ?_
    refine Eq.trans (x0 (h := 8) hT rfl) ?_
    refine Eq.trans (x31 (r := a0) (cl := 12) (as := [(0, a1), (0, 0)]) (st' := [(0, 0), (0, a2)]) (h := 9) hT rfl sm_60 rfl ha0) ?_
    refine xbd (fun q2 => ?_)
    rw [rv_60]
    change zB P 211 10 [(2, ((a0 : Nat) : Int)), (0, a1), (0, a2), (0, a3), (0, a4)] [(0, q2.1), (0, 0), (0, a2)] q2.2 = _
    refine Eq.trans (x0 (h := 10) hT rfl) ?_
    refine Eq.trans (x5_1 (h := 11) hT rfl) ?_
    refine Eq.trans (x34 (as := [(0, a2), (0, 0), (0, (q2.1 - 1))]) (st' := []) (h := 12) hT rfl sm_55 rfl) ?_
    refine xbd (fun q3 => ?_)
    rw [rv_55]
    change zB P 211 13 [(2, ((a0 : Nat) : Int)), (0, a1), (0, a2), (0, a3), (0, a4)] [(0, q3.1)] q3.2 = _
    refine Eq.trans (x16_0 (h := 13) hT rfl) ?_
    refine xit (fun _ => ?_) (fun _ => ?_)
    · refine Eq.trans (x0 (h := 24) hT rfl) ?_
      exact x201 (h := 25) hT rfl
    · refine Eq.trans (x1 (h := 14) hT rfl rfl (by decide)) ?_
      refine Eq.trans (x0 (h := 15) hT rfl) ?_
      refine Eq.trans (x1 (h := 16) hT rfl rfl (by decide)) ?_
      refine Eq.trans (x1 (h := 17) hT rfl rfl (by decide)) ?_
      refine Eq.trans (x0 (h := 18) hT rfl) ?_
      refine Eq.trans (x31 (r := a0) (cl := 12) (as := [(0, a1), (0, 1)]) (st' := [(0, 0), (0, a3)]) (h := 19) hT rfl sm_60 rfl ha0) ?_
      refine xbd (fun q4 => ?_)
      rw [rv_60]
      change zB P 211 20 [(2, ((a0 : Nat) : Int)), (0, a1), (0, a2), (0, a3), (0, a4)] [(0, q4.1), (0, 0), (0, a3)] q4.2 = _
      refine Eq.trans (x0 (h := 20) hT rfl) ?_
      refine Eq.trans (x5_1 (h := 21) hT rfl) ?_
      refine Eq.trans (x34 (as := [(0, a3), (0, 0), (0, (q4.1 - 1))]) (st' := []) (h := 22) hT rfl sm_55 rfl) ?_
      refine xbd (fun q5 => ?_)
      rw [rv_55]
      change zB P 211 23 [(2, ((a0 : Nat) : Int)), (0, a1), (0, a2), (0, a3), (0, a4)] [(0, q5.1)] q5.2 = _
      refine Eq.trans (x16_1 (h := 23) hT rfl) ?_
      refine xit (fun _ => ?_) (fun _ => ?_)
      · refine Eq.trans (x1 (h := 26) hT rfl rfl (by decide)) ?_
        refine Eq.trans (x1 (h := 27) hT rfl rfl (by decide)) ?_
        refine Eq.trans (x1 (h := 28) hT rfl rfl (by decide)) ?_
        refine Eq.trans (x31 (r := a0) (cl := 12) (as := [(0, a1), (0, a2)]) (st' := []) (h := 29) hT rfl sm_77 rfl ha0) ?_
        refine xbd (fun q6 => ?_)
        rw [rv_77]
        change zB P 211 30 [(2, ((a0 : Nat) : Int)), (0, a1), (0, a2), (0, a3), (0, a4)] [(0, q6.1)] q6.2 = _
        refine Eq.trans (x1 (h := 30) hT rfl rfl (by decide)) ?_
        refine Eq.trans (x34 (as := [(0, q6.1), (0, a3)]) (st' := []) (h := 31) hT rfl sm_53 rfl) ?_
        refine xbd (fun q7 => ?_)
        rw [rv_53]
        change zB P 211 32 [(2, ((a0 : Nat) : Int)), (0, a1), (0, a2), (0, a3), (0, a4)] [(0, q7.1)] q7.2 = _
        refine Eq.trans (x1 (h := 32) hT rfl rfl (by decide)) ?_
        refine Eq.trans (x17_1 (h := 33) hT rfl) ?_
        refine xit (fun _ => ?_) (fun _ => ?_)
        · refine Eq.trans (x1 (h := 36) hT rfl rfl (by decide)) ?_
          refine Eq.trans (x21r (r := a0) (cl := 12) (o := 1) (h := 37) hT rfl ha0 (by decide) rfl) ?_
          refine Eq.trans (x0 (h := 38) hT rfl) ?_
          refine Eq.trans (x0 (h := 39) hT rfl) ?_
          refine Eq.trans (x1 (h := 40) hT rfl rfl (by decide)) ?_
          refine Eq.trans (x5_2 (h := 41) hT rfl) ?_
          refine Eq.trans (x5_0 (h := 42) hT rfl) ?_
          refine Eq.trans (x0 (h := 43) hT rfl) ?_
          refine Eq.trans (x5_0 (h := 44) hT rfl) ?_
          refine Eq.trans (x1 (h := 45) hT rfl rfl (by decide)) ?_
          refine Eq.trans (x5_0 (h := 46) hT rfl) ?_
          refine Eq.trans (x1 (h := 47) hT rfl rfl (by decide)) ?_
          refine Eq.trans (x1 (h := 48) hT rfl rfl (by decide)) ?_
          refine Eq.trans (x1 (h := 49) hT rfl rfl (by decide)) ?_
          refine Eq.trans (x31 (r := a0) (cl := 12) (as := [(0, a1), (0, a2)]) (st' := [(0, (((24 + (20 * a1)) + 14) + a2)), (2, (((a0 + 1) : Nat) : Int))]) (h := 50) hT rfl sm_77 rfl ha0) ?_
          refine xbd (fun q8 => ?_)
          rw [rv_77]
          change zB P 211 51 [(2, ((a0 : Nat) : Int)), (0, a1), (0, a2), (0, a3), (0, a4)] [(0, q8.1), (0, (((24 + (20 * a1)) + 14) + a2)), (2, (((a0 + 1) : Nat) : Int))] q8.2 = _
          refine Eq.trans (x0 (h := 51) hT rfl) ?_
          refine Eq.trans (x1 (h := 52) hT rfl rfl (by decide)) ?_
          refine Eq.trans (x5n (h := 53) hT rfl) ?_
          refine Eq.trans (x5n (h := 54) hT rfl) ?_
          refine Eq.trans (x25a (r := (a0 + 1)) (n := 18180) (h := 55) hT rfl (kd_12_0 ha0) (ln_12_0 ha0) (by decide) rfl) ?_
          refine xig (fun hz9 => ?_)
          refine Eq.trans (x1 (h := 56) hT rfl rfl (by decide)) ?_
          refine Eq.trans (x1 (h := 57) hT rfl rfl (by decide)) ?_
          refine Eq.trans (x31 (r := a0) (cl := 12) (as := [(0, a1)]) (st' := []) (h := 58) hT rfl sm_162 rfl ha0) ?_
          refine xbd (fun q10 => ?_)
          rw [rv_162]
          change zB P 211 59 [(2, ((a0 : Nat) : Int)), (0, a1), (0, a2), (0, a3), (0, a4)] [(0, q10.1)] q10.2 = _
          exact x201 (h := 59) hT rfl
        · refine Eq.trans (x0 (h := 34) hT rfl) ?_
          exact x201 (h := 35) hT rfl
      · refine Eq.trans (x0 (h := 24) hT rfl) ?_
        exact x201 (h := 25) hT rfl
/-! WordLinksModel.worth(IIII)J -/
set_option maxRecDepth 100000 in
theorem e_212 {P : zP} {d : zD P} {a0 : Nat} {a1 : Int} {a2 : Int} {a3 : Int} {a4 : Int} (ha0 : zkd a0 = 12) : MM P 212 [(2, ((a0 : Nat) : Int)), (0, a1), (0, a2), (0, a3), (0, a4)] d = ((MM P 80 [(2, ((a0 : Nat) : Int)), (0, a2), (0, a1), (0, a3)] d).bind fun q1 => ((MM P 80 [(2, ((a0 : Nat) : Int)), (0, a2), (0, (1 - a1)), (0, a4)] q1.2).bind fun q2 => ((MM P 71 [(2, ((a0 : Nat) : Int)), (0, a1), (0, q1.1), (0, q2.1)] q2.2).bind fun q3 => (if zin 3 18180 then (if wr ((q3.2.m ((a0 + 1)) (zix 3))) ≠ 0 then ((MM P 156 [(2, ((a0 : Nat) : Int)), (0, a1), (0, a2), (0, a3), (0, a4)] q3.2).bind fun q5 => (if zin (((8 + (8 * a1)) + q5.1)) 18180 then some (((wr q3.1) * (wr ((q5.2.m ((a0 + 1)) (zix (((8 + (8 * a1)) + q5.1))))))), q5.2) else none)) else some ((wr q3.1), q3.2)) else none)))) := by
  have hT := cT_212
  refine Eq.trans (MM_def sm_212 (Nat.le_of_ble_eq_true rfl)) ?_
  change zB P 212 0 [(2, ((a0 : Nat) : Int)), (0, a1), (0, a2), (0, a3), (0, a4), (3, 0), (3, 0)] [] d = _
  refine Eq.trans (x1 (h := 0) hT rfl rfl (by decide)) ?_
  refine Eq.trans (x1 (h := 1) hT rfl rfl (by decide)) ?_
  refine Eq.trans (x1 (h := 2) hT rfl rfl (by decide)) ?_
  refine Eq.trans (x1 (h := 3) hT rfl rfl (by decide)) ?_
  refine Eq.trans (x1 (h := 4) hT rfl rfl (by decide)) ?_
  refine Eq.trans (x1 (h := 5) hT rfl rfl (by decide)) ?_
  refine Eq.trans (x31 (r := a0) (cl := 12) (as := [(0, a2), (0, a1), (0, a3)]) (st' := [(0, a1), (2, ((a0 : Nat) : Int))]) (h := 6) hT rfl sm_80 rfl ha0) ?_
  refine xbd (fun q1 => ?_)
  rw [rv_80]
  change zB P 212 7 [(2, ((a0 : Nat) : Int)), (0, a1), (0, a2), (0, a3), (0, a4), (3, 0), (3, 0)] [(0, q1.1), (0, a1), (2, ((a0 : Nat) : Int))] q1.2 = _
  refine Eq.trans (x1 (h := 7) hT rfl rfl (by decide)) ?_
  refine Eq.trans (x1 (h := 8) hT rfl rfl (by decide)) ?_
  refine Eq.trans (x0 (h := 9) hT rfl) ?_
  refine Eq.trans (x1 (h := 10) hT rfl rfl (by decide)) ?_
  refine Eq.trans (x5_1 (h := 11) hT rfl) ?_
  refine Eq.trans (x1 (h := 12) hT rfl rfl (by decide)) ?_
  refine Eq.trans (x31 (r := a0) (cl := 12) (as := [(0, a2), (0, (1 - a1)), (0, a4)]) (st' := [(0, q1.1), (0, a1), (2, ((a0 : Nat) : Int))]) (h := 13) hT rfl sm_80 rfl ha0) ?_
  refine xbd (fun q2 => ?_)
  rw [rv_80]
  change zB P 212 14 [(2, ((a0 : Nat) : Int)), (0, a1), (0, a2), (0, a3), (0, a4), (3, 0), (3, 0)] [(0, q2.1), (0, q1.1), (0, a1), (2, ((a0 : Nat) : Int))] q2.2 = _
  refine Eq.trans (x31 (r := a0) (cl := 12) (as := [(0, a1), (0, q1.1), (0, q2.1)]) (st' := []) (h := 14) hT rfl sm_71 rfl ha0) ?_
  refine xbd (fun q3 => ?_)
  rw [rv_71]
  change zB P 212 15 [(2, ((a0 : Nat) : Int)), (0, a1), (0, a2), (0, a3), (0, a4), (3, 0), (3, 0)] [(0, q3.1)] q3.2 = _
  refine Eq.trans (x12 (h := 15) hT rfl) ?_
  refine Eq.trans (x3 (ls' := [(2, ((a0 : Nat) : Int)), (0, a1), (0, a2), (0, a3), (0, a4), (1, (wr q3.1)), (3, 0)]) (h := 16) hT rfl (Nat.le_of_ble_eq_true rfl) rfl) ?_
  refine Eq.trans (x1 (h := 17) hT rfl rfl (by decide)) ?_
  refine Eq.trans (x21r (r := a0) (cl := 12) (o := 1) (h := 18) hT rfl ha0 (by decide) rfl) ?_
  refine Eq.trans (x0 (h := 19) hT rfl) ?_
  refine Eq.trans (x24 (r := (a0 + 1)) (n := 18180) (h := 20) hT rfl (Or.inl (kd_12_0 ha0)) (ln_12_0 ha0)) ?_
  refine xig (fun hz4 => ?_)
  refine Eq.trans (x16_1 (h := 21) hT rfl) ?_
  refine xit (fun _ => ?_) (fun _ => ?_)
  · refine Eq.trans (x1 (h := 24) hT rfl rfl (by decide)) ?_
    refine Eq.trans (x1 (h := 25) hT rfl rfl (by decide)) ?_
    refine Eq.trans (x21r (r := a0) (cl := 12) (o := 1) (h := 26) hT rfl ha0 (by decide) rfl) ?_
    refine Eq.trans (x0 (h := 27) hT rfl) ?_
    refine Eq.trans (x0 (h := 28) hT rfl) ?_
    refine Eq.trans (x1 (h := 29) hT rfl rfl (by decide)) ?_
    refine Eq.trans (x5_2 (h := 30) hT rfl) ?_
    refine Eq.trans (x5_0 (h := 31) hT rfl) ?_
    refine Eq.trans (x1 (h := 32) hT rfl rfl (by decide)) ?_
    refine Eq.trans (x1 (h := 33) hT rfl rfl (by decide)) ?_
    refine Eq.trans (x1 (h := 34) hT rfl rfl (by decide)) ?_
    refine Eq.trans (x1 (h := 35) hT rfl rfl (by decide)) ?_
    refine Eq.trans (x1 (h := 36) hT rfl rfl (by decide)) ?_
    refine Eq.trans (x31 (r := a0) (cl := 12) (as := [(0, a1), (0, a2), (0, a3), (0, a4)]) (st' := [(0, (8 + (8 * a1))), (2, (((a0 + 1) : Nat) : Int)), (1, (wr q3.1))]) (h := 37) hT rfl sm_156 rfl ha0) ?_
    refine xbd (fun q5 => ?_)
    rw [rv_156]
    change zB P 212 38 [(2, ((a0 : Nat) : Int)), (0, a1), (0, a2), (0, a3), (0, a4), (1, (wr q3.1)), (3, 0)] [(0, q5.1), (0, (8 + (8 * a1))), (2, (((a0 + 1) : Nat) : Int)), (1, (wr q3.1))] q5.2 = _
    refine Eq.trans (x5_0 (h := 38) hT rfl) ?_
    refine Eq.trans (x24 (r := (a0 + 1)) (n := 18180) (h := 39) hT rfl (Or.inl (kd_12_0 ha0)) (ln_12_0 ha0)) ?_
    refine xig (fun hz6 => ?_)
    refine Eq.trans (x12 (h := 40) hT rfl) ?_
    refine Eq.trans (x8_2 (h := 41) hT rfl) ?_
    exact x202 (h := 42) hT rfl
  · refine Eq.trans (x1 (h := 22) hT rfl rfl (by decide)) ?_
    refine Eq.trans (x18 (h := 23) hT rfl) ?_
    exact x202 (h := 42) hT rfl
/-! WordLinks$Corpus.append(LWordLinks$Rows;LWordLinks$Rows;)I -/
set_option maxRecDepth 100000 in
theorem e_213 {P : zP} {d : zD P} {a0 : Nat} {a1 : Nat} {a2 : Nat} (ha0 : zkd a0 = 0) (ha1 : zkd a1 = 7) (ha2 : zkd a2 = 7) : MM P 213 [(2, ((a0 : Nat) : Int)), (2, ((a1 : Nat) : Int)), (2, ((a2 : Nat) : Int))] d = (if wr (((d.m a0 6) + (d.m a1 2))) ≤ wr 24 then ((MM P 167 [(2, ((a0 : Nat) : Int)), (0, 0), (2, ((a1 : Nat) : Int))] d).bind fun q1 => ((MM P 167 [(2, ((a0 : Nat) : Int)), (0, 1), (2, ((a2 : Nat) : Int))] q1.2).bind fun q2 => (if wr 40 < wr q1.1 then some ((-4), q2.2) else (if wr q2.1 ≤ wr 40 then (if zin 0 2 then (if zin 1 2 then zB P 213 39 [(2, ((a0 : Nat) : Int)), (2, ((a1 : Nat) : Int)), (2, ((a2 : Nat) : Int)), (0, q1.1), (0, q2.1), (0, 0)] [] ((((q2.2.up ((a0 + 1)) (zix 0) q1.1)).up ((a0 + 1)) (zix 1) q2.1)) else none) else none) else some ((-4), q2.2))))) else some ((-3), d)) := by
  have hT := cT_213
  refine Eq.trans (MM_def sm_213 (Nat.le_of_ble_eq_true rfl)) ?_
  change zB P 213 0 [(2, ((a0 : Nat) : Int)), (2, ((a1 : Nat) : Int)), (2, ((a2 : Nat) : Int)), (3, 0), (3, 0), (3, 0)] [] d = _
  refine Eq.trans (x1 (h := 0) hT rfl rfl (by decide)) ?_
  refine Eq.trans (x21 (r := a0) (cl := 0) (h := 1) hT rfl ha0) ?_
  refine Eq.trans (x1 (h := 2) hT rfl rfl (by decide)) ?_
  refine Eq.trans (x21 (r := a1) (cl := 7) (h := 3) hT rfl ha1) ?_
  refine Eq.trans (x5_0 (h := 4) hT rfl) ?_
  refine Eq.trans (x0 (h := 5) hT rfl) ?_
  refine Eq.trans (x17_5 (h := 6) hT rfl) ?_
  refine xit (fun _ => ?_) (fun _ => ?_)
  · refine Eq.trans (x1 (h := 9) hT rfl rfl (by decide)) ?_
    refine Eq.trans (x0 (h := 10) hT rfl) ?_
    refine Eq.trans (x1 (h := 11) hT rfl rfl (by decide)) ?_
    refine Eq.trans (x31 (r := a0) (cl := 0) (as := [(0, 0), (2, ((a1 : Nat) : Int))]) (st' := []) (h := 12) hT rfl sm_167 rfl ha0) ?_
    refine xbd (fun q1 => ?_)
    rw [rv_167]
    change zB P 213 13 [(2, ((a0 : Nat) : Int)), (2, ((a1 : Nat) : Int)), (2, ((a2 : Nat) : Int)), (3, 0), (3, 0), (3, 0)] [(0, q1.1)] q1.2 = _
    refine Eq.trans (x2 (ls' := [(2, ((a0 : Nat) : Int)), (2, ((a1 : Nat) : Int)), (2, ((a2 : Nat) : Int)), (0, q1.1), (3, 0), (3, 0)]) (h := 13) hT rfl (Nat.le_of_ble_eq_true rfl) rfl) ?_
    refine Eq.trans (x1 (h := 14) hT rfl rfl (by decide)) ?_
    refine Eq.trans (x0 (h := 15) hT rfl) ?_
    refine Eq.trans (x1 (h := 16) hT rfl rfl (by decide)) ?_
    refine Eq.trans (x31 (r := a0) (cl := 0) (as := [(0, 1), (2, ((a2 : Nat) : Int))]) (st' := []) (h := 17) hT rfl sm_167 rfl ha0) ?_
    refine xbd (fun q2 => ?_)
    rw [rv_167]
    change zB P 213 18 [(2, ((a0 : Nat) : Int)), (2, ((a1 : Nat) : Int)), (2, ((a2 : Nat) : Int)), (0, q1.1), (3, 0), (3, 0)] [(0, q2.1)] q2.2 = _
    refine Eq.trans (x2 (ls' := [(2, ((a0 : Nat) : Int)), (2, ((a1 : Nat) : Int)), (2, ((a2 : Nat) : Int)), (0, q1.1), (0, q2.1), (3, 0)]) (h := 18) hT rfl (Nat.le_of_ble_eq_true rfl) rfl) ?_
    refine Eq.trans (x1 (h := 19) hT rfl rfl (by decide)) ?_
    refine Eq.trans (x0 (h := 20) hT rfl) ?_
    refine Eq.trans (x17_4 (h := 21) hT rfl) ?_
    refine xit (fun _ => ?_) (fun _ => ?_)
    · refine Eq.trans (x0 (h := 25) hT rfl) ?_
      exact x201 (h := 26) hT rfl
    · refine Eq.trans (x1 (h := 22) hT rfl rfl (by decide)) ?_
      refine Eq.trans (x0 (h := 23) hT rfl) ?_
      refine Eq.trans (x17_5 (h := 24) hT rfl) ?_
      refine xit (fun _ => ?_) (fun _ => ?_)
      · refine Eq.trans (x1 (h := 27) hT rfl rfl (by decide)) ?_
        refine Eq.trans (x21r (r := a0) (cl := 0) (o := 1) (h := 28) hT rfl ha0 (by decide) rfl) ?_
        refine Eq.trans (x0 (h := 29) hT rfl) ?_
        refine Eq.trans (x1 (h := 30) hT rfl rfl (by decide)) ?_
        refine Eq.trans (x25a (r := (a0 + 1)) (n := 2) (h := 31) hT rfl (kd_0_0 ha0) (ln_0_0 ha0) (by decide) rfl) ?_
        refine xig (fun hz3 => ?_)
        refine Eq.trans (x1 (h := 32) hT rfl rfl (by decide)) ?_
        refine Eq.trans (x21r (r := a0) (cl := 0) (o := 1) (h := 33) hT rfl ha0 (by decide) rfl) ?_
        refine Eq.trans (x0 (h := 34) hT rfl) ?_
        refine Eq.trans (x1 (h := 35) hT rfl rfl (by decide)) ?_
        refine Eq.trans (x25a (r := (a0 + 1)) (n := 2) (h := 36) hT rfl (kd_0_0 ha0) (ln_0_0 ha0) (by decide) rfl) ?_
        refine xig (fun hz4 => ?_)
        refine Eq.trans (x0 (h := 37) hT rfl) ?_
        refine Eq.trans (x2 (ls' := [(2, ((a0 : Nat) : Int)), (2, ((a1 : Nat) : Int)), (2, ((a2 : Nat) : Int)), (0, q1.1), (0, q2.1), (0, 0)]) (h := 38) hT rfl (Nat.le_of_ble_eq_true rfl) rfl) ?_
        exact rfl
      · refine Eq.trans (x0 (h := 25) hT rfl) ?_
        exact x201 (h := 26) hT rfl
  · refine Eq.trans (x0 (h := 7) hT rfl) ?_
    exact x201 (h := 8) hT rfl
set_option maxRecDepth 100000 in
theorem q_213_39 {P : zP} {d : zD P} {a0 : Nat} {a1 : Nat} {a2 : Nat} {g3 : zV} {g4 : zV} {a5 : Int} (ha0 : zkd a0 = 0) (ha1 : zkd a1 = 7) (ha2 : zkd a2 = 7) : zB P 213 39 [(2, ((a0 : Nat) : Int)), (2, ((a1 : Nat) : Int)), (2, ((a2 : Nat) : Int)), g3, g4, (0, a5)] [] d = (if wr ((d.m a1 2)) ≤ wr a5 then ((MM P 89 [(2, ((a0 : Nat) : Int))] d).bind fun q5 => some ((q5.2.m a0 6), q5.2)) else (if wr 24 ≤ wr ((d.m a0 6)) then ((MM P 89 [(2, ((a0 : Nat) : Int))] d).bind fun q6 => some ((q6.2.m a0 6), q6.2)) else ((MM P 166 [(2, ((a0 : Nat) : Int)), (0, 0), (2, ((a1 : Nat) : Int)), (0, a5)] d).bind fun q7 => ((MM P 166 [(2, ((a0 : Nat) : Int)), (0, 1), (2, ((a2 : Nat) : Int)), (0, a5)] q7.2).bind fun q8 => zB P 213 39 [(2, ((a0 : Nat) : Int)), (2, ((a1 : Nat) : Int)), (2, ((a2 : Nat) : Int)), g3, (if (g4).1 = 1 then (3, 0) else g4), (0, (a5 + 1))] [] ((q8.2.up a0 6 (((q8.2.m a0 6) + 1)))))))) := by
  have hT := cT_213
  refine Eq.trans (x1 (h := 39) hT rfl rfl (by decide)) ?_
  refine Eq.trans (x1 (h := 40) hT rfl rfl (by decide)) ?_
  refine Eq.trans (x21 (r := a1) (cl := 7) (h := 41) hT rfl ha1) ?_
  refine Eq.trans (x17_3 (h := 42) hT rfl) ?_
  refine xit (fun _ => ?_) (fun _ => ?_)
  · refine Eq.trans (x1 (h := 65) hT rfl rfl (by decide)) ?_
    refine Eq.trans (x31 (r := a0) (cl := 0) (as := []) (st' := []) (h := 66) hT rfl sm_89 rfl ha0) ?_
    refine xbd (fun q5 => ?_)
    rw [rv_89]
    change zB P 213 67 [(2, ((a0 : Nat) : Int)), (2, ((a1 : Nat) : Int)), (2, ((a2 : Nat) : Int)), g3, g4, (0, a5)] [] q5.2 = _
    refine Eq.trans (x1 (h := 67) hT rfl rfl (by decide)) ?_
    refine Eq.trans (x21 (r := a0) (cl := 0) (h := 68) hT rfl ha0) ?_
    exact x201 (h := 69) hT rfl
  · refine Eq.trans (x1 (h := 43) hT rfl rfl (by decide)) ?_
    refine Eq.trans (x21 (r := a0) (cl := 0) (h := 44) hT rfl ha0) ?_
    refine Eq.trans (x0 (h := 45) hT rfl) ?_
    refine Eq.trans (x17_3 (h := 46) hT rfl) ?_
    refine xit (fun _ => ?_) (fun _ => ?_)
    · refine Eq.trans (x1 (h := 65) hT rfl rfl (by decide)) ?_
      refine Eq.trans (x31 (r := a0) (cl := 0) (as := []) (st' := []) (h := 66) hT rfl sm_89 rfl ha0) ?_
      refine xbd (fun q6 => ?_)
      rw [rv_89]
      change zB P 213 67 [(2, ((a0 : Nat) : Int)), (2, ((a1 : Nat) : Int)), (2, ((a2 : Nat) : Int)), g3, g4, (0, a5)] [] q6.2 = _
      refine Eq.trans (x1 (h := 67) hT rfl rfl (by decide)) ?_
      refine Eq.trans (x21 (r := a0) (cl := 0) (h := 68) hT rfl ha0) ?_
      exact x201 (h := 69) hT rfl
    · refine Eq.trans (x1 (h := 47) hT rfl rfl (by decide)) ?_
      refine Eq.trans (x0 (h := 48) hT rfl) ?_
      refine Eq.trans (x1 (h := 49) hT rfl rfl (by decide)) ?_
      refine Eq.trans (x1 (h := 50) hT rfl rfl (by decide)) ?_
      refine Eq.trans (x31 (r := a0) (cl := 0) (as := [(0, 0), (2, ((a1 : Nat) : Int)), (0, a5)]) (st' := []) (h := 51) hT rfl sm_166 rfl ha0) ?_
      refine xbd (fun q7 => ?_)
      rw [rv_166]
      change zB P 213 52 [(2, ((a0 : Nat) : Int)), (2, ((a1 : Nat) : Int)), (2, ((a2 : Nat) : Int)), g3, g4, (0, a5)] [] q7.2 = _
      refine Eq.trans (x1 (h := 52) hT rfl rfl (by decide)) ?_
      refine Eq.trans (x0 (h := 53) hT rfl) ?_
      refine Eq.trans (x1 (h := 54) hT rfl rfl (by decide)) ?_
      refine Eq.trans (x1 (h := 55) hT rfl rfl (by decide)) ?_
      refine Eq.trans (x31 (r := a0) (cl := 0) (as := [(0, 1), (2, ((a2 : Nat) : Int)), (0, a5)]) (st' := []) (h := 56) hT rfl sm_166 rfl ha0) ?_
      refine xbd (fun q8 => ?_)
      rw [rv_166]
      change zB P 213 57 [(2, ((a0 : Nat) : Int)), (2, ((a1 : Nat) : Int)), (2, ((a2 : Nat) : Int)), g3, g4, (0, a5)] [] q8.2 = _
      refine Eq.trans (x1 (h := 57) hT rfl rfl (by decide)) ?_
      refine Eq.trans (x13 (h := 58) hT rfl (by decide)) ?_
      refine Eq.trans (x21 (r := a0) (cl := 0) (h := 59) hT rfl ha0) ?_
      refine Eq.trans (x0 (h := 60) hT rfl) ?_
      refine Eq.trans (x5_0 (h := 61) hT rfl) ?_
      refine Eq.trans (x22 (r := a0) (cl := 0) (h := 62) hT rfl ha0 (by decide) rfl (by decide)) ?_
      refine Eq.trans (x4 (ls' := [(2, ((a0 : Nat) : Int)), (2, ((a1 : Nat) : Int)), (2, ((a2 : Nat) : Int)), g3, (if (g4).1 = 1 then (3, 0) else g4), (0, (a5 + 1))]) (h := 63) hT rfl rfl rfl) ?_
      refine Eq.trans (x18 (h := 64) hT rfl) ?_
      exact rfl
/-! WordLinks$Linker.boxes()I -/
set_option maxRecDepth 100000 in
theorem e_214 {P : zP} {d : zD P} {a0 : Nat} (ha0 : zkd a0 = 1) : MM P 214 [(2, ((a0 : Nat) : Int))] d = zB P 214 4 [(2, ((a0 : Nat) : Int)), (0, 0), (0, 0), (3, 0)] [] d := by
  have hT := cT_214
  refine Eq.trans (MM_def sm_214 (Nat.le_of_ble_eq_true rfl)) ?_
  change zB P 214 0 [(2, ((a0 : Nat) : Int)), (3, 0), (3, 0), (3, 0)] [] d = _
  refine Eq.trans (x0 (h := 0) hT rfl) ?_
  refine Eq.trans (x2 (ls' := [(2, ((a0 : Nat) : Int)), (0, 0), (3, 0), (3, 0)]) (h := 1) hT rfl (Nat.le_of_ble_eq_true rfl) rfl) ?_
  refine Eq.trans (x0 (h := 2) hT rfl) ?_
  refine Eq.trans (x2 (ls' := [(2, ((a0 : Nat) : Int)), (0, 0), (0, 0), (3, 0)]) (h := 3) hT rfl (Nat.le_of_ble_eq_true rfl) rfl) ?_
  exact rfl
set_option maxRecDepth 100000 in
theorem q_214_4 {P : zP} {d : zD P} {a0 : Nat} {a1 : Int} {a2 : Int} {g3 : zV} (ha0 : zkd a0 = 1) : zB P 214 4 [(2, ((a0 : Nat) : Int)), (0, a1), (0, a2), g3] [] d = (if wr 18 ≤ wr a2 then some (a1, d) else zB P 214 9 [(2, ((a0 : Nat) : Int)), (0, a1), (0, a2), (0, 0)] [] d) := by
  have hT := cT_214
  refine Eq.trans (x1 (h := 4) hT rfl rfl (by decide)) ?_
  refine Eq.trans (x0 (h := 5) hT rfl) ?_
  refine Eq.trans (x17_3 (h := 6) hT rfl) ?_
  refine xit (fun _ => ?_) (fun _ => ?_)
  · refine Eq.trans (x1 (h := 22) hT rfl rfl (by decide)) ?_
    exact x201 (h := 23) hT rfl
  · refine Eq.trans (x0 (h := 7) hT rfl) ?_
    refine Eq.trans (x2 (ls' := [(2, ((a0 : Nat) : Int)), (0, a1), (0, a2), (0, 0)]) (h := 8) hT rfl (Nat.le_of_ble_eq_true rfl) rfl) ?_
    exact rfl
set_option maxRecDepth 100000 in
theorem q_214_9 {P : zP} {d : zD P} {a0 : Nat} {a1 : Int} {a2 : Int} {a3 : Int} (ha0 : zkd a0 = 1) : zB P 214 9 [(2, ((a0 : Nat) : Int)), (0, a1), (0, a2), (0, a3)] [] d = (if wr 18 ≤ wr a3 then zB P 214 4 [(2, ((a0 : Nat) : Int)), (0, a1), (0, (a2 + 1)), (0, a3)] [] d else ((MM P 171 [(2, ((a0 : Nat) : Int)), (0, a2), (0, a3)] d).bind fun q1 => (if wr q1.1 = 0 then zB P 214 9 [(2, ((a0 : Nat) : Int)), (0, a1), (0, a2), (0, (a3 + 1))] [] q1.2 else zB P 214 9 [(2, ((a0 : Nat) : Int)), (0, (a1 + 1)), (0, a2), (0, (a3 + 1))] [] q1.2))) := by
  have hT := cT_214
  refine Eq.trans (x1 (h := 9) hT rfl rfl (by decide)) ?_
  refine Eq.trans (x0 (h := 10) hT rfl) ?_
  refine Eq.trans (x17_3 (h := 11) hT rfl) ?_
  refine xit (fun _ => ?_) (fun _ => ?_)
  · refine Eq.trans (x4 (ls' := [(2, ((a0 : Nat) : Int)), (0, a1), (0, (a2 + 1)), (0, a3)]) (h := 20) hT rfl rfl rfl) ?_
    refine Eq.trans (x18 (h := 21) hT rfl) ?_
    exact rfl
  · refine Eq.trans (x1 (h := 12) hT rfl rfl (by decide)) ?_
    refine Eq.trans (x1 (h := 13) hT rfl rfl (by decide)) ?_
    refine Eq.trans (x1 (h := 14) hT rfl rfl (by decide)) ?_
    refine Eq.trans (x31 (r := a0) (cl := 1) (as := [(0, a2), (0, a3)]) (st' := []) (h := 15) hT rfl sm_171 rfl ha0) ?_
    refine xbd (fun q1 => ?_)
    rw [rv_171]
    change zB P 214 16 [(2, ((a0 : Nat) : Int)), (0, a1), (0, a2), (0, a3)] [(0, q1.1)] q1.2 = _
    refine Eq.trans (x16_0 (h := 16) hT rfl) ?_
    refine xit (fun _ => ?_) (fun _ => ?_)
    · refine Eq.trans (x4 (ls' := [(2, ((a0 : Nat) : Int)), (0, a1), (0, a2), (0, (a3 + 1))]) (h := 18) hT rfl rfl rfl) ?_
      refine Eq.trans (x18 (h := 19) hT rfl) ?_
      exact rfl
    · refine Eq.trans (x4 (ls' := [(2, ((a0 : Nat) : Int)), (0, (a1 + 1)), (0, a2), (0, a3)]) (h := 17) hT rfl rfl rfl) ?_
      refine Eq.trans (x4 (ls' := [(2, ((a0 : Nat) : Int)), (0, (a1 + 1)), (0, a2), (0, (a3 + 1))]) (h := 18) hT rfl rfl rfl) ?_
      refine Eq.trans (x18 (h := 19) hT rfl) ?_
      exact rfl
/-! WordLinks$Linker.chosenPlace(LWordLinks$State;III)I -/
set_option maxRecDepth 100000 in
theorem e_215 {P : zP} {d : zD P} {a0 : Nat} {a1 : Nat} {a2 : Int} {a3 : Int} {a4 : Int} (ha0 : zkd a0 = 1) (ha1 : zkd a1 = 9) : MM P 215 [(2, ((a0 : Nat) : Int)), (2, ((a1 : Nat) : Int)), (0, a2), (0, a3), (0, a4)] d = zB P 215 8 [(2, ((a0 : Nat) : Int)), (2, ((a1 : Nat) : Int)), (0, a2), (0, a3), (0, a4), (0, (-1)), (1, 0), (3, 0), (0, 0), (0, 0), (3, 0), (3, 0), (3, 0)] [] d := by
  have hT := cT_215
  refine Eq.trans (MM_def sm_215 (Nat.le_of_ble_eq_true rfl)) ?_
  change zB P 215 0 [(2, ((a0 : Nat) : Int)), (2, ((a1 : Nat) : Int)), (0, a2), (0, a3), (0, a4), (3, 0), (3, 0), (3, 0), (3, 0), (3, 0), (3, 0), (3, 0), (3, 0)] [] d = _
  refine Eq.trans (x0 (h := 0) hT rfl) ?_
  refine Eq.trans (x2 (ls' := [(2, ((a0 : Nat) : Int)), (2, ((a1 : Nat) : Int)), (0, a2), (0, a3), (0, a4), (0, (-1)), (3, 0), (3, 0), (3, 0), (3, 0), (3, 0), (3, 0), (3, 0)]) (h := 1) hT rfl (Nat.le_of_ble_eq_true rfl) rfl) ?_
  refine Eq.trans (x0 (h := 2) hT rfl) ?_
  refine Eq.trans (x3 (ls' := [(2, ((a0 : Nat) : Int)), (2, ((a1 : Nat) : Int)), (0, a2), (0, a3), (0, a4), (0, (-1)), (1, 0), (3, 0), (3, 0), (3, 0), (3, 0), (3, 0), (3, 0)]) (h := 3) hT rfl (Nat.le_of_ble_eq_true rfl) rfl) ?_
  refine Eq.trans (x0 (h := 4) hT rfl) ?_
  refine Eq.trans (x2 (ls' := [(2, ((a0 : Nat) : Int)), (2, ((a1 : Nat) : Int)), (0, a2), (0, a3), (0, a4), (0, (-1)), (1, 0), (3, 0), (0, 0), (3, 0), (3, 0), (3, 0), (3, 0)]) (h := 5) hT rfl (Nat.le_of_ble_eq_true rfl) rfl) ?_
  refine Eq.trans (x0 (h := 6) hT rfl) ?_
  refine Eq.trans (x2 (ls' := [(2, ((a0 : Nat) : Int)), (2, ((a1 : Nat) : Int)), (0, a2), (0, a3), (0, a4), (0, (-1)), (1, 0), (3, 0), (0, 0), (0, 0), (3, 0), (3, 0), (3, 0)]) (h := 7) hT rfl (Nat.le_of_ble_eq_true rfl) rfl) ?_
  exact rfl
set_option maxRecDepth 100000 in
theorem q_215_8 {P : zP} {d : zD P} {g0 : zV} {a1 : Nat} {a2 : Int} {a3 : Int} {a4 : Int} {a5 : Int} {a6 : Int} {g7 : zV} {a8 : Int} {a9 : Int} {g10 : zV} {g11 : zV} {g12 : zV} (ha1 : zkd a1 = 9) : zB P 215 8 [g0, (2, ((a1 : Nat) : Int)), (0, a2), (0, a3), (0, a4), (0, a5), (1, a6), g7, (0, a8), (0, a9), g10, g11, g12] [] d = (if zin a2 2 then (if zin a3 24 then (if wr ((d.m ((((a1 + 1) + 8) + (1 + zix a2))) (zix a3))) ≤ wr a9 then (if wr a5 = wr ((-1)) then some ((-1), d) else ((MM P 118 [(2, ((a1 : Nat) : Int)), (0, a2), (0, a3), (0, a5), (0, a4)] d).bind fun q3 => (if wr ((q3.2.m a1 7)) ≤ wr q3.1 then some (a5, q3.2) else some ((-1), q3.2)))) else ((MM P 189 [(2, ((a1 : Nat) : Int)), (0, a2), (0, a3), (0, a9), (0, a4)] d).bind fun q4 => ((MM P 33 [(2, ((a1 : Nat) : Int)), (0, a2), (0, a3), (0, a9), (0, a4)] q4.2).bind fun q5 => (if wr a5 = wr ((-1)) then zB P 215 8 [g0, (2, ((a1 : Nat) : Int)), (0, a2), (0, a3), (0, a4), (0, a9), (1, q4.1), (3, 0), (0, q5.1), (0, (a9 + 1)), (1, q4.1), (3, 0), (0, q5.1)] [] q5.2 else (if wrl a6 < wrl q4.1 then zB P 215 8 [g0, (2, ((a1 : Nat) : Int)), (0, a2), (0, a3), (0, a4), (0, a9), (1, q4.1), (3, 0), (0, q5.1), (0, (a9 + 1)), (1, q4.1), (3, 0), (0, q5.1)] [] q5.2 else (if wrl q4.1 ≠ wrl a6 then zB P 215 8 [g0, (2, ((a1 : Nat) : Int)), (0, a2), (0, a3), (0, a4), (0, a5), (1, a6), g7, (0, a8), (0, (a9 + 1)), (1, q4.1), (3, 0), (0, q5.1)] [] q5.2 else (if wr a8 ≤ wr q5.1 then zB P 215 8 [g0, (2, ((a1 : Nat) : Int)), (0, a2), (0, a3), (0, a4), (0, a5), (1, a6), g7, (0, a8), (0, (a9 + 1)), (1, q4.1), (3, 0), (0, q5.1)] [] q5.2 else zB P 215 8 [g0, (2, ((a1 : Nat) : Int)), (0, a2), (0, a3), (0, a4), (0, a9), (1, q4.1), (3, 0), (0, q5.1), (0, (a9 + 1)), (1, q4.1), (3, 0), (0, q5.1)] [] q5.2))))))) else none) else none) := by
  have hT := cT_215
  refine Eq.trans (x1 (h := 8) hT rfl rfl (by decide)) ?_
  refine Eq.trans (x1 (h := 9) hT rfl rfl (by decide)) ?_
  refine Eq.trans (x21r (r := a1) (cl := 9) (o := 1) (h := 10) hT rfl ha1 (by decide) rfl) ?_
  refine Eq.trans (x21r (r := (a1 + 1)) (cl := 0) (o := 8) (h := 11) hT rfl (kd_9_0 ha1) (by decide) rfl) ?_
  refine Eq.trans (x1 (h := 12) hT rfl rfl (by decide)) ?_
  refine Eq.trans (x24r (r := ((a1 + 1) + 8)) (n := 2) (h := 13) hT rfl (kd_0_3 (kd_9_0 ha1)) (ln_0_3 (kd_9_0 ha1)) (by decide)) ?_
  refine xig (fun hz1 => ?_)
  refine Eq.trans (x1 (h := 14) hT rfl rfl (by decide)) ?_
  refine Eq.trans (x24 (r := (((a1 + 1) + 8) + (1 + zix a2))) (n := 24) (h := 15) hT rfl (Or.inl (kq_0_3 (kd_9_0 ha1) (zix_lt hz1))) (lq_0_3 (kd_9_0 ha1) (zix_lt hz1))) ?_
  refine xig (fun hz2 => ?_)
  refine Eq.trans (x17_3 (h := 16) hT rfl) ?_
  refine xit (fun _ => ?_) (fun _ => ?_)
  · refine Eq.trans (x1 (h := 53) hT rfl rfl (by decide)) ?_
    refine Eq.trans (x0 (h := 54) hT rfl) ?_
    refine Eq.trans (x17_0 (h := 55) hT rfl) ?_
    refine xit (fun _ => ?_) (fun _ => ?_)
    · refine Eq.trans (x0 (h := 65) hT rfl) ?_
      exact x201 (h := 66) hT rfl
    · refine Eq.trans (x1 (h := 56) hT rfl rfl (by decide)) ?_
      refine Eq.trans (x1 (h := 57) hT rfl rfl (by decide)) ?_
      refine Eq.trans (x1 (h := 58) hT rfl rfl (by decide)) ?_
      refine Eq.trans (x1 (h := 59) hT rfl rfl (by decide)) ?_
      refine Eq.trans (x1 (h := 60) hT rfl rfl (by decide)) ?_
      refine Eq.trans (x31 (r := a1) (cl := 9) (as := [(0, a2), (0, a3), (0, a5), (0, a4)]) (st' := []) (h := 61) hT rfl sm_118 rfl ha1) ?_
      refine xbd (fun q3 => ?_)
      rw [rv_118]
      change zB P 215 62 [g0, (2, ((a1 : Nat) : Int)), (0, a2), (0, a3), (0, a4), (0, a5), (1, a6), g7, (0, a8), (0, a9), g10, g11, g12] [(0, q3.1)] q3.2 = _
      refine Eq.trans (x1 (h := 62) hT rfl rfl (by decide)) ?_
      refine Eq.trans (x21 (r := a1) (cl := 9) (h := 63) hT rfl ha1) ?_
      refine Eq.trans (x17_3 (h := 64) hT rfl) ?_
      refine xit (fun _ => ?_) (fun _ => ?_)
      · refine Eq.trans (x1 (h := 67) hT rfl rfl (by decide)) ?_
        exact x201 (h := 68) hT rfl
      · refine Eq.trans (x0 (h := 65) hT rfl) ?_
        exact x201 (h := 66) hT rfl
  · refine Eq.trans (x1 (h := 17) hT rfl rfl (by decide)) ?_
    refine Eq.trans (x1 (h := 18) hT rfl rfl (by decide)) ?_
    refine Eq.trans (x1 (h := 19) hT rfl rfl (by decide)) ?_
    refine Eq.trans (x1 (h := 20) hT rfl rfl (by decide)) ?_
    refine Eq.trans (x1 (h := 21) hT rfl rfl (by decide)) ?_
    refine Eq.trans (x31 (r := a1) (cl := 9) (as := [(0, a2), (0, a3), (0, a9), (0, a4)]) (st' := []) (h := 22) hT rfl sm_189 rfl ha1) ?_
    refine xbd (fun q4 => ?_)
    rw [rv_189]
    change zB P 215 23 [g0, (2, ((a1 : Nat) : Int)), (0, a2), (0, a3), (0, a4), (0, a5), (1, a6), g7, (0, a8), (0, a9), g10, g11, g12] [(1, q4.1)] q4.2 = _
    refine Eq.trans (x3 (ls' := [g0, (2, ((a1 : Nat) : Int)), (0, a2), (0, a3), (0, a4), (0, a5), (1, a6), g7, (0, a8), (0, a9), (1, q4.1), (3, 0), g12]) (h := 23) hT rfl (Nat.le_of_ble_eq_true rfl) rfl) ?_
    refine Eq.trans (x1 (h := 24) hT rfl rfl (by decide)) ?_
    refine Eq.trans (x1 (h := 25) hT rfl rfl (by decide)) ?_
    refine Eq.trans (x1 (h := 26) hT rfl rfl (by decide)) ?_
    refine Eq.trans (x1 (h := 27) hT rfl rfl (by decide)) ?_
    refine Eq.trans (x1 (h := 28) hT rfl rfl (by decide)) ?_
    refine Eq.trans (x31 (r := a1) (cl := 9) (as := [(0, a2), (0, a3), (0, a9), (0, a4)]) (st' := []) (h := 29) hT rfl sm_33 rfl ha1) ?_
    refine xbd (fun q5 => ?_)
    rw [rv_33]
    change zB P 215 30 [g0, (2, ((a1 : Nat) : Int)), (0, a2), (0, a3), (0, a4), (0, a5), (1, a6), g7, (0, a8), (0, a9), (1, q4.1), (3, 0), g12] [(0, q5.1)] q5.2 = _
    refine Eq.trans (x2 (ls' := [g0, (2, ((a1 : Nat) : Int)), (0, a2), (0, a3), (0, a4), (0, a5), (1, a6), g7, (0, a8), (0, a9), (1, q4.1), (3, 0), (0, q5.1)]) (h := 30) hT rfl (Nat.le_of_ble_eq_true rfl) rfl) ?_
    refine Eq.trans (x1 (h := 31) hT rfl rfl (by decide)) ?_
    refine Eq.trans (x0 (h := 32) hT rfl) ?_
    refine Eq.trans (x17_0 (h := 33) hT rfl) ?_
    refine xit (fun _ => ?_) (fun _ => ?_)
    · refine Eq.trans (x1 (h := 45) hT rfl rfl (by decide)) ?_
      refine Eq.trans (x2 (ls' := [g0, (2, ((a1 : Nat) : Int)), (0, a2), (0, a3), (0, a4), (0, a9), (1, a6), g7, (0, a8), (0, a9), (1, q4.1), (3, 0), (0, q5.1)]) (h := 46) hT rfl (Nat.le_of_ble_eq_true rfl) rfl) ?_
      refine Eq.trans (x1 (h := 47) hT rfl rfl (by decide)) ?_
      refine Eq.trans (x3 (ls' := [g0, (2, ((a1 : Nat) : Int)), (0, a2), (0, a3), (0, a4), (0, a9), (1, q4.1), (3, 0), (0, a8), (0, a9), (1, q4.1), (3, 0), (0, q5.1)]) (h := 48) hT rfl (Nat.le_of_ble_eq_true rfl) rfl) ?_
      refine Eq.trans (x1 (h := 49) hT rfl rfl (by decide)) ?_
      refine Eq.trans (x2 (ls' := [g0, (2, ((a1 : Nat) : Int)), (0, a2), (0, a3), (0, a4), (0, a9), (1, q4.1), (3, 0), (0, q5.1), (0, a9), (1, q4.1), (3, 0), (0, q5.1)]) (h := 50) hT rfl (Nat.le_of_ble_eq_true rfl) rfl) ?_
      refine Eq.trans (x4 (ls' := [g0, (2, ((a1 : Nat) : Int)), (0, a2), (0, a3), (0, a4), (0, a9), (1, q4.1), (3, 0), (0, q5.1), (0, (a9 + 1)), (1, q4.1), (3, 0), (0, q5.1)]) (h := 51) hT rfl rfl rfl) ?_
      refine Eq.trans (x18 (h := 52) hT rfl) ?_
      exact rfl
    · refine Eq.trans (x1 (h := 34) hT rfl rfl (by decide)) ?_
      refine Eq.trans (x1 (h := 35) hT rfl rfl (by decide)) ?_
      refine Eq.trans (x116_4 (h := 36) hT rfl rfl) ?_
      refine xit (fun _ => ?_) (fun _ => ?_)
      · refine Eq.trans (x1 (h := 45) hT rfl rfl (by decide)) ?_
        refine Eq.trans (x2 (ls' := [g0, (2, ((a1 : Nat) : Int)), (0, a2), (0, a3), (0, a4), (0, a9), (1, a6), g7, (0, a8), (0, a9), (1, q4.1), (3, 0), (0, q5.1)]) (h := 46) hT rfl (Nat.le_of_ble_eq_true rfl) rfl) ?_
        refine Eq.trans (x1 (h := 47) hT rfl rfl (by decide)) ?_
        refine Eq.trans (x3 (ls' := [g0, (2, ((a1 : Nat) : Int)), (0, a2), (0, a3), (0, a4), (0, a9), (1, q4.1), (3, 0), (0, a8), (0, a9), (1, q4.1), (3, 0), (0, q5.1)]) (h := 48) hT rfl (Nat.le_of_ble_eq_true rfl) rfl) ?_
        refine Eq.trans (x1 (h := 49) hT rfl rfl (by decide)) ?_
        refine Eq.trans (x2 (ls' := [g0, (2, ((a1 : Nat) : Int)), (0, a2), (0, a3), (0, a4), (0, a9), (1, q4.1), (3, 0), (0, q5.1), (0, a9), (1, q4.1), (3, 0), (0, q5.1)]) (h := 50) hT rfl (Nat.le_of_ble_eq_true rfl) rfl) ?_
        refine Eq.trans (x4 (ls' := [g0, (2, ((a1 : Nat) : Int)), (0, a2), (0, a3), (0, a4), (0, a9), (1, q4.1), (3, 0), (0, q5.1), (0, (a9 + 1)), (1, q4.1), (3, 0), (0, q5.1)]) (h := 51) hT rfl rfl rfl) ?_
        refine Eq.trans (x18 (h := 52) hT rfl) ?_
        exact rfl
      · refine Eq.trans (x1 (h := 38) hT rfl rfl (by decide)) ?_
        refine Eq.trans (x1 (h := 39) hT rfl rfl (by decide)) ?_
        refine Eq.trans (x116_1 (h := 40) hT rfl rfl) ?_
        refine xit (fun _ => ?_) (fun _ => ?_)
        · refine Eq.trans (x4 (ls' := [g0, (2, ((a1 : Nat) : Int)), (0, a2), (0, a3), (0, a4), (0, a5), (1, a6), g7, (0, a8), (0, (a9 + 1)), (1, q4.1), (3, 0), (0, q5.1)]) (h := 51) hT rfl rfl rfl) ?_
          refine Eq.trans (x18 (h := 52) hT rfl) ?_
          exact rfl
        · refine Eq.trans (x1 (h := 42) hT rfl rfl (by decide)) ?_
          refine Eq.trans (x1 (h := 43) hT rfl rfl (by decide)) ?_
          refine Eq.trans (x17_3 (h := 44) hT rfl) ?_
          refine xit (fun _ => ?_) (fun _ => ?_)
          · refine Eq.trans (x4 (ls' := [g0, (2, ((a1 : Nat) : Int)), (0, a2), (0, a3), (0, a4), (0, a5), (1, a6), g7, (0, a8), (0, (a9 + 1)), (1, q4.1), (3, 0), (0, q5.1)]) (h := 51) hT rfl rfl rfl) ?_
            refine Eq.trans (x18 (h := 52) hT rfl) ?_
            exact rfl
          · refine Eq.trans (x1 (h := 45) hT rfl rfl (by decide)) ?_
            refine Eq.trans (x2 (ls' := [g0, (2, ((a1 : Nat) : Int)), (0, a2), (0, a3), (0, a4), (0, a9), (1, a6), g7, (0, a8), (0, a9), (1, q4.1), (3, 0), (0, q5.1)]) (h := 46) hT rfl (Nat.le_of_ble_eq_true rfl) rfl) ?_
            refine Eq.trans (x1 (h := 47) hT rfl rfl (by decide)) ?_
            refine Eq.trans (x3 (ls' := [g0, (2, ((a1 : Nat) : Int)), (0, a2), (0, a3), (0, a4), (0, a9), (1, q4.1), (3, 0), (0, a8), (0, a9), (1, q4.1), (3, 0), (0, q5.1)]) (h := 48) hT rfl (Nat.le_of_ble_eq_true rfl) rfl) ?_
            refine Eq.trans (x1 (h := 49) hT rfl rfl (by decide)) ?_
            refine Eq.trans (x2 (ls' := [g0, (2, ((a1 : Nat) : Int)), (0, a2), (0, a3), (0, a4), (0, a9), (1, q4.1), (3, 0), (0, q5.1), (0, a9), (1, q4.1), (3, 0), (0, q5.1)]) (h := 50) hT rfl (Nat.le_of_ble_eq_true rfl) rfl) ?_
            refine Eq.trans (x4 (ls' := [g0, (2, ((a1 : Nat) : Int)), (0, a2), (0, a3), (0, a4), (0, a9), (1, q4.1), (3, 0), (0, q5.1), (0, (a9 + 1)), (1, q4.1), (3, 0), (0, q5.1)]) (h := 51) hT rfl rfl rfl) ?_
            refine Eq.trans (x18 (h := 52) hT rfl) ?_
            exact rfl
/-! WordLinks$Linker.grow()V -/
set_option maxRecDepth 100000 in
theorem e_216 {P : zP} {d : zD P} {a0 : Nat} (ha0 : zkd a0 = 1) : MM P 216 [(2, ((a0 : Nat) : Int))] d = zB P 216 4 [(2, ((a0 : Nat) : Int)), (0, 1), (0, 0)] [] d := by
  have hT := cT_216
  refine Eq.trans (MM_def sm_216 (Nat.le_of_ble_eq_true rfl)) ?_
  change zB P 216 0 [(2, ((a0 : Nat) : Int)), (3, 0), (3, 0)] [] d = _
  refine Eq.trans (x0 (h := 0) hT rfl) ?_
  refine Eq.trans (x2 (ls' := [(2, ((a0 : Nat) : Int)), (0, 1), (3, 0)]) (h := 1) hT rfl (Nat.le_of_ble_eq_true rfl) rfl) ?_
  refine Eq.trans (x0 (h := 2) hT rfl) ?_
  refine Eq.trans (x2 (ls' := [(2, ((a0 : Nat) : Int)), (0, 1), (0, 0)]) (h := 3) hT rfl (Nat.le_of_ble_eq_true rfl) rfl) ?_
  exact rfl
set_option maxRecDepth 100000 in
theorem q_216_4 {P : zP} {d : zD P} {a0 : Nat} {a1 : Int} {a2 : Int} (ha0 : zkd a0 = 1) : zB P 216 4 [(2, ((a0 : Nat) : Int)), (0, a1), (0, a2)] [] d = (if wr a1 = 0 then some (0, d) else (if wr 36 < wr a2 then some (0, d) else ((MM P 170 [(2, ((a0 : Nat) : Int))] d).bind fun q1 => zB P 216 4 [(2, ((a0 : Nat) : Int)), (0, q1.1), (0, (a2 + 1))] [] q1.2))) := by
  have hT := cT_216
  refine Eq.trans (x1 (h := 4) hT rfl rfl (by decide)) ?_
  refine Eq.trans (x16_0 (h := 5) hT rfl) ?_
  refine xit (fun _ => ?_) (fun _ => ?_)
  · exact x20 (h := 14) hT rfl
  · refine Eq.trans (x1 (h := 6) hT rfl rfl (by decide)) ?_
    refine Eq.trans (x0 (h := 7) hT rfl) ?_
    refine Eq.trans (x17_4 (h := 8) hT rfl) ?_
    refine xit (fun _ => ?_) (fun _ => ?_)
    · exact x20 (h := 14) hT rfl
    · refine Eq.trans (x1 (h := 9) hT rfl rfl (by decide)) ?_
      refine Eq.trans (x31 (r := a0) (cl := 1) (as := []) (st' := []) (h := 10) hT rfl sm_170 rfl ha0) ?_
      refine xbd (fun q1 => ?_)
      rw [rv_170]
      change zB P 216 11 [(2, ((a0 : Nat) : Int)), (0, a1), (0, a2)] [(0, q1.1)] q1.2 = _
      refine Eq.trans (x2 (ls' := [(2, ((a0 : Nat) : Int)), (0, q1.1), (0, a2)]) (h := 11) hT rfl (Nat.le_of_ble_eq_true rfl) rfl) ?_
      refine Eq.trans (x4 (ls' := [(2, ((a0 : Nat) : Int)), (0, q1.1), (0, (a2 + 1))]) (h := 12) hT rfl rfl rfl) ?_
      refine Eq.trans (x18 (h := 13) hT rfl) ?_
      exact rfl
/-! WordLinks$Matcher.addLetters(LWordLinks$Rows;I[I)V -/
set_option maxRecDepth 100000 in
theorem e_217 {P : zP} {d : zD P} {a0 : Nat} {a1 : Nat} {a2 : Int} {a3 : Nat} {na3 : Nat} (ha0 : zkd a0 = 2) (ha1 : zkd a1 = 7) (ha3 : zkd a3 = 20) (la3 : zln P a3 = na3) : MM P 217 [(2, ((a0 : Nat) : Int)), (2, ((a1 : Nat) : Int)), (0, a2), (2, ((a3 : Nat) : Int))] d = (if zin 0 na3 then zB P 217 6 [(2, ((a0 : Nat) : Int)), (2, ((a1 : Nat) : Int)), (0, a2), (2, ((a3 : Nat) : Int)), (0, 0)] [] ((d.up a3 (zix 0) 0)) else none) := by
  have hT := cT_217
  refine Eq.trans (MM_def sm_217 (Nat.le_of_ble_eq_true rfl)) ?_
  change zB P 217 0 [(2, ((a0 : Nat) : Int)), (2, ((a1 : Nat) : Int)), (0, a2), (2, ((a3 : Nat) : Int)), (3, 0)] [] d = _
  refine Eq.trans (x1 (h := 0) hT rfl rfl (by decide)) ?_
  refine Eq.trans (x0 (h := 1) hT rfl) ?_
  refine Eq.trans (x0 (h := 2) hT rfl) ?_
  refine Eq.trans (x25a (r := a3) (n := na3) (h := 3) hT rfl ha3 la3 (by decide) rfl) ?_
  refine xig (fun hz1 => ?_)
  refine Eq.trans (x0 (h := 4) hT rfl) ?_
  refine Eq.trans (x2 (ls' := [(2, ((a0 : Nat) : Int)), (2, ((a1 : Nat) : Int)), (0, a2), (2, ((a3 : Nat) : Int)), (0, 0)]) (h := 5) hT rfl (Nat.le_of_ble_eq_true rfl) rfl) ?_
  exact rfl
set_option maxRecDepth 100000 in
theorem q_217_6 {P : zP} {d : zD P} {g0 : zV} {a1 : Nat} {a2 : Int} {a3 : Nat} {na3 : Nat} {a4 : Int} (ha1 : zkd a1 = 7) (ha3 : zkd a3 = 20) (la3 : zln P a3 = na3) : zB P 217 6 [g0, (2, ((a1 : Nat) : Int)), (0, a2), (2, ((a3 : Nat) : Int)), (0, a4)] [] d = (if wr a2 ≤ wr a4 then some (0, d) else (if wr 8 ≤ wr a4 then some (0, d) else (if zin a4 na3 then ((MM P 182 [(2, ((a1 : Nat) : Int)), (0, a4)] d).bind fun q3 => (if zin ((a4 + 1)) na3 then zB P 217 6 [g0, (2, ((a1 : Nat) : Int)), (0, a2), (2, ((a3 : Nat) : Int)), (0, (a4 + 1))] [] ((q3.2.up a3 (zix ((a4 + 1))) (((d.m a3 (zix a4)) + q3.1)))) else none)) else none))) := by
  have hT := cT_217
  refine Eq.trans (x1 (h := 6) hT rfl rfl (by decide)) ?_
  refine Eq.trans (x1 (h := 7) hT rfl rfl (by decide)) ?_
  refine Eq.trans (x17_3 (h := 8) hT rfl) ?_
  refine xit (fun _ => ?_) (fun _ => ?_)
  · exact x20 (h := 26) hT rfl
  · refine Eq.trans (x1 (h := 9) hT rfl rfl (by decide)) ?_
    refine Eq.trans (x0 (h := 10) hT rfl) ?_
    refine Eq.trans (x17_3 (h := 11) hT rfl) ?_
    refine xit (fun _ => ?_) (fun _ => ?_)
    · exact x20 (h := 26) hT rfl
    · refine Eq.trans (x1 (h := 12) hT rfl rfl (by decide)) ?_
      refine Eq.trans (x1 (h := 13) hT rfl rfl (by decide)) ?_
      refine Eq.trans (x0 (h := 14) hT rfl) ?_
      refine Eq.trans (x5_0 (h := 15) hT rfl) ?_
      refine Eq.trans (x1 (h := 16) hT rfl rfl (by decide)) ?_
      refine Eq.trans (x1 (h := 17) hT rfl rfl (by decide)) ?_
      refine Eq.trans (x24 (r := a3) (n := na3) (h := 18) hT rfl (Or.inl ha3) la3) ?_
      refine xig (fun hz2 => ?_)
      refine Eq.trans (x1 (h := 19) hT rfl rfl (by decide)) ?_
      refine Eq.trans (x1 (h := 20) hT rfl rfl (by decide)) ?_
      refine Eq.trans (x31 (r := a1) (cl := 7) (as := [(0, a4)]) (st' := [(0, (d.m a3 (zix a4))), (0, (a4 + 1)), (2, ((a3 : Nat) : Int))]) (h := 21) hT rfl sm_182 rfl ha1) ?_
      refine xbd (fun q3 => ?_)
      rw [rv_182]
      change zB P 217 22 [g0, (2, ((a1 : Nat) : Int)), (0, a2), (2, ((a3 : Nat) : Int)), (0, a4)] [(0, q3.1), (0, (d.m a3 (zix a4))), (0, (a4 + 1)), (2, ((a3 : Nat) : Int))] q3.2 = _
      refine Eq.trans (x5_0 (h := 22) hT rfl) ?_
      refine Eq.trans (x25a (r := a3) (n := na3) (h := 23) hT rfl ha3 la3 (by decide) rfl) ?_
      refine xig (fun hz4 => ?_)
      refine Eq.trans (x4 (ls' := [g0, (2, ((a1 : Nat) : Int)), (0, a2), (2, ((a3 : Nat) : Int)), (0, (a4 + 1))]) (h := 24) hT rfl rfl rfl) ?_
      refine Eq.trans (x18 (h := 25) hT rfl) ?_
      exact rfl
/-! WordLinks$Matcher.join(LWordLinks$Rows;LWordLinks$Rows;LWordLinks$Rows;LWordLinks$Rows;)Z -/
set_option maxRecDepth 100000 in
theorem e_218 {P : zP} {d : zD P} {a0 : Nat} {a1 : Nat} {a2 : Nat} {a3 : Nat} {a4 : Nat} (ha0 : zkd a0 = 2) (ha1 : zkd a1 = 7) (ha2 : zkd a2 = 7) (ha3 : zkd a3 = 7) (ha4 : zkd a4 = 7) : MM P 218 [(2, ((a0 : Nat) : Int)), (2, ((a1 : Nat) : Int)), (2, ((a2 : Nat) : Int)), (2, ((a3 : Nat) : Int)), (2, ((a4 : Nat) : Int))] d = ((MM P 24 [(2, ((a3 : Nat) : Int))] d).bind fun q1 => ((MM P 24 [(2, ((a4 : Nat) : Int))] q1.2).bind fun q2 => zB P 218 10 [(2, ((a0 : Nat) : Int)), (2, ((a1 : Nat) : Int)), (2, ((a2 : Nat) : Int)), (2, ((a3 : Nat) : Int)), (2, ((a4 : Nat) : Int)), (0, 0), (0, 0), (0, 0), (3, 0), (3, 0)] [] q2.2)) := by
  have hT := cT_218
  refine Eq.trans (MM_def sm_218 (Nat.le_of_ble_eq_true rfl)) ?_
  change zB P 218 0 [(2, ((a0 : Nat) : Int)), (2, ((a1 : Nat) : Int)), (2, ((a2 : Nat) : Int)), (2, ((a3 : Nat) : Int)), (2, ((a4 : Nat) : Int)), (3, 0), (3, 0), (3, 0), (3, 0), (3, 0)] [] d = _
  refine Eq.trans (x1 (h := 0) hT rfl rfl (by decide)) ?_
  refine Eq.trans (x31 (r := a3) (cl := 7) (as := []) (st' := []) (h := 1) hT rfl sm_24 rfl ha3) ?_
  refine xbd (fun q1 => ?_)
  rw [rv_24]
  change zB P 218 2 [(2, ((a0 : Nat) : Int)), (2, ((a1 : Nat) : Int)), (2, ((a2 : Nat) : Int)), (2, ((a3 : Nat) : Int)), (2, ((a4 : Nat) : Int)), (3, 0), (3, 0), (3, 0), (3, 0), (3, 0)] [] q1.2 = _
  refine Eq.trans (x1 (h := 2) hT rfl rfl (by decide)) ?_
  refine Eq.trans (x31 (r := a4) (cl := 7) (as := []) (st' := []) (h := 3) hT rfl sm_24 rfl ha4) ?_
  refine xbd (fun q2 => ?_)
  rw [rv_24]
  change zB P 218 4 [(2, ((a0 : Nat) : Int)), (2, ((a1 : Nat) : Int)), (2, ((a2 : Nat) : Int)), (2, ((a3 : Nat) : Int)), (2, ((a4 : Nat) : Int)), (3, 0), (3, 0), (3, 0), (3, 0), (3, 0)] [] q2.2 = _
  refine Eq.trans (x0 (h := 4) hT rfl) ?_
  refine Eq.trans (x2 (ls' := [(2, ((a0 : Nat) : Int)), (2, ((a1 : Nat) : Int)), (2, ((a2 : Nat) : Int)), (2, ((a3 : Nat) : Int)), (2, ((a4 : Nat) : Int)), (0, 0), (3, 0), (3, 0), (3, 0), (3, 0)]) (h := 5) hT rfl (Nat.le_of_ble_eq_true rfl) rfl) ?_
  refine Eq.trans (x0 (h := 6) hT rfl) ?_
  refine Eq.trans (x2 (ls' := [(2, ((a0 : Nat) : Int)), (2, ((a1 : Nat) : Int)), (2, ((a2 : Nat) : Int)), (2, ((a3 : Nat) : Int)), (2, ((a4 : Nat) : Int)), (0, 0), (0, 0), (3, 0), (3, 0), (3, 0)]) (h := 7) hT rfl (Nat.le_of_ble_eq_true rfl) rfl) ?_
  refine Eq.trans (x0 (h := 8) hT rfl) ?_
  refine Eq.trans (x2 (ls' := [(2, ((a0 : Nat) : Int)), (2, ((a1 : Nat) : Int)), (2, ((a2 : Nat) : Int)), (2, ((a3 : Nat) : Int)), (2, ((a4 : Nat) : Int)), (0, 0), (0, 0), (0, 0), (3, 0), (3, 0)]) (h := 9) hT rfl (Nat.le_of_ble_eq_true rfl) rfl) ?_
  exact rfl
set_option maxRecDepth 100000 in
theorem q_218_10 {P : zP} {d : zD P} {a0 : Nat} {a1 : Nat} {a2 : Nat} {a3 : Nat} {a4 : Nat} {a5 : Int} {a6 : Int} {a7 : Int} {g8 : zV} {g9 : zV} (ha0 : zkd a0 = 2) (ha1 : zkd a1 = 7) (ha2 : zkd a2 = 7) (ha3 : zkd a3 = 7) (ha4 : zkd a4 = 7) : zB P 218 10 [(2, ((a0 : Nat) : Int)), (2, ((a1 : Nat) : Int)), (2, ((a2 : Nat) : Int)), (2, ((a3 : Nat) : Int)), (2, ((a4 : Nat) : Int)), (0, a5), (0, a6), (0, a7), g8, g9] [] d = (if wr ((d.m a0 6)) ≤ wr a7 then some (1, d) else (if zin a7 16 then (if wr ((d.m ((a0 + 2)) (zix a7))) = wr 1 then (if zin ((d.m ((a0 + 2)) (zix a7))) 5 then (if zin ((d.m ((a0 + 2)) (zix a7))) 5 then zB P 218 10 [(2, ((a0 : Nat) : Int)), (2, ((a1 : Nat) : Int)), (2, ((a2 : Nat) : Int)), (2, ((a3 : Nat) : Int)), (2, ((a4 : Nat) : Int)), (0, (a5 + (d.m 1 (zix ((d.m ((a0 + 2)) (zix a7))))))), (0, (a6 + (d.m 2 (zix ((d.m ((a0 + 2)) (zix a7))))))), (0, (a7 + 1)), (0, (d.m ((a0 + 2)) (zix a7))), g9] [] d else none) else none) else (if wr ((d.m ((a0 + 2)) (zix a7))) = wr 2 then (if zin ((d.m ((a0 + 2)) (zix a7))) 5 then (if zin ((d.m ((a0 + 2)) (zix a7))) 5 then zB P 218 10 [(2, ((a0 : Nat) : Int)), (2, ((a1 : Nat) : Int)), (2, ((a2 : Nat) : Int)), (2, ((a3 : Nat) : Int)), (2, ((a4 : Nat) : Int)), (0, (a5 + (d.m 1 (zix ((d.m ((a0 + 2)) (zix a7))))))), (0, (a6 + (d.m 2 (zix ((d.m ((a0 + 2)) (zix a7))))))), (0, (a7 + 1)), (0, (d.m ((a0 + 2)) (zix a7))), g9] [] d else none) else none) else (if zin ((d.m ((a0 + 2)) (zix a7))) 5 then ((MM P 174 [(2, ((a0 : Nat) : Int)), (2, ((a1 : Nat) : Int)), (0, a5), (0, (d.m 1 (zix ((d.m ((a0 + 2)) (zix a7)))))), (2, ((a3 : Nat) : Int))] d).bind fun q9 => (if wr q9.1 = 0 then (if wr 0 ≠ 0 then (if zin ((d.m ((a0 + 2)) (zix a7))) 5 then (if zin ((d.m ((a0 + 2)) (zix a7))) 5 then zB P 218 10 [(2, ((a0 : Nat) : Int)), (2, ((a1 : Nat) : Int)), (2, ((a2 : Nat) : Int)), (2, ((a3 : Nat) : Int)), (2, ((a4 : Nat) : Int)), (0, (a5 + (q9.2.m 1 (zix ((d.m ((a0 + 2)) (zix a7))))))), (0, (a6 + (q9.2.m 2 (zix ((d.m ((a0 + 2)) (zix a7))))))), (0, (a7 + 1)), (0, (d.m ((a0 + 2)) (zix a7))), (0, 0)] [] q9.2 else none) else none) else some (0, q9.2)) else (if zin ((d.m ((a0 + 2)) (zix a7))) 5 then ((MM P 174 [(2, ((a0 : Nat) : Int)), (2, ((a2 : Nat) : Int)), (0, a6), (0, (q9.2.m 2 (zix ((d.m ((a0 + 2)) (zix a7)))))), (2, ((a4 : Nat) : Int))] q9.2).bind fun q13 => (if wr q13.1 = 0 then (if wr 0 ≠ 0 then (if zin ((d.m ((a0 + 2)) (zix a7))) 5 then (if zin ((d.m ((a0 + 2)) (zix a7))) 5 then zB P 218 10 [(2, ((a0 : Nat) : Int)), (2, ((a1 : Nat) : Int)), (2, ((a2 : Nat) : Int)), (2, ((a3 : Nat) : Int)), (2, ((a4 : Nat) : Int)), (0, (a5 + (q13.2.m 1 (zix ((d.m ((a0 + 2)) (zix a7))))))), (0, (a6 + (q13.2.m 2 (zix ((d.m ((a0 + 2)) (zix a7))))))), (0, (a7 + 1)), (0, (d.m ((a0 + 2)) (zix a7))), (0, 0)] [] q13.2 else none) else none) else some (0, q13.2)) else (if wr 1 ≠ 0 then (if zin ((d.m ((a0 + 2)) (zix a7))) 5 then (if zin ((d.m ((a0 + 2)) (zix a7))) 5 then zB P 218 10 [(2, ((a0 : Nat) : Int)), (2, ((a1 : Nat) : Int)), (2, ((a2 : Nat) : Int)), (2, ((a3 : Nat) : Int)), (2, ((a4 : Nat) : Int)), (0, (a5 + (q13.2.m 1 (zix ((d.m ((a0 + 2)) (zix a7))))))), (0, (a6 + (q13.2.m 2 (zix ((d.m ((a0 + 2)) (zix a7))))))), (0, (a7 + 1)), (0, (d.m ((a0 + 2)) (zix a7))), (0, 1)] [] q13.2 else none) else none) else some (0, q13.2)))) else none))) else none))) else none)) := by
  have hT := cT_218
  refine Eq.trans (x1 (h := 10) hT rfl rfl (by decide)) ?_
  refine Eq.trans (x1 (h := 11) hT rfl rfl (by decide)) ?_
  refine Eq.trans (x21 (r := a0) (cl := 2) (h := 12) hT rfl ha0) ?_
  refine Eq.trans (x17_3 (h := 13) hT rfl) ?_
  refine xit (fun _ => ?_) (fun _ => ?_)
  · refine Eq.trans (x0 (h := 65) hT rfl) ?_
    exact x203c (h := 66) hT rfl (by decide)
  · refine Eq.trans (x1 (h := 14) hT rfl rfl (by decide)) ?_
    refine Eq.trans (x21r (r := a0) (cl := 2) (o := 2) (h := 15) hT rfl ha0 (by decide) rfl) ?_
    refine Eq.trans (x1 (h := 16) hT rfl rfl (by decide)) ?_
    refine Eq.trans (x24 (r := (a0 + 2)) (n := 16) (h := 17) hT rfl (Or.inl (kd_2_1 ha0)) (ln_2_1 ha0)) ?_
    refine xig (fun hz3 => ?_)
    refine Eq.trans (x2 (ls' := [(2, ((a0 : Nat) : Int)), (2, ((a1 : Nat) : Int)), (2, ((a2 : Nat) : Int)), (2, ((a3 : Nat) : Int)), (2, ((a4 : Nat) : Int)), (0, a5), (0, a6), (0, a7), (0, (d.m ((a0 + 2)) (zix a7))), g9]) (h := 18) hT rfl (Nat.le_of_ble_eq_true rfl) rfl) ?_
    refine Eq.trans (x1 (h := 19) hT rfl rfl (by decide)) ?_
    refine Eq.trans (x0 (h := 20) hT rfl) ?_
    refine Eq.trans (x17_0 (h := 21) hT rfl) ?_
    refine xit (fun _ => ?_) (fun _ => ?_)
    · refine Eq.trans (x1 (h := 51) hT rfl rfl (by decide)) ?_
      refine Eq.trans (x23 (h := 52) hT rfl) ?_
      refine Eq.trans (x1 (h := 53) hT rfl rfl (by decide)) ?_
      refine Eq.trans (x24 (r := 1) (n := 5) (h := 54) hT rfl (Or.inr ⟨(kd_s (by decide)), rfl⟩) (ln_s (by decide))) ?_
      refine xig (fun hz4 => ?_)
      refine Eq.trans (x5_0 (h := 55) hT rfl) ?_
      refine Eq.trans (x2 (ls' := [(2, ((a0 : Nat) : Int)), (2, ((a1 : Nat) : Int)), (2, ((a2 : Nat) : Int)), (2, ((a3 : Nat) : Int)), (2, ((a4 : Nat) : Int)), (0, (a5 + (d.m 1 (zix ((d.m ((a0 + 2)) (zix a7))))))), (0, a6), (0, a7), (0, (d.m ((a0 + 2)) (zix a7))), g9]) (h := 56) hT rfl (Nat.le_of_ble_eq_true rfl) rfl) ?_
      refine Eq.trans (x1 (h := 57) hT rfl rfl (by decide)) ?_
      refine Eq.trans (x23 (h := 58) hT rfl) ?_
      refine Eq.trans (x1 (h := 59) hT rfl rfl (by decide)) ?_
      refine Eq.trans (x24 (r := 2) (n := 5) (h := 60) hT rfl (Or.inr ⟨(kd_s (by decide)), rfl⟩) (ln_s (by decide))) ?_
      refine xig (fun hz5 => ?_)
      refine Eq.trans (x5_0 (h := 61) hT rfl) ?_
      refine Eq.trans (x2 (ls' := [(2, ((a0 : Nat) : Int)), (2, ((a1 : Nat) : Int)), (2, ((a2 : Nat) : Int)), (2, ((a3 : Nat) : Int)), (2, ((a4 : Nat) : Int)), (0, (a5 + (d.m 1 (zix ((d.m ((a0 + 2)) (zix a7))))))), (0, (a6 + (d.m 2 (zix ((d.m ((a0 + 2)) (zix a7))))))), (0, a7), (0, (d.m ((a0 + 2)) (zix a7))), g9]) (h := 62) hT rfl (Nat.le_of_ble_eq_true rfl) rfl) ?_
      refine Eq.trans (x4 (ls' := [(2, ((a0 : Nat) : Int)), (2, ((a1 : Nat) : Int)), (2, ((a2 : Nat) : Int)), (2, ((a3 : Nat) : Int)), (2, ((a4 : Nat) : Int)), (0, (a5 + (d.m 1 (zix ((d.m ((a0 + 2)) (zix a7))))))), (0, (a6 + (d.m 2 (zix ((d.m ((a0 + 2)) (zix a7))))))), (0, (a7 + 1)), (0, (d.m ((a0 + 2)) (zix a7))), g9]) (h := 63) hT rfl rfl rfl) ?_
      refine Eq.trans (x18 (h := 64) hT rfl) ?_
      exact rfl
    · refine Eq.trans (x1 (h := 22) hT rfl rfl (by decide)) ?_
      refine Eq.trans (x0 (h := 23) hT rfl) ?_
      refine Eq.trans (x17_0 (h := 24) hT rfl) ?_
      refine xit (fun _ => ?_) (fun _ => ?_)
      · refine Eq.trans (x1 (h := 51) hT rfl rfl (by decide)) ?_
        refine Eq.trans (x23 (h := 52) hT rfl) ?_
        refine Eq.trans (x1 (h := 53) hT rfl rfl (by decide)) ?_
        refine Eq.trans (x24 (r := 1) (n := 5) (h := 54) hT rfl (Or.inr ⟨(kd_s (by decide)), rfl⟩) (ln_s (by decide))) ?_
        refine xig (fun hz6 => ?_)
        refine Eq.trans (x5_0 (h := 55) hT rfl) ?_
        refine Eq.trans (x2 (ls' := [(2, ((a0 : Nat) : Int)), (2, ((a1 : Nat) : Int)), (2, ((a2 : Nat) : Int)), (2, ((a3 : Nat) : Int)), (2, ((a4 : Nat) : Int)), (0, (a5 + (d.m 1 (zix ((d.m ((a0 + 2)) (zix a7))))))), (0, a6), (0, a7), (0, (d.m ((a0 + 2)) (zix a7))), g9]) (h := 56) hT rfl (Nat.le_of_ble_eq_true rfl) rfl) ?_
        refine Eq.trans (x1 (h := 57) hT rfl rfl (by decide)) ?_
        refine Eq.trans (x23 (h := 58) hT rfl) ?_
        refine Eq.trans (x1 (h := 59) hT rfl rfl (by decide)) ?_
        refine Eq.trans (x24 (r := 2) (n := 5) (h := 60) hT rfl (Or.inr ⟨(kd_s (by decide)), rfl⟩) (ln_s (by decide))) ?_
        refine xig (fun hz7 => ?_)
        refine Eq.trans (x5_0 (h := 61) hT rfl) ?_
        refine Eq.trans (x2 (ls' := [(2, ((a0 : Nat) : Int)), (2, ((a1 : Nat) : Int)), (2, ((a2 : Nat) : Int)), (2, ((a3 : Nat) : Int)), (2, ((a4 : Nat) : Int)), (0, (a5 + (d.m 1 (zix ((d.m ((a0 + 2)) (zix a7))))))), (0, (a6 + (d.m 2 (zix ((d.m ((a0 + 2)) (zix a7))))))), (0, a7), (0, (d.m ((a0 + 2)) (zix a7))), g9]) (h := 62) hT rfl (Nat.le_of_ble_eq_true rfl) rfl) ?_
        refine Eq.trans (x4 (ls' := [(2, ((a0 : Nat) : Int)), (2, ((a1 : Nat) : Int)), (2, ((a2 : Nat) : Int)), (2, ((a3 : Nat) : Int)), (2, ((a4 : Nat) : Int)), (0, (a5 + (d.m 1 (zix ((d.m ((a0 + 2)) (zix a7))))))), (0, (a6 + (d.m 2 (zix ((d.m ((a0 + 2)) (zix a7))))))), (0, (a7 + 1)), (0, (d.m ((a0 + 2)) (zix a7))), g9]) (h := 63) hT rfl rfl rfl) ?_
        refine Eq.trans (x18 (h := 64) hT rfl) ?_
        exact rfl
      · refine Eq.trans (x1 (h := 25) hT rfl rfl (by decide)) ?_
        refine Eq.trans (x1 (h := 26) hT rfl rfl (by decide)) ?_
        refine Eq.trans (x1 (h := 27) hT rfl rfl (by decide)) ?_
        refine Eq.trans (x23 (h := 28) hT rfl) ?_
        refine Eq.trans (x1 (h := 29) hT rfl rfl (by decide)) ?_
        refine Eq.trans (x24 (r := 1) (n := 5) (h := 30) hT rfl (Or.inr ⟨(kd_s (by decide)), rfl⟩) (ln_s (by decide))) ?_
        refine xig (fun hz8 => ?_)
        refine Eq.trans (x1 (h := 31) hT rfl rfl (by decide)) ?_
        refine Eq.trans (x31 (r := a0) (cl := 2) (as := [(2, ((a1 : Nat) : Int)), (0, a5), (0, (d.m 1 (zix ((d.m ((a0 + 2)) (zix a7)))))), (2, ((a3 : Nat) : Int))]) (st' := []) (h := 32) hT rfl sm_174 rfl ha0) ?_
        refine xbd (fun q9 => ?_)
        rw [rv_174]
        change zB P 218 33 [(2, ((a0 : Nat) : Int)), (2, ((a1 : Nat) : Int)), (2, ((a2 : Nat) : Int)), (2, ((a3 : Nat) : Int)), (2, ((a4 : Nat) : Int)), (0, a5), (0, a6), (0, a7), (0, (d.m ((a0 + 2)) (zix a7))), g9] [(0, q9.1)] q9.2 = _
        refine Eq.trans (x16_0 (h := 33) hT rfl) ?_
        refine xit (fun _ => ?_) (fun _ => ?_)
        · refine Eq.trans (x0 (h := 45) hT rfl) ?_
          refine Eq.trans (x2 (ls' := [(2, ((a0 : Nat) : Int)), (2, ((a1 : Nat) : Int)), (2, ((a2 : Nat) : Int)), (2, ((a3 : Nat) : Int)), (2, ((a4 : Nat) : Int)), (0, a5), (0, a6), (0, a7), (0, (d.m ((a0 + 2)) (zix a7))), (0, 0)]) (h := 46) hT rfl (Nat.le_of_ble_eq_true rfl) rfl) ?_
          refine Eq.trans (x1 (h := 47) hT rfl rfl (by decide)) ?_
          refine Eq.trans (x16_1 (h := 48) hT rfl) ?_
          refine xit (fun _ => ?_) (fun _ => ?_)
          · refine Eq.trans (x1 (h := 51) hT rfl rfl (by decide)) ?_
            refine Eq.trans (x23 (h := 52) hT rfl) ?_
            refine Eq.trans (x1 (h := 53) hT rfl rfl (by decide)) ?_
            refine Eq.trans (x24 (r := 1) (n := 5) (h := 54) hT rfl (Or.inr ⟨(kd_s (by decide)), rfl⟩) (ln_s (by decide))) ?_
            refine xig (fun hz10 => ?_)
            refine Eq.trans (x5_0 (h := 55) hT rfl) ?_
            refine Eq.trans (x2 (ls' := [(2, ((a0 : Nat) : Int)), (2, ((a1 : Nat) : Int)), (2, ((a2 : Nat) : Int)), (2, ((a3 : Nat) : Int)), (2, ((a4 : Nat) : Int)), (0, (a5 + (q9.2.m 1 (zix ((d.m ((a0 + 2)) (zix a7))))))), (0, a6), (0, a7), (0, (d.m ((a0 + 2)) (zix a7))), (0, 0)]) (h := 56) hT rfl (Nat.le_of_ble_eq_true rfl) rfl) ?_
            refine Eq.trans (x1 (h := 57) hT rfl rfl (by decide)) ?_
            refine Eq.trans (x23 (h := 58) hT rfl) ?_
            refine Eq.trans (x1 (h := 59) hT rfl rfl (by decide)) ?_
            refine Eq.trans (x24 (r := 2) (n := 5) (h := 60) hT rfl (Or.inr ⟨(kd_s (by decide)), rfl⟩) (ln_s (by decide))) ?_
            refine xig (fun hz11 => ?_)
            refine Eq.trans (x5_0 (h := 61) hT rfl) ?_
            refine Eq.trans (x2 (ls' := [(2, ((a0 : Nat) : Int)), (2, ((a1 : Nat) : Int)), (2, ((a2 : Nat) : Int)), (2, ((a3 : Nat) : Int)), (2, ((a4 : Nat) : Int)), (0, (a5 + (q9.2.m 1 (zix ((d.m ((a0 + 2)) (zix a7))))))), (0, (a6 + (q9.2.m 2 (zix ((d.m ((a0 + 2)) (zix a7))))))), (0, a7), (0, (d.m ((a0 + 2)) (zix a7))), (0, 0)]) (h := 62) hT rfl (Nat.le_of_ble_eq_true rfl) rfl) ?_
            refine Eq.trans (x4 (ls' := [(2, ((a0 : Nat) : Int)), (2, ((a1 : Nat) : Int)), (2, ((a2 : Nat) : Int)), (2, ((a3 : Nat) : Int)), (2, ((a4 : Nat) : Int)), (0, (a5 + (q9.2.m 1 (zix ((d.m ((a0 + 2)) (zix a7))))))), (0, (a6 + (q9.2.m 2 (zix ((d.m ((a0 + 2)) (zix a7))))))), (0, (a7 + 1)), (0, (d.m ((a0 + 2)) (zix a7))), (0, 0)]) (h := 63) hT rfl rfl rfl) ?_
            refine Eq.trans (x18 (h := 64) hT rfl) ?_
            exact rfl
          · refine Eq.trans (x0 (h := 49) hT rfl) ?_
            exact x203c (h := 50) hT rfl (by decide)
        · refine Eq.trans (x1 (h := 34) hT rfl rfl (by decide)) ?_
          refine Eq.trans (x1 (h := 35) hT rfl rfl (by decide)) ?_
          refine Eq.trans (x1 (h := 36) hT rfl rfl (by decide)) ?_
          refine Eq.trans (x23 (h := 37) hT rfl) ?_
          refine Eq.trans (x1 (h := 38) hT rfl rfl (by decide)) ?_
          refine Eq.trans (x24 (r := 2) (n := 5) (h := 39) hT rfl (Or.inr ⟨(kd_s (by decide)), rfl⟩) (ln_s (by decide))) ?_
          refine xig (fun hz12 => ?_)
          refine Eq.trans (x1 (h := 40) hT rfl rfl (by decide)) ?_
          refine Eq.trans (x31 (r := a0) (cl := 2) (as := [(2, ((a2 : Nat) : Int)), (0, a6), (0, (q9.2.m 2 (zix ((d.m ((a0 + 2)) (zix a7)))))), (2, ((a4 : Nat) : Int))]) (st' := []) (h := 41) hT rfl sm_174 rfl ha0) ?_
          refine xbd (fun q13 => ?_)
          rw [rv_174]
          change zB P 218 42 [(2, ((a0 : Nat) : Int)), (2, ((a1 : Nat) : Int)), (2, ((a2 : Nat) : Int)), (2, ((a3 : Nat) : Int)), (2, ((a4 : Nat) : Int)), (0, a5), (0, a6), (0, a7), (0, (d.m ((a0 + 2)) (zix a7))), g9] [(0, q13.1)] q13.2 = _
          refine Eq.trans (x16_0 (h := 42) hT rfl) ?_
          refine xit (fun _ => ?_) (fun _ => ?_)
          · refine Eq.trans (x0 (h := 45) hT rfl) ?_
            refine Eq.trans (x2 (ls' := [(2, ((a0 : Nat) : Int)), (2, ((a1 : Nat) : Int)), (2, ((a2 : Nat) : Int)), (2, ((a3 : Nat) : Int)), (2, ((a4 : Nat) : Int)), (0, a5), (0, a6), (0, a7), (0, (d.m ((a0 + 2)) (zix a7))), (0, 0)]) (h := 46) hT rfl (Nat.le_of_ble_eq_true rfl) rfl) ?_
            refine Eq.trans (x1 (h := 47) hT rfl rfl (by decide)) ?_
            refine Eq.trans (x16_1 (h := 48) hT rfl) ?_
            refine xit (fun _ => ?_) (fun _ => ?_)
            · refine Eq.trans (x1 (h := 51) hT rfl rfl (by decide)) ?_
              refine Eq.trans (x23 (h := 52) hT rfl) ?_
              refine Eq.trans (x1 (h := 53) hT rfl rfl (by decide)) ?_
              refine Eq.trans (x24 (r := 1) (n := 5) (h := 54) hT rfl (Or.inr ⟨(kd_s (by decide)), rfl⟩) (ln_s (by decide))) ?_
              refine xig (fun hz14 => ?_)
              refine Eq.trans (x5_0 (h := 55) hT rfl) ?_
              refine Eq.trans (x2 (ls' := [(2, ((a0 : Nat) : Int)), (2, ((a1 : Nat) : Int)), (2, ((a2 : Nat) : Int)), (2, ((a3 : Nat) : Int)), (2, ((a4 : Nat) : Int)), (0, (a5 + (q13.2.m 1 (zix ((d.m ((a0 + 2)) (zix a7))))))), (0, a6), (0, a7), (0, (d.m ((a0 + 2)) (zix a7))), (0, 0)]) (h := 56) hT rfl (Nat.le_of_ble_eq_true rfl) rfl) ?_
              refine Eq.trans (x1 (h := 57) hT rfl rfl (by decide)) ?_
              refine Eq.trans (x23 (h := 58) hT rfl) ?_
              refine Eq.trans (x1 (h := 59) hT rfl rfl (by decide)) ?_
              refine Eq.trans (x24 (r := 2) (n := 5) (h := 60) hT rfl (Or.inr ⟨(kd_s (by decide)), rfl⟩) (ln_s (by decide))) ?_
              refine xig (fun hz15 => ?_)
              refine Eq.trans (x5_0 (h := 61) hT rfl) ?_
              refine Eq.trans (x2 (ls' := [(2, ((a0 : Nat) : Int)), (2, ((a1 : Nat) : Int)), (2, ((a2 : Nat) : Int)), (2, ((a3 : Nat) : Int)), (2, ((a4 : Nat) : Int)), (0, (a5 + (q13.2.m 1 (zix ((d.m ((a0 + 2)) (zix a7))))))), (0, (a6 + (q13.2.m 2 (zix ((d.m ((a0 + 2)) (zix a7))))))), (0, a7), (0, (d.m ((a0 + 2)) (zix a7))), (0, 0)]) (h := 62) hT rfl (Nat.le_of_ble_eq_true rfl) rfl) ?_
              refine Eq.trans (x4 (ls' := [(2, ((a0 : Nat) : Int)), (2, ((a1 : Nat) : Int)), (2, ((a2 : Nat) : Int)), (2, ((a3 : Nat) : Int)), (2, ((a4 : Nat) : Int)), (0, (a5 + (q13.2.m 1 (zix ((d.m ((a0 + 2)) (zix a7))))))), (0, (a6 + (q13.2.m 2 (zix ((d.m ((a0 + 2)) (zix a7))))))), (0, (a7 + 1)), (0, (d.m ((a0 + 2)) (zix a7))), (0, 0)]) (h := 63) hT rfl rfl rfl) ?_
              refine Eq.trans (x18 (h := 64) hT rfl) ?_
              exact rfl
            · refine Eq.trans (x0 (h := 49) hT rfl) ?_
              exact x203c (h := 50) hT rfl (by decide)
          · refine Eq.trans (x0 (h := 43) hT rfl) ?_
            refine Eq.trans (x18 (h := 44) hT rfl) ?_
            refine Eq.trans (x2 (ls' := [(2, ((a0 : Nat) : Int)), (2, ((a1 : Nat) : Int)), (2, ((a2 : Nat) : Int)), (2, ((a3 : Nat) : Int)), (2, ((a4 : Nat) : Int)), (0, a5), (0, a6), (0, a7), (0, (d.m ((a0 + 2)) (zix a7))), (0, 1)]) (h := 46) hT rfl (Nat.le_of_ble_eq_true rfl) rfl) ?_
            refine Eq.trans (x1 (h := 47) hT rfl rfl (by decide)) ?_
            refine Eq.trans (x16_1 (h := 48) hT rfl) ?_
            refine xit (fun _ => ?_) (fun _ => ?_)
            · refine Eq.trans (x1 (h := 51) hT rfl rfl (by decide)) ?_
              refine Eq.trans (x23 (h := 52) hT rfl) ?_
              refine Eq.trans (x1 (h := 53) hT rfl rfl (by decide)) ?_
              refine Eq.trans (x24 (r := 1) (n := 5) (h := 54) hT rfl (Or.inr ⟨(kd_s (by decide)), rfl⟩) (ln_s (by decide))) ?_
              refine xig (fun hz16 => ?_)
              refine Eq.trans (x5_0 (h := 55) hT rfl) ?_
              refine Eq.trans (x2 (ls' := [(2, ((a0 : Nat) : Int)), (2, ((a1 : Nat) : Int)), (2, ((a2 : Nat) : Int)), (2, ((a3 : Nat) : Int)), (2, ((a4 : Nat) : Int)), (0, (a5 + (q13.2.m 1 (zix ((d.m ((a0 + 2)) (zix a7))))))), (0, a6), (0, a7), (0, (d.m ((a0 + 2)) (zix a7))), (0, 1)]) (h := 56) hT rfl (Nat.le_of_ble_eq_true rfl) rfl) ?_
              refine Eq.trans (x1 (h := 57) hT rfl rfl (by decide)) ?_
              refine Eq.trans (x23 (h := 58) hT rfl) ?_
              refine Eq.trans (x1 (h := 59) hT rfl rfl (by decide)) ?_
              refine Eq.trans (x24 (r := 2) (n := 5) (h := 60) hT rfl (Or.inr ⟨(kd_s (by decide)), rfl⟩) (ln_s (by decide))) ?_
              refine xig (fun hz17 => ?_)
              refine Eq.trans (x5_0 (h := 61) hT rfl) ?_
              refine Eq.trans (x2 (ls' := [(2, ((a0 : Nat) : Int)), (2, ((a1 : Nat) : Int)), (2, ((a2 : Nat) : Int)), (2, ((a3 : Nat) : Int)), (2, ((a4 : Nat) : Int)), (0, (a5 + (q13.2.m 1 (zix ((d.m ((a0 + 2)) (zix a7))))))), (0, (a6 + (q13.2.m 2 (zix ((d.m ((a0 + 2)) (zix a7))))))), (0, a7), (0, (d.m ((a0 + 2)) (zix a7))), (0, 1)]) (h := 62) hT rfl (Nat.le_of_ble_eq_true rfl) rfl) ?_
              refine Eq.trans (x4 (ls' := [(2, ((a0 : Nat) : Int)), (2, ((a1 : Nat) : Int)), (2, ((a2 : Nat) : Int)), (2, ((a3 : Nat) : Int)), (2, ((a4 : Nat) : Int)), (0, (a5 + (q13.2.m 1 (zix ((d.m ((a0 + 2)) (zix a7))))))), (0, (a6 + (q13.2.m 2 (zix ((d.m ((a0 + 2)) (zix a7))))))), (0, (a7 + 1)), (0, (d.m ((a0 + 2)) (zix a7))), (0, 1)]) (h := 63) hT rfl rfl rfl) ?_
              refine Eq.trans (x18 (h := 64) hT rfl) ?_
              exact rfl
            · refine Eq.trans (x0 (h := 49) hT rfl) ?_
              exact x203c (h := 50) hT rfl (by decide)
/-! WordLinks$Matcher.walk()V -/
set_option maxRecDepth 100000 in
theorem e_219 {P : zP} {d : zD P} {a0 : Nat} (ha0 : zkd a0 = 2) : MM P 219 [(2, ((a0 : Nat) : Int))] d = zB P 219 9 [(2, ((a0 : Nat) : Int)), (0, 0), (0, 0), (0, 0), (3, 0)] [] ((d.up a0 6 0)) := by
  have hT := cT_219
  refine Eq.trans (MM_def sm_219 (Nat.le_of_ble_eq_true rfl)) ?_
  change zB P 219 0 [(2, ((a0 : Nat) : Int)), (3, 0), (3, 0), (3, 0), (3, 0)] [] d = _
  refine Eq.trans (x1 (h := 0) hT rfl rfl (by decide)) ?_
  refine Eq.trans (x0 (h := 1) hT rfl) ?_
  refine Eq.trans (x22 (r := a0) (cl := 2) (h := 2) hT rfl ha0 (by decide) rfl (by decide)) ?_
  refine Eq.trans (x0 (h := 3) hT rfl) ?_
  refine Eq.trans (x2 (ls' := [(2, ((a0 : Nat) : Int)), (0, 0), (3, 0), (3, 0), (3, 0)]) (h := 4) hT rfl (Nat.le_of_ble_eq_true rfl) rfl) ?_
  refine Eq.trans (x0 (h := 5) hT rfl) ?_
  refine Eq.trans (x2 (ls' := [(2, ((a0 : Nat) : Int)), (0, 0), (0, 0), (3, 0), (3, 0)]) (h := 6) hT rfl (Nat.le_of_ble_eq_true rfl) rfl) ?_
  refine Eq.trans (x0 (h := 7) hT rfl) ?_
  refine Eq.trans (x2 (ls' := [(2, ((a0 : Nat) : Int)), (0, 0), (0, 0), (0, 0), (3, 0)]) (h := 8) hT rfl (Nat.le_of_ble_eq_true rfl) rfl) ?_
  exact rfl
set_option maxRecDepth 100000 in
theorem q_219_9 {P : zP} {d : zD P} {a0 : Nat} {a1 : Int} {a2 : Int} {a3 : Int} {g4 : zV} (ha0 : zkd a0 = 2) : zB P 219 9 [(2, ((a0 : Nat) : Int)), (0, a1), (0, a2), (0, a3), g4] [] d = (if wr 16 ≤ wr a3 then some (0, d) else ((MM P 173 [(2, ((a0 : Nat) : Int)), (0, a1), (0, a2)] d).bind fun q1 => (if wr q1.1 ≠ wr ((-1)) then (if zin a3 16 then (if zin q1.1 5 then (if zin q1.1 5 then zB P 219 9 [(2, ((a0 : Nat) : Int)), (0, (a1 + (((((q1.2.up ((a0 + 2)) (zix a3) q1.1)).up a0 6 (((((q1.2.up ((a0 + 2)) (zix a3) q1.1)).m a0 6) + 1)))).m 1 (zix q1.1)))), (0, (a2 + (((((q1.2.up ((a0 + 2)) (zix a3) q1.1)).up a0 6 (((((q1.2.up ((a0 + 2)) (zix a3) q1.1)).m a0 6) + 1)))).m 2 (zix q1.1)))), (0, (a3 + 1)), (0, q1.1)] [] ((((q1.2.up ((a0 + 2)) (zix a3) q1.1)).up a0 6 (((((q1.2.up ((a0 + 2)) (zix a3) q1.1)).m a0 6) + 1)))) else none) else none) else none) else some (0, q1.2)))) := by
  have hT := cT_219
  refine Eq.trans (x1 (h := 9) hT rfl rfl (by decide)) ?_
  refine Eq.trans (x0 (h := 10) hT rfl) ?_
  refine Eq.trans (x17_3 (h := 11) hT rfl) ?_
  refine xit (fun _ => ?_) (fun _ => ?_)
  · exact x20 (h := 46) hT rfl
  · refine Eq.trans (x1 (h := 12) hT rfl rfl (by decide)) ?_
    refine Eq.trans (x1 (h := 13) hT rfl rfl (by decide)) ?_
    refine Eq.trans (x1 (h := 14) hT rfl rfl (by decide)) ?_
    refine Eq.trans (x31 (r := a0) (cl := 2) (as := [(0, a1), (0, a2)]) (st' := []) (h := 15) hT rfl sm_173 rfl ha0) ?_
    refine xbd (fun q1 => ?_)
    rw [rv_173]
    change zB P 219 16 [(2, ((a0 : Nat) : Int)), (0, a1), (0, a2), (0, a3), g4] [(0, q1.1)] q1.2 = _
    refine Eq.trans (x2 (ls' := [(2, ((a0 : Nat) : Int)), (0, a1), (0, a2), (0, a3), (0, q1.1)]) (h := 16) hT rfl (Nat.le_of_ble_eq_true rfl) rfl) ?_
    refine Eq.trans (x1 (h := 17) hT rfl rfl (by decide)) ?_
    refine Eq.trans (x0 (h := 18) hT rfl) ?_
    refine Eq.trans (x17_1 (h := 19) hT rfl) ?_
    refine xit (fun _ => ?_) (fun _ => ?_)
    · refine Eq.trans (x1 (h := 21) hT rfl rfl (by decide)) ?_
      refine Eq.trans (x21r (r := a0) (cl := 2) (o := 2) (h := 22) hT rfl ha0 (by decide) rfl) ?_
      refine Eq.trans (x1 (h := 23) hT rfl rfl (by decide)) ?_
      refine Eq.trans (x1 (h := 24) hT rfl rfl (by decide)) ?_
      refine Eq.trans (x25a (r := (a0 + 2)) (n := 16) (h := 25) hT rfl (kd_2_1 ha0) (ln_2_1 ha0) (by decide) rfl) ?_
      refine xig (fun hz2 => ?_)
      refine Eq.trans (x1 (h := 26) hT rfl rfl (by decide)) ?_
      refine Eq.trans (x13 (h := 27) hT rfl (by decide)) ?_
      refine Eq.trans (x21 (r := a0) (cl := 2) (h := 28) hT rfl ha0) ?_
      refine Eq.trans (x0 (h := 29) hT rfl) ?_
      refine Eq.trans (x5_0 (h := 30) hT rfl) ?_
      refine Eq.trans (x22 (r := a0) (cl := 2) (h := 31) hT rfl ha0 (by decide) rfl (by decide)) ?_
      refine Eq.trans (x1 (h := 32) hT rfl rfl (by decide)) ?_
      refine Eq.trans (x23 (h := 33) hT rfl) ?_
      refine Eq.trans (x1 (h := 34) hT rfl rfl (by decide)) ?_
      refine Eq.trans (x24 (r := 1) (n := 5) (h := 35) hT rfl (Or.inr ⟨(kd_s (by decide)), rfl⟩) (ln_s (by decide))) ?_
      refine xig (fun hz3 => ?_)
      refine Eq.trans (x5_0 (h := 36) hT rfl) ?_
      refine Eq.trans (x2 (ls' := [(2, ((a0 : Nat) : Int)), (0, (a1 + (((((q1.2.up ((a0 + 2)) (zix a3) q1.1)).up a0 6 (((((q1.2.up ((a0 + 2)) (zix a3) q1.1)).m a0 6) + 1)))).m 1 (zix q1.1)))), (0, a2), (0, a3), (0, q1.1)]) (h := 37) hT rfl (Nat.le_of_ble_eq_true rfl) rfl) ?_
      refine Eq.trans (x1 (h := 38) hT rfl rfl (by decide)) ?_
      refine Eq.trans (x23 (h := 39) hT rfl) ?_
      refine Eq.trans (x1 (h := 40) hT rfl rfl (by decide)) ?_
      refine Eq.trans (x24 (r := 2) (n := 5) (h := 41) hT rfl (Or.inr ⟨(kd_s (by decide)), rfl⟩) (ln_s (by decide))) ?_
      refine xig (fun hz4 => ?_)
      refine Eq.trans (x5_0 (h := 42) hT rfl) ?_
      refine Eq.trans (x2 (ls' := [(2, ((a0 : Nat) : Int)), (0, (a1 + (((((q1.2.up ((a0 + 2)) (zix a3) q1.1)).up a0 6 (((((q1.2.up ((a0 + 2)) (zix a3) q1.1)).m a0 6) + 1)))).m 1 (zix q1.1)))), (0, (a2 + (((((q1.2.up ((a0 + 2)) (zix a3) q1.1)).up a0 6 (((((q1.2.up ((a0 + 2)) (zix a3) q1.1)).m a0 6) + 1)))).m 2 (zix q1.1)))), (0, a3), (0, q1.1)]) (h := 43) hT rfl (Nat.le_of_ble_eq_true rfl) rfl) ?_
      refine Eq.trans (x4 (ls' := [(2, ((a0 : Nat) : Int)), (0, (a1 + (((((q1.2.up ((a0 + 2)) (zix a3) q1.1)).up a0 6 (((((q1.2.up ((a0 + 2)) (zix a3) q1.1)).m a0 6) + 1)))).m 1 (zix q1.1)))), (0, (a2 + (((((q1.2.up ((a0 + 2)) (zix a3) q1.1)).up a0 6 (((((q1.2.up ((a0 + 2)) (zix a3) q1.1)).m a0 6) + 1)))).m 2 (zix q1.1)))), (0, (a3 + 1)), (0, q1.1)]) (h := 44) hT rfl rfl rfl) ?_
      refine Eq.trans (x18 (h := 45) hT rfl) ?_
      exact rfl
    · exact x20 (h := 20) hT rfl
/-! WordLinks$Phrases.fillFromPair(LWordLinks$Corpus;LWordLinks$Linker;I)V -/
set_option maxRecDepth 100000 in
theorem e_220 {P : zP} {d : zD P} {a0 : Nat} {a1 : Nat} {a2 : Nat} {a3 : Int} (ha0 : zkd a0 = 4) (ha1 : zkd a1 = 0) (ha2 : zkd a2 = 1) : MM P 220 [(2, ((a0 : Nat) : Int)), (2, ((a1 : Nat) : Int)), (2, ((a2 : Nat) : Int)), (0, a3)] d = zB P 220 2 [(2, ((a0 : Nat) : Int)), (2, ((a1 : Nat) : Int)), (2, ((a2 : Nat) : Int)), (0, a3), (0, 0), (3, 0)] [] d := by
  have hT := cT_220
  refine Eq.trans (MM_def sm_220 (Nat.le_of_ble_eq_true rfl)) ?_
  change zB P 220 0 [(2, ((a0 : Nat) : Int)), (2, ((a1 : Nat) : Int)), (2, ((a2 : Nat) : Int)), (0, a3), (3, 0), (3, 0)] [] d = _
  refine Eq.trans (x0 (h := 0) hT rfl) ?_
  refine Eq.trans (x2 (ls' := [(2, ((a0 : Nat) : Int)), (2, ((a1 : Nat) : Int)), (2, ((a2 : Nat) : Int)), (0, a3), (0, 0), (3, 0)]) (h := 1) hT rfl (Nat.le_of_ble_eq_true rfl) rfl) ?_
  exact rfl
set_option maxRecDepth 100000 in
theorem q_220_2 {P : zP} {d : zD P} {a0 : Nat} {a1 : Nat} {a2 : Nat} {a3 : Int} {a4 : Int} {g5 : zV} (ha0 : zkd a0 = 4) (ha1 : zkd a1 = 0) (ha2 : zkd a2 = 1) : zB P 220 2 [(2, ((a0 : Nat) : Int)), (2, ((a1 : Nat) : Int)), (2, ((a2 : Nat) : Int)), (0, a3), (0, a4), g5] [] d = (if wr 18 ≤ wr a4 then some (0, d) else zB P 220 7 [(2, ((a0 : Nat) : Int)), (2, ((a1 : Nat) : Int)), (2, ((a2 : Nat) : Int)), (0, a3), (0, a4), (0, 0)] [] d) := by
  have hT := cT_220
  refine Eq.trans (x1 (h := 2) hT rfl rfl (by decide)) ?_
  refine Eq.trans (x0 (h := 3) hT rfl) ?_
  refine Eq.trans (x17_3 (h := 4) hT rfl) ?_
  refine xit (fun _ => ?_) (fun _ => ?_)
  · exact x20 (h := 36) hT rfl
  · refine Eq.trans (x0 (h := 5) hT rfl) ?_
    refine Eq.trans (x2 (ls' := [(2, ((a0 : Nat) : Int)), (2, ((a1 : Nat) : Int)), (2, ((a2 : Nat) : Int)), (0, a3), (0, a4), (0, 0)]) (h := 6) hT rfl (Nat.le_of_ble_eq_true rfl) rfl) ?_
    exact rfl
set_option maxRecDepth 100000 in
theorem q_220_7 {P : zP} {d : zD P} {a0 : Nat} {a1 : Nat} {a2 : Nat} {a3 : Int} {a4 : Int} {a5 : Int} (ha0 : zkd a0 = 4) (ha1 : zkd a1 = 0) (ha2 : zkd a2 = 1) : zB P 220 7 [(2, ((a0 : Nat) : Int)), (2, ((a1 : Nat) : Int)), (2, ((a2 : Nat) : Int)), (0, a3), (0, a4), (0, a5)] [] d = (if wr 18 ≤ wr a5 then zB P 220 2 [(2, ((a0 : Nat) : Int)), (2, ((a1 : Nat) : Int)), (2, ((a2 : Nat) : Int)), (0, a3), (0, (a4 + 1)), (0, a5)] [] d else ((MM P 171 [(2, ((a2 : Nat) : Int)), (0, a4), (0, a5)] d).bind fun q1 => (if wr q1.1 = 0 then zB P 220 7 [(2, ((a0 : Nat) : Int)), (2, ((a1 : Nat) : Int)), (2, ((a2 : Nat) : Int)), (0, a3), (0, a4), (0, (a5 + 1))] [] q1.2 else ((MM P 107 [(2, ((a0 : Nat) : Int)), (2, ((a1 : Nat) : Int)), (0, 0), (0, a3), (0, a4)] q1.2).bind fun q2 => ((MM P 107 [(2, ((a0 : Nat) : Int)), (2, ((a1 : Nat) : Int)), (0, 1), (0, a3), (0, a5)] q2.2).bind fun q3 => ((MM P 106 [(2, ((a0 : Nat) : Int)), (1, (zlbin 4 ((zlsh 0 q2.1 18)) q3.1))] q3.2).bind fun q4 => zB P 220 7 [(2, ((a0 : Nat) : Int)), (2, ((a1 : Nat) : Int)), (2, ((a2 : Nat) : Int)), (0, a3), (0, a4), (0, (a5 + 1))] [] q4.2)))))) := by
  have hT := cT_220
  refine Eq.trans (x1 (h := 7) hT rfl rfl (by decide)) ?_
  refine Eq.trans (x0 (h := 8) hT rfl) ?_
  refine Eq.trans (x17_3 (h := 9) hT rfl) ?_
  refine xit (fun _ => ?_) (fun _ => ?_)
  · refine Eq.trans (x4 (ls' := [(2, ((a0 : Nat) : Int)), (2, ((a1 : Nat) : Int)), (2, ((a2 : Nat) : Int)), (0, a3), (0, (a4 + 1)), (0, a5)]) (h := 34) hT rfl rfl rfl) ?_
    refine Eq.trans (x18 (h := 35) hT rfl) ?_
    exact rfl
  · refine Eq.trans (x1 (h := 10) hT rfl rfl (by decide)) ?_
    refine Eq.trans (x1 (h := 11) hT rfl rfl (by decide)) ?_
    refine Eq.trans (x1 (h := 12) hT rfl rfl (by decide)) ?_
    refine Eq.trans (x31 (r := a2) (cl := 1) (as := [(0, a4), (0, a5)]) (st' := []) (h := 13) hT rfl sm_171 rfl ha2) ?_
    refine xbd (fun q1 => ?_)
    rw [rv_171]
    change zB P 220 14 [(2, ((a0 : Nat) : Int)), (2, ((a1 : Nat) : Int)), (2, ((a2 : Nat) : Int)), (0, a3), (0, a4), (0, a5)] [(0, q1.1)] q1.2 = _
    refine Eq.trans (x16_0 (h := 14) hT rfl) ?_
    refine xit (fun _ => ?_) (fun _ => ?_)
    · refine Eq.trans (x4 (ls' := [(2, ((a0 : Nat) : Int)), (2, ((a1 : Nat) : Int)), (2, ((a2 : Nat) : Int)), (0, a3), (0, a4), (0, (a5 + 1))]) (h := 32) hT rfl rfl rfl) ?_
      refine Eq.trans (x18 (h := 33) hT rfl) ?_
      exact rfl
    · refine Eq.trans (x1 (h := 15) hT rfl rfl (by decide)) ?_
      refine Eq.trans (x1 (h := 16) hT rfl rfl (by decide)) ?_
      refine Eq.trans (x1 (h := 17) hT rfl rfl (by decide)) ?_
      refine Eq.trans (x0 (h := 18) hT rfl) ?_
      refine Eq.trans (x1 (h := 19) hT rfl rfl (by decide)) ?_
      refine Eq.trans (x1 (h := 20) hT rfl rfl (by decide)) ?_
      refine Eq.trans (x31 (r := a0) (cl := 4) (as := [(2, ((a1 : Nat) : Int)), (0, 0), (0, a3), (0, a4)]) (st' := [(2, ((a0 : Nat) : Int))]) (h := 21) hT rfl sm_107 rfl ha0) ?_
      refine xbd (fun q2 => ?_)
      rw [rv_107]
      change zB P 220 22 [(2, ((a0 : Nat) : Int)), (2, ((a1 : Nat) : Int)), (2, ((a2 : Nat) : Int)), (0, a3), (0, a4), (0, a5)] [(1, q2.1), (2, ((a0 : Nat) : Int))] q2.2 = _
      refine Eq.trans (x0 (h := 22) hT rfl) ?_
      refine Eq.trans (x10 (h := 23) hT rfl) ?_
      refine Eq.trans (x1 (h := 24) hT rfl rfl (by decide)) ?_
      refine Eq.trans (x1 (h := 25) hT rfl rfl (by decide)) ?_
      refine Eq.trans (x0 (h := 26) hT rfl) ?_
      refine Eq.trans (x1 (h := 27) hT rfl rfl (by decide)) ?_
      refine Eq.trans (x1 (h := 28) hT rfl rfl (by decide)) ?_
      refine Eq.trans (x31 (r := a0) (cl := 4) (as := [(2, ((a1 : Nat) : Int)), (0, 1), (0, a3), (0, a5)]) (st' := [(1, (zlsh 0 q2.1 18)), (2, ((a0 : Nat) : Int))]) (h := 29) hT rfl sm_107 rfl ha0) ?_
      refine xbd (fun q3 => ?_)
      rw [rv_107]
      change zB P 220 30 [(2, ((a0 : Nat) : Int)), (2, ((a1 : Nat) : Int)), (2, ((a2 : Nat) : Int)), (0, a3), (0, a4), (0, a5)] [(1, q3.1), (1, (zlsh 0 q2.1 18)), (2, ((a0 : Nat) : Int))] q3.2 = _
      refine Eq.trans (x8n (h := 30) hT rfl) ?_
      refine Eq.trans (x31 (r := a0) (cl := 4) (as := [(1, (zlbin 4 ((zlsh 0 q2.1 18)) q3.1))]) (st' := []) (h := 31) hT rfl sm_106 rfl ha0) ?_
      refine xbd (fun q4 => ?_)
      rw [rv_106]
      change zB P 220 32 [(2, ((a0 : Nat) : Int)), (2, ((a1 : Nat) : Int)), (2, ((a2 : Nat) : Int)), (0, a3), (0, a4), (0, a5)] [] q4.2 = _
      refine Eq.trans (x4 (ls' := [(2, ((a0 : Nat) : Int)), (2, ((a1 : Nat) : Int)), (2, ((a2 : Nat) : Int)), (0, a3), (0, a4), (0, (a5 + 1))]) (h := 32) hT rfl rfl rfl) ?_
      refine Eq.trans (x18 (h := 33) hT rfl) ?_
      exact rfl
/-! WordLinks$Putter.choose(LWordLinks$Phrases;I)V -/
set_option maxRecDepth 100000 in
theorem e_221 {P : zP} {d : zD P} {a0 : Nat} {a1 : Nat} {a2 : Int} (ha0 : zkd a0 = 5) (ha1 : zkd a1 = 4) : MM P 221 [(2, ((a0 : Nat) : Int)), (2, ((a1 : Nat) : Int)), (0, a2)] d = (if zin a2 8 then zB P 221 7 [(2, ((a0 : Nat) : Int)), (2, ((a1 : Nat) : Int)), (0, a2), (0, 0)] [] ((d.up ((a0 + 4)) (zix a2) ((-1)))) else none) := by
  have hT := cT_221
  refine Eq.trans (MM_def sm_221 (Nat.le_of_ble_eq_true rfl)) ?_
  change zB P 221 0 [(2, ((a0 : Nat) : Int)), (2, ((a1 : Nat) : Int)), (0, a2), (3, 0)] [] d = _
  refine Eq.trans (x1 (h := 0) hT rfl rfl (by decide)) ?_
  refine Eq.trans (x21r (r := a0) (cl := 5) (o := 4) (h := 1) hT rfl ha0 (by decide) rfl) ?_
  refine Eq.trans (x1 (h := 2) hT rfl rfl (by decide)) ?_
  refine Eq.trans (x0 (h := 3) hT rfl) ?_
  refine Eq.trans (x25a (r := (a0 + 4)) (n := 8) (h := 4) hT rfl (kd_5_3 ha0) (ln_5_3 ha0) (by decide) rfl) ?_
  refine xig (fun hz1 => ?_)
  refine Eq.trans (x0 (h := 5) hT rfl) ?_
  refine Eq.trans (x2 (ls' := [(2, ((a0 : Nat) : Int)), (2, ((a1 : Nat) : Int)), (0, a2), (0, 0)]) (h := 6) hT rfl (Nat.le_of_ble_eq_true rfl) rfl) ?_
  exact rfl
set_option maxRecDepth 100000 in
theorem q_221_7 {P : zP} {d : zD P} {a0 : Nat} {a1 : Nat} {a2 : Int} {a3 : Int} (ha0 : zkd a0 = 5) (ha1 : zkd a1 = 4) : zB P 221 7 [(2, ((a0 : Nat) : Int)), (2, ((a1 : Nat) : Int)), (0, a2), (0, a3)] [] d = (if wr ((d.m a1 2)) ≤ wr a3 then ((MM P 22 [(2, ((a0 : Nat) : Int)), (0, a2), (0, 9999), (0, 2000), (0, 1)] d).bind fun q2 => some (0, q2.2)) else ((MM P 175 [(2, ((a0 : Nat) : Int)), (2, ((a1 : Nat) : Int)), (0, a3), (0, a2)] d).bind fun q3 => (if wr q3.1 = 0 then zB P 221 7 [(2, ((a0 : Nat) : Int)), (2, ((a1 : Nat) : Int)), (0, a2), (0, (a3 + 1))] [] q3.2 else ((MM P 105 [(2, ((a1 : Nat) : Int)), (0, a3)] q3.2).bind fun q4 => ((MM P 108 [(2, ((a1 : Nat) : Int)), (0, a3), (0, 0)] q4.2).bind fun q5 => ((MM P 22 [(2, ((a0 : Nat) : Int)), (0, a2), (0, a3), (0, q4.1), (0, q5.1)] q5.2).bind fun q6 => zB P 221 7 [(2, ((a0 : Nat) : Int)), (2, ((a1 : Nat) : Int)), (0, a2), (0, (a3 + 1))] [] q6.2)))))) := by
  have hT := cT_221
  refine Eq.trans (x1 (h := 7) hT rfl rfl (by decide)) ?_
  refine Eq.trans (x1 (h := 8) hT rfl rfl (by decide)) ?_
  refine Eq.trans (x21 (r := a1) (cl := 4) (h := 9) hT rfl ha1) ?_
  refine Eq.trans (x17_3 (h := 10) hT rfl) ?_
  refine xit (fun _ => ?_) (fun _ => ?_)
  · refine Eq.trans (x1 (h := 30) hT rfl rfl (by decide)) ?_
    refine Eq.trans (x1 (h := 31) hT rfl rfl (by decide)) ?_
    refine Eq.trans (x0 (h := 32) hT rfl) ?_
    refine Eq.trans (x0 (h := 33) hT rfl) ?_
    refine Eq.trans (x0 (h := 34) hT rfl) ?_
    refine Eq.trans (x31 (r := a0) (cl := 5) (as := [(0, a2), (0, 9999), (0, 2000), (0, 1)]) (st' := []) (h := 35) hT rfl sm_22 rfl ha0) ?_
    refine xbd (fun q2 => ?_)
    rw [rv_22]
    change zB P 221 36 [(2, ((a0 : Nat) : Int)), (2, ((a1 : Nat) : Int)), (0, a2), (0, a3)] [] q2.2 = _
    exact x20 (h := 36) hT rfl
  · refine Eq.trans (x1 (h := 11) hT rfl rfl (by decide)) ?_
    refine Eq.trans (x1 (h := 12) hT rfl rfl (by decide)) ?_
    refine Eq.trans (x1 (h := 13) hT rfl rfl (by decide)) ?_
    refine Eq.trans (x1 (h := 14) hT rfl rfl (by decide)) ?_
    refine Eq.trans (x31 (r := a0) (cl := 5) (as := [(2, ((a1 : Nat) : Int)), (0, a3), (0, a2)]) (st' := []) (h := 15) hT rfl sm_175 rfl ha0) ?_
    refine xbd (fun q3 => ?_)
    rw [rv_175]
    change zB P 221 16 [(2, ((a0 : Nat) : Int)), (2, ((a1 : Nat) : Int)), (0, a2), (0, a3)] [(0, q3.1)] q3.2 = _
    refine Eq.trans (x16_0 (h := 16) hT rfl) ?_
    refine xit (fun _ => ?_) (fun _ => ?_)
    · refine Eq.trans (x4 (ls' := [(2, ((a0 : Nat) : Int)), (2, ((a1 : Nat) : Int)), (0, a2), (0, (a3 + 1))]) (h := 28) hT rfl rfl rfl) ?_
      refine Eq.trans (x18 (h := 29) hT rfl) ?_
      exact rfl
    · refine Eq.trans (x1 (h := 17) hT rfl rfl (by decide)) ?_
      refine Eq.trans (x1 (h := 18) hT rfl rfl (by decide)) ?_
      refine Eq.trans (x1 (h := 19) hT rfl rfl (by decide)) ?_
      refine Eq.trans (x1 (h := 20) hT rfl rfl (by decide)) ?_
      refine Eq.trans (x1 (h := 21) hT rfl rfl (by decide)) ?_
      refine Eq.trans (x31 (r := a1) (cl := 4) (as := [(0, a3)]) (st' := [(0, a3), (0, a2), (2, ((a0 : Nat) : Int))]) (h := 22) hT rfl sm_105 rfl ha1) ?_
      refine xbd (fun q4 => ?_)
      rw [rv_105]
      change zB P 221 23 [(2, ((a0 : Nat) : Int)), (2, ((a1 : Nat) : Int)), (0, a2), (0, a3)] [(0, q4.1), (0, a3), (0, a2), (2, ((a0 : Nat) : Int))] q4.2 = _
      refine Eq.trans (x1 (h := 23) hT rfl rfl (by decide)) ?_
      refine Eq.trans (x1 (h := 24) hT rfl rfl (by decide)) ?_
      refine Eq.trans (x0 (h := 25) hT rfl) ?_
      refine Eq.trans (x31 (r := a1) (cl := 4) (as := [(0, a3), (0, 0)]) (st' := [(0, q4.1), (0, a3), (0, a2), (2, ((a0 : Nat) : Int))]) (h := 26) hT rfl sm_108 rfl ha1) ?_
      refine xbd (fun q5 => ?_)
      rw [rv_108]
      change zB P 221 27 [(2, ((a0 : Nat) : Int)), (2, ((a1 : Nat) : Int)), (0, a2), (0, a3)] [(0, q5.1), (0, q4.1), (0, a3), (0, a2), (2, ((a0 : Nat) : Int))] q5.2 = _
      refine Eq.trans (x31 (r := a0) (cl := 5) (as := [(0, a2), (0, a3), (0, q4.1), (0, q5.1)]) (st' := []) (h := 27) hT rfl sm_22 rfl ha0) ?_
      refine xbd (fun q6 => ?_)
      rw [rv_22]
      change zB P 221 28 [(2, ((a0 : Nat) : Int)), (2, ((a1 : Nat) : Int)), (0, a2), (0, a3)] [] q6.2 = _
      refine Eq.trans (x4 (ls' := [(2, ((a0 : Nat) : Int)), (2, ((a1 : Nat) : Int)), (0, a2), (0, (a3 + 1))]) (h := 28) hT rfl rfl rfl) ?_
      refine Eq.trans (x18 (h := 29) hT rfl) ?_
      exact rfl
/-! WordLinks$Rounder.partPlace(LWordLinks$State;III)V -/
set_option maxRecDepth 100000 in
theorem e_222 {P : zP} {d : zD P} {a0 : Nat} {a1 : Nat} {a2 : Int} {a3 : Int} {a4 : Int} (ha0 : zkd a0 = 6) (ha1 : zkd a1 = 9) : MM P 222 [(2, ((a0 : Nat) : Int)), (2, ((a1 : Nat) : Int)), (0, a2), (0, a3), (0, a4)] d = ((MM P 14 [(2, (((a0 + 1) : Nat) : Int))] d).bind fun q1 => zB P 222 5 [(2, ((a0 : Nat) : Int)), (2, ((a1 : Nat) : Int)), (0, a2), (0, a3), (0, a4), (0, 0)] [] q1.2) := by
  have hT := cT_222
  refine Eq.trans (MM_def sm_222 (Nat.le_of_ble_eq_true rfl)) ?_
  change zB P 222 0 [(2, ((a0 : Nat) : Int)), (2, ((a1 : Nat) : Int)), (0, a2), (0, a3), (0, a4), (3, 0)] [] d = _
  refine Eq.trans (x1 (h := 0) hT rfl rfl (by decide)) ?_
  refine Eq.trans (x21r (r := a0) (cl := 6) (o := 1) (h := 1) hT rfl ha0 (by decide) rfl) ?_
  refine Eq.trans (x31 (r := (a0 + 1)) (cl := 3) (as := []) (st' := []) (h := 2) hT rfl sm_14 rfl (kd_6_0 ha0)) ?_
  refine xbd (fun q1 => ?_)
  rw [rv_14]
  change zB P 222 3 [(2, ((a0 : Nat) : Int)), (2, ((a1 : Nat) : Int)), (0, a2), (0, a3), (0, a4), (3, 0)] [] q1.2 = _
  refine Eq.trans (x0 (h := 3) hT rfl) ?_
  refine Eq.trans (x2 (ls' := [(2, ((a0 : Nat) : Int)), (2, ((a1 : Nat) : Int)), (0, a2), (0, a3), (0, a4), (0, 0)]) (h := 4) hT rfl (Nat.le_of_ble_eq_true rfl) rfl) ?_
  exact rfl
set_option maxRecDepth 100000 in
theorem q_222_5 {P : zP} {d : zD P} {a0 : Nat} {a1 : Nat} {a2 : Int} {a3 : Int} {a4 : Int} {a5 : Int} (ha0 : zkd a0 = 6) (ha1 : zkd a1 = 9) : zB P 222 5 [(2, ((a0 : Nat) : Int)), (2, ((a1 : Nat) : Int)), (0, a2), (0, a3), (0, a4), (0, a5)] [] d = (if zin a2 2 then (if zin a3 24 then (if wr ((d.m ((((a1 + 1) + 8) + (1 + zix a2))) (zix a3))) ≤ wr a5 then ((MM P 103 [(2, (((a0 + 1) : Nat) : Int))] d).bind fun q4 => some (0, q4.2)) else ((MM P 189 [(2, ((a1 : Nat) : Int)), (0, a2), (0, a3), (0, a5), (0, a4)] d).bind fun q5 => ((MM P 17 [(2, (((a0 + 1) : Nat) : Int)), (1, q5.1)] q5.2).bind fun q6 => zB P 222 5 [(2, ((a0 : Nat) : Int)), (2, ((a1 : Nat) : Int)), (0, a2), (0, a3), (0, a4), (0, (a5 + 1))] [] q6.2))) else none) else none) := by
  have hT := cT_222
  refine Eq.trans (x1 (h := 5) hT rfl rfl (by decide)) ?_
  refine Eq.trans (x1 (h := 6) hT rfl rfl (by decide)) ?_
  refine Eq.trans (x21r (r := a1) (cl := 9) (o := 1) (h := 7) hT rfl ha1 (by decide) rfl) ?_
  refine Eq.trans (x21r (r := (a1 + 1)) (cl := 0) (o := 8) (h := 8) hT rfl (kd_9_0 ha1) (by decide) rfl) ?_
  refine Eq.trans (x1 (h := 9) hT rfl rfl (by decide)) ?_
  refine Eq.trans (x24r (r := ((a1 + 1) + 8)) (n := 2) (h := 10) hT rfl (kd_0_3 (kd_9_0 ha1)) (ln_0_3 (kd_9_0 ha1)) (by decide)) ?_
  refine xig (fun hz2 => ?_)
  refine Eq.trans (x1 (h := 11) hT rfl rfl (by decide)) ?_
  refine Eq.trans (x24 (r := (((a1 + 1) + 8) + (1 + zix a2))) (n := 24) (h := 12) hT rfl (Or.inl (kq_0_3 (kd_9_0 ha1) (zix_lt hz2))) (lq_0_3 (kd_9_0 ha1) (zix_lt hz2))) ?_
  refine xig (fun hz3 => ?_)
  refine Eq.trans (x17_3 (h := 13) hT rfl) ?_
  refine xit (fun _ => ?_) (fun _ => ?_)
  · refine Eq.trans (x1 (h := 25) hT rfl rfl (by decide)) ?_
    refine Eq.trans (x21r (r := a0) (cl := 6) (o := 1) (h := 26) hT rfl ha0 (by decide) rfl) ?_
    refine Eq.trans (x31 (r := (a0 + 1)) (cl := 3) (as := []) (st' := []) (h := 27) hT rfl sm_103 rfl (kd_6_0 ha0)) ?_
    refine xbd (fun q4 => ?_)
    rw [rv_103]
    change zB P 222 28 [(2, ((a0 : Nat) : Int)), (2, ((a1 : Nat) : Int)), (0, a2), (0, a3), (0, a4), (0, a5)] [] q4.2 = _
    exact x20 (h := 28) hT rfl
  · refine Eq.trans (x1 (h := 14) hT rfl rfl (by decide)) ?_
    refine Eq.trans (x21r (r := a0) (cl := 6) (o := 1) (h := 15) hT rfl ha0 (by decide) rfl) ?_
    refine Eq.trans (x1 (h := 16) hT rfl rfl (by decide)) ?_
    refine Eq.trans (x1 (h := 17) hT rfl rfl (by decide)) ?_
    refine Eq.trans (x1 (h := 18) hT rfl rfl (by decide)) ?_
    refine Eq.trans (x1 (h := 19) hT rfl rfl (by decide)) ?_
    refine Eq.trans (x1 (h := 20) hT rfl rfl (by decide)) ?_
    refine Eq.trans (x31 (r := a1) (cl := 9) (as := [(0, a2), (0, a3), (0, a5), (0, a4)]) (st' := [(2, (((a0 + 1) : Nat) : Int))]) (h := 21) hT rfl sm_189 rfl ha1) ?_
    refine xbd (fun q5 => ?_)
    rw [rv_189]
    change zB P 222 22 [(2, ((a0 : Nat) : Int)), (2, ((a1 : Nat) : Int)), (0, a2), (0, a3), (0, a4), (0, a5)] [(1, q5.1), (2, (((a0 + 1) : Nat) : Int))] q5.2 = _
    refine Eq.trans (x31 (r := (a0 + 1)) (cl := 3) (as := [(1, q5.1)]) (st' := []) (h := 22) hT rfl sm_17 rfl (kd_6_0 ha0)) ?_
    refine xbd (fun q6 => ?_)
    rw [rv_17]
    change zB P 222 23 [(2, ((a0 : Nat) : Int)), (2, ((a1 : Nat) : Int)), (0, a2), (0, a3), (0, a4), (0, a5)] [] q6.2 = _
    refine Eq.trans (x4 (ls' := [(2, ((a0 : Nat) : Int)), (2, ((a1 : Nat) : Int)), (0, a2), (0, a3), (0, a4), (0, (a5 + 1))]) (h := 23) hT rfl rfl rfl) ?_
    refine Eq.trans (x18 (h := 24) hT rfl) ?_
    exact rfl
/-! WordLinks$Rounder.weighAtFirst(LWordLinks$State;II)V -/
set_option maxRecDepth 100000 in
theorem e_223 {P : zP} {d : zD P} {a0 : Nat} {a1 : Nat} {a2 : Int} {a3 : Int} (ha0 : zkd a0 = 6) (ha1 : zkd a1 = 9) : MM P 223 [(2, ((a0 : Nat) : Int)), (2, ((a1 : Nat) : Int)), (0, a2), (0, a3)] d = ((MM P 14 [(2, (((a0 + 1) : Nat) : Int))] d).bind fun q1 => zB P 223 8 [(2, ((a0 : Nat) : Int)), (2, ((a1 : Nat) : Int)), (0, a2), (0, a3), (2, (((a1 + 1) : Nat) : Int)), (0, 0), (3, 0)] [] q1.2) := by
  have hT := cT_223
  refine Eq.trans (MM_def sm_223 (Nat.le_of_ble_eq_true rfl)) ?_
  change zB P 223 0 [(2, ((a0 : Nat) : Int)), (2, ((a1 : Nat) : Int)), (0, a2), (0, a3), (3, 0), (3, 0), (3, 0)] [] d = _
  refine Eq.trans (x1 (h := 0) hT rfl rfl (by decide)) ?_
  refine Eq.trans (x21r (r := a1) (cl := 9) (o := 1) (h := 1) hT rfl ha1 (by decide) rfl) ?_
  refine Eq.trans (x2 (ls' := [(2, ((a0 : Nat) : Int)), (2, ((a1 : Nat) : Int)), (0, a2), (0, a3), (2, (((a1 + 1) : Nat) : Int)), (3, 0), (3, 0)]) (h := 2) hT rfl (Nat.le_of_ble_eq_true rfl) rfl) ?_
  refine Eq.trans (x1 (h := 3) hT rfl rfl (by decide)) ?_
  refine Eq.trans (x21r (r := a0) (cl := 6) (o := 1) (h := 4) hT rfl ha0 (by decide) rfl) ?_
  refine Eq.trans (x31 (r := (a0 + 1)) (cl := 3) (as := []) (st' := []) (h := 5) hT rfl sm_14 rfl (kd_6_0 ha0)) ?_
  refine xbd (fun q1 => ?_)
  rw [rv_14]
  change zB P 223 6 [(2, ((a0 : Nat) : Int)), (2, ((a1 : Nat) : Int)), (0, a2), (0, a3), (2, (((a1 + 1) : Nat) : Int)), (3, 0), (3, 0)] [] q1.2 = _
  refine Eq.trans (x0 (h := 6) hT rfl) ?_
  refine Eq.trans (x2 (ls' := [(2, ((a0 : Nat) : Int)), (2, ((a1 : Nat) : Int)), (0, a2), (0, a3), (2, (((a1 + 1) : Nat) : Int)), (0, 0), (3, 0)]) (h := 7) hT rfl (Nat.le_of_ble_eq_true rfl) rfl) ?_
  exact rfl
set_option maxRecDepth 100000 in
theorem q_223_8 {P : zP} {d : zD P} {a0 : Nat} {a1 : Nat} {a2 : Int} {a3 : Int} {a4 : Nat} {a5 : Int} {g6 : zV} (ha0 : zkd a0 = 6) (ha1 : zkd a1 = 9) (ha4 : zkd a4 = 0) : zB P 223 8 [(2, ((a0 : Nat) : Int)), (2, ((a1 : Nat) : Int)), (0, a2), (0, a3), (2, ((a4 : Nat) : Int)), (0, a5), g6] [] d = (if zin ((1 - a2)) 2 then (if wr ((d.m ((a4 + 1)) (zix ((1 - a2))))) ≤ wr a5 then some (0, d) else ((MM P 1 [(2, ((a4 : Nat) : Int)), (0, a2), (0, a3), (0, a5)] d).bind fun q3 => (if wr q3.1 = 0 then zB P 223 8 [(2, ((a0 : Nat) : Int)), (2, ((a1 : Nat) : Int)), (0, a2), (0, a3), (2, ((a4 : Nat) : Int)), (0, (a5 + 1)), g6] [] q3.2 else (if wr ((q3.2.m a1 5)) = 0 then ((MM P 17 [(2, (((a0 + 1) : Nat) : Int)), (1, (wr ((1 + (3 * 0)))))] q3.2).bind fun q4 => zB P 223 8 [(2, ((a0 : Nat) : Int)), (2, ((a1 : Nat) : Int)), (0, a2), (0, a3), (2, ((a4 : Nat) : Int)), (0, (a5 + 1)), (0, 0)] [] q4.2) else (if zin a2 2 then (if zin a3 40 then (if zin ((1 - a2)) 2 then (if zin a5 40 then ((MM P 191 [(1, (q3.2.m (((a4 + 2) + (1 + zix a2))) (zix a3))), (1, (q3.2.m (((a4 + 2) + (1 + zix ((1 - a2))))) (zix a5)))] q3.2).bind fun q9 => ((MM P 17 [(2, (((a0 + 1) : Nat) : Int)), (1, (wr ((1 + (3 * q9.1)))))] q9.2).bind fun q10 => zB P 223 8 [(2, ((a0 : Nat) : Int)), (2, ((a1 : Nat) : Int)), (0, a2), (0, a3), (2, ((a4 : Nat) : Int)), (0, (a5 + 1)), (0, q9.1)] [] q10.2)) else none) else none) else none) else none))))) else none) := by
  have hT := cT_223
  refine Eq.trans (x1 (h := 8) hT rfl rfl (by decide)) ?_
  refine Eq.trans (x1 (h := 9) hT rfl rfl (by decide)) ?_
  refine Eq.trans (x21r (r := a4) (cl := 0) (o := 1) (h := 10) hT rfl ha4 (by decide) rfl) ?_
  refine Eq.trans (x0 (h := 11) hT rfl) ?_
  refine Eq.trans (x1 (h := 12) hT rfl rfl (by decide)) ?_
  refine Eq.trans (x5_1 (h := 13) hT rfl) ?_
  refine Eq.trans (x24 (r := (a4 + 1)) (n := 2) (h := 14) hT rfl (Or.inl (kd_0_0 ha4)) (ln_0_0 ha4)) ?_
  refine xig (fun hz2 => ?_)
  refine Eq.trans (x17_3 (h := 15) hT rfl) ?_
  refine xit (fun _ => ?_) (fun _ => ?_)
  · exact x20 (h := 54) hT rfl
  · refine Eq.trans (x1 (h := 16) hT rfl rfl (by decide)) ?_
    refine Eq.trans (x1 (h := 17) hT rfl rfl (by decide)) ?_
    refine Eq.trans (x1 (h := 18) hT rfl rfl (by decide)) ?_
    refine Eq.trans (x1 (h := 19) hT rfl rfl (by decide)) ?_
    refine Eq.trans (x31 (r := a4) (cl := 0) (as := [(0, a2), (0, a3), (0, a5)]) (st' := []) (h := 20) hT rfl sm_1 rfl ha4) ?_
    refine xbd (fun q3 => ?_)
    rw [rv_1]
    change zB P 223 21 [(2, ((a0 : Nat) : Int)), (2, ((a1 : Nat) : Int)), (0, a2), (0, a3), (2, ((a4 : Nat) : Int)), (0, a5), g6] [(0, q3.1)] q3.2 = _
    refine Eq.trans (x16_0 (h := 21) hT rfl) ?_
    refine xit (fun _ => ?_) (fun _ => ?_)
    · refine Eq.trans (x4 (ls' := [(2, ((a0 : Nat) : Int)), (2, ((a1 : Nat) : Int)), (0, a2), (0, a3), (2, ((a4 : Nat) : Int)), (0, (a5 + 1)), g6]) (h := 52) hT rfl rfl rfl) ?_
      refine Eq.trans (x18 (h := 53) hT rfl) ?_
      exact rfl
    · refine Eq.trans (x1 (h := 22) hT rfl rfl (by decide)) ?_
      refine Eq.trans (x21 (r := a1) (cl := 9) (h := 23) hT rfl ha1) ?_
      refine Eq.trans (x16_0 (h := 24) hT rfl) ?_
      refine xit (fun _ => ?_) (fun _ => ?_)
      · refine Eq.trans (x0 (h := 41) hT rfl) ?_
        refine Eq.trans (x2 (ls' := [(2, ((a0 : Nat) : Int)), (2, ((a1 : Nat) : Int)), (0, a2), (0, a3), (2, ((a4 : Nat) : Int)), (0, a5), (0, 0)]) (h := 42) hT rfl (Nat.le_of_ble_eq_true rfl) rfl) ?_
        refine Eq.trans (x1 (h := 43) hT rfl rfl (by decide)) ?_
        refine Eq.trans (x21r (r := a0) (cl := 6) (o := 1) (h := 44) hT rfl ha0 (by decide) rfl) ?_
        refine Eq.trans (x0 (h := 45) hT rfl) ?_
        refine Eq.trans (x0 (h := 46) hT rfl) ?_
        refine Eq.trans (x1 (h := 47) hT rfl rfl (by decide)) ?_
        refine Eq.trans (x5_2 (h := 48) hT rfl) ?_
        refine Eq.trans (x5_0 (h := 49) hT rfl) ?_
        refine Eq.trans (x12 (h := 50) hT rfl) ?_
        refine Eq.trans (x31 (r := (a0 + 1)) (cl := 3) (as := [(1, (wr ((1 + (3 * 0)))))]) (st' := []) (h := 51) hT rfl sm_17 rfl (kd_6_0 ha0)) ?_
        refine xbd (fun q4 => ?_)
        rw [rv_17]
        change zB P 223 52 [(2, ((a0 : Nat) : Int)), (2, ((a1 : Nat) : Int)), (0, a2), (0, a3), (2, ((a4 : Nat) : Int)), (0, a5), (0, 0)] [] q4.2 = _
        refine Eq.trans (x4 (ls' := [(2, ((a0 : Nat) : Int)), (2, ((a1 : Nat) : Int)), (0, a2), (0, a3), (2, ((a4 : Nat) : Int)), (0, (a5 + 1)), (0, 0)]) (h := 52) hT rfl rfl rfl) ?_
        refine Eq.trans (x18 (h := 53) hT rfl) ?_
        exact rfl
      · refine Eq.trans (x1 (h := 25) hT rfl rfl (by decide)) ?_
        refine Eq.trans (x21r (r := a4) (cl := 0) (o := 2) (h := 26) hT rfl ha4 (by decide) rfl) ?_
        refine Eq.trans (x1 (h := 27) hT rfl rfl (by decide)) ?_
        refine Eq.trans (x24r (r := (a4 + 2)) (n := 2) (h := 28) hT rfl (kd_0_1 ha4) (ln_0_1 ha4) (by decide)) ?_
        refine xig (fun hz5 => ?_)
        refine Eq.trans (x1 (h := 29) hT rfl rfl (by decide)) ?_
        refine Eq.trans (x24 (r := ((a4 + 2) + (1 + zix a2))) (n := 40) (h := 30) hT rfl (Or.inl (kq_0_1 ha4 (zix_lt hz5))) (lq_0_1 ha4 (zix_lt hz5))) ?_
        refine xig (fun hz6 => ?_)
        refine Eq.trans (x1 (h := 31) hT rfl rfl (by decide)) ?_
        refine Eq.trans (x21r (r := a4) (cl := 0) (o := 2) (h := 32) hT rfl ha4 (by decide) rfl) ?_
        refine Eq.trans (x0 (h := 33) hT rfl) ?_
        refine Eq.trans (x1 (h := 34) hT rfl rfl (by decide)) ?_
        refine Eq.trans (x5_1 (h := 35) hT rfl) ?_
        refine Eq.trans (x24r (r := (a4 + 2)) (n := 2) (h := 36) hT rfl (kd_0_1 ha4) (ln_0_1 ha4) (by decide)) ?_
        refine xig (fun hz7 => ?_)
        refine Eq.trans (x1 (h := 37) hT rfl rfl (by decide)) ?_
        refine Eq.trans (x24 (r := ((a4 + 2) + (1 + zix ((1 - a2))))) (n := 40) (h := 38) hT rfl (Or.inl (kq_0_1 ha4 (zix_lt hz7))) (lq_0_1 ha4 (zix_lt hz7))) ?_
        refine xig (fun hz8 => ?_)
        refine Eq.trans (x34 (as := [(1, (q3.2.m (((a4 + 2) + (1 + zix a2))) (zix a3))), (1, (q3.2.m (((a4 + 2) + (1 + zix ((1 - a2))))) (zix a5)))]) (st' := []) (h := 39) hT rfl sm_191 rfl) ?_
        refine xbd (fun q9 => ?_)
        rw [rv_191]
        change zB P 223 40 [(2, ((a0 : Nat) : Int)), (2, ((a1 : Nat) : Int)), (0, a2), (0, a3), (2, ((a4 : Nat) : Int)), (0, a5), g6] [(0, q9.1)] q9.2 = _
        refine Eq.trans (x18 (h := 40) hT rfl) ?_
        refine Eq.trans (x2 (ls' := [(2, ((a0 : Nat) : Int)), (2, ((a1 : Nat) : Int)), (0, a2), (0, a3), (2, ((a4 : Nat) : Int)), (0, a5), (0, q9.1)]) (h := 42) hT rfl (Nat.le_of_ble_eq_true rfl) rfl) ?_
        refine Eq.trans (x1 (h := 43) hT rfl rfl (by decide)) ?_
        refine Eq.trans (x21r (r := a0) (cl := 6) (o := 1) (h := 44) hT rfl ha0 (by decide) rfl) ?_
        refine Eq.trans (x0 (h := 45) hT rfl) ?_
        refine Eq.trans (x0 (h := 46) hT rfl) ?_
        refine Eq.trans (x1 (h := 47) hT rfl rfl (by decide)) ?_
        refine Eq.trans (x5_2 (h := 48) hT rfl) ?_
        refine Eq.trans (x5_0 (h := 49) hT rfl) ?_
        refine Eq.trans (x12 (h := 50) hT rfl) ?_
        refine Eq.trans (x31 (r := (a0 + 1)) (cl := 3) (as := [(1, (wr ((1 + (3 * q9.1)))))]) (st' := []) (h := 51) hT rfl sm_17 rfl (kd_6_0 ha0)) ?_
        refine xbd (fun q10 => ?_)
        rw [rv_17]
        change zB P 223 52 [(2, ((a0 : Nat) : Int)), (2, ((a1 : Nat) : Int)), (0, a2), (0, a3), (2, ((a4 : Nat) : Int)), (0, a5), (0, q9.1)] [] q10.2 = _
        refine Eq.trans (x4 (ls' := [(2, ((a0 : Nat) : Int)), (2, ((a1 : Nat) : Int)), (0, a2), (0, a3), (2, ((a4 : Nat) : Int)), (0, (a5 + 1)), (0, q9.1)]) (h := 52) hT rfl rfl rfl) ?_
        refine Eq.trans (x18 (h := 53) hT rfl) ?_
        exact rfl
/-! WordLinks$Shape.fillParts(LWordLinks$Linker;II)V -/
set_option maxRecDepth 100000 in
theorem e_224 {P : zP} {d : zD P} {a0 : Nat} {a1 : Nat} {a2 : Int} {a3 : Int} (ha0 : zkd a0 = 8) (ha1 : zkd a1 = 1) : MM P 224 [(2, ((a0 : Nat) : Int)), (2, ((a1 : Nat) : Int)), (0, a2), (0, a3)] d = zB P 224 2 [(2, ((a0 : Nat) : Int)), (2, ((a1 : Nat) : Int)), (0, a2), (0, a3), (0, 0), (3, 0)] [] d := by
  have hT := cT_224
  refine Eq.trans (MM_def sm_224 (Nat.le_of_ble_eq_true rfl)) ?_
  change zB P 224 0 [(2, ((a0 : Nat) : Int)), (2, ((a1 : Nat) : Int)), (0, a2), (0, a3), (3, 0), (3, 0)] [] d = _
  refine Eq.trans (x0 (h := 0) hT rfl) ?_
  refine Eq.trans (x2 (ls' := [(2, ((a0 : Nat) : Int)), (2, ((a1 : Nat) : Int)), (0, a2), (0, a3), (0, 0), (3, 0)]) (h := 1) hT rfl (Nat.le_of_ble_eq_true rfl) rfl) ?_
  exact rfl
set_option maxRecDepth 100000 in
theorem q_224_2 {P : zP} {d : zD P} {a0 : Nat} {a1 : Nat} {a2 : Int} {a3 : Int} {a4 : Int} {g5 : zV} (ha0 : zkd a0 = 8) (ha1 : zkd a1 = 1) : zB P 224 2 [(2, ((a0 : Nat) : Int)), (2, ((a1 : Nat) : Int)), (0, a2), (0, a3), (0, a4), g5] [] d = (if wr ((d.m a1 4)) < wr ((a4 + a2)) then some (0, d) else zB P 224 10 [(2, ((a0 : Nat) : Int)), (2, ((a1 : Nat) : Int)), (0, a2), (0, a3), (0, a4), (0, 0)] [] d) := by
  have hT := cT_224
  refine Eq.trans (x1 (h := 2) hT rfl rfl (by decide)) ?_
  refine Eq.trans (x1 (h := 3) hT rfl rfl (by decide)) ?_
  refine Eq.trans (x5_0 (h := 4) hT rfl) ?_
  refine Eq.trans (x1 (h := 5) hT rfl rfl (by decide)) ?_
  refine Eq.trans (x21 (r := a1) (cl := 1) (h := 6) hT rfl ha1) ?_
  refine Eq.trans (x17_4 (h := 7) hT rfl) ?_
  refine xit (fun _ => ?_) (fun _ => ?_)
  · exact x20 (h := 43) hT rfl
  · refine Eq.trans (x0 (h := 8) hT rfl) ?_
    refine Eq.trans (x2 (ls' := [(2, ((a0 : Nat) : Int)), (2, ((a1 : Nat) : Int)), (0, a2), (0, a3), (0, a4), (0, 0)]) (h := 9) hT rfl (Nat.le_of_ble_eq_true rfl) rfl) ?_
    exact rfl
set_option maxRecDepth 100000 in
theorem q_224_10 {P : zP} {d : zD P} {a0 : Nat} {a1 : Nat} {a2 : Int} {a3 : Int} {a4 : Int} {a5 : Int} (ha0 : zkd a0 = 8) (ha1 : zkd a1 = 1) : zB P 224 10 [(2, ((a0 : Nat) : Int)), (2, ((a1 : Nat) : Int)), (0, a2), (0, a3), (0, a4), (0, a5)] [] d = (if wr ((d.m a1 5)) < wr ((a5 + a3)) then zB P 224 2 [(2, ((a0 : Nat) : Int)), (2, ((a1 : Nat) : Int)), (0, a2), (0, a3), (0, (a4 + 1)), (0, a5)] [] d else ((MM P 28 [(0, a4), (0, a2), (0, a5), (0, a3)] d).bind fun q1 => (if wr a2 = wr 1 then (if zin q1.1 2401 then zB P 224 10 [(2, ((a0 : Nat) : Int)), (2, ((a1 : Nat) : Int)), (0, a2), (0, a3), (0, a4), (0, (a5 + 1))] [] ((q1.2.up ((a0 + 1)) (zix q1.1) 1)) else none) else (if wr a3 ≠ wr 1 then ((MM P 184 [(2, ((a0 : Nat) : Int)), (2, ((a1 : Nat) : Int)), (0, a4), (0, a2), (0, a5), (0, a3)] q1.2).bind fun q3 => (if zin q1.1 2401 then zB P 224 10 [(2, ((a0 : Nat) : Int)), (2, ((a1 : Nat) : Int)), (0, a2), (0, a3), (0, a4), (0, (a5 + 1))] [] ((q3.2.up ((a0 + 1)) (zix q1.1) q3.1)) else none)) else (if zin q1.1 2401 then zB P 224 10 [(2, ((a0 : Nat) : Int)), (2, ((a1 : Nat) : Int)), (0, a2), (0, a3), (0, a4), (0, (a5 + 1))] [] ((q1.2.up ((a0 + 1)) (zix q1.1) 1)) else none))))) := by
  have hT := cT_224
  refine Eq.trans (x1 (h := 10) hT rfl rfl (by decide)) ?_
  refine Eq.trans (x1 (h := 11) hT rfl rfl (by decide)) ?_
  refine Eq.trans (x5_0 (h := 12) hT rfl) ?_
  refine Eq.trans (x1 (h := 13) hT rfl rfl (by decide)) ?_
  refine Eq.trans (x21 (r := a1) (cl := 1) (h := 14) hT rfl ha1) ?_
  refine Eq.trans (x17_4 (h := 15) hT rfl) ?_
  refine xit (fun _ => ?_) (fun _ => ?_)
  · refine Eq.trans (x4 (ls' := [(2, ((a0 : Nat) : Int)), (2, ((a1 : Nat) : Int)), (0, a2), (0, a3), (0, (a4 + 1)), (0, a5)]) (h := 41) hT rfl rfl rfl) ?_
    refine Eq.trans (x18 (h := 42) hT rfl) ?_
    exact rfl
  · refine Eq.trans (x1 (h := 16) hT rfl rfl (by decide)) ?_
    refine Eq.trans (x21r (r := a0) (cl := 8) (o := 1) (h := 17) hT rfl ha0 (by decide) rfl) ?_
    refine Eq.trans (x1 (h := 18) hT rfl rfl (by decide)) ?_
    refine Eq.trans (x1 (h := 19) hT rfl rfl (by decide)) ?_
    refine Eq.trans (x1 (h := 20) hT rfl rfl (by decide)) ?_
    refine Eq.trans (x1 (h := 21) hT rfl rfl (by decide)) ?_
    refine Eq.trans (x34 (as := [(0, a4), (0, a2), (0, a5), (0, a3)]) (st' := [(2, (((a0 + 1) : Nat) : Int))]) (h := 22) hT rfl sm_28 rfl) ?_
    refine xbd (fun q1 => ?_)
    rw [rv_28]
    change zB P 224 23 [(2, ((a0 : Nat) : Int)), (2, ((a1 : Nat) : Int)), (0, a2), (0, a3), (0, a4), (0, a5)] [(0, q1.1), (2, (((a0 + 1) : Nat) : Int))] q1.2 = _
    refine Eq.trans (x1 (h := 23) hT rfl rfl (by decide)) ?_
    refine Eq.trans (x0 (h := 24) hT rfl) ?_
    refine Eq.trans (x17_0 (h := 25) hT rfl) ?_
    refine xit (fun _ => ?_) (fun _ => ?_)
    · refine Eq.trans (x0 (h := 29) hT rfl) ?_
      refine Eq.trans (x18 (h := 30) hT rfl) ?_
      refine Eq.trans (x25a (r := (a0 + 1)) (n := 2401) (h := 38) hT rfl (kd_8_0 ha0) (ln_8_0 ha0) (by decide) rfl) ?_
      refine xig (fun hz2 => ?_)
      refine Eq.trans (x4 (ls' := [(2, ((a0 : Nat) : Int)), (2, ((a1 : Nat) : Int)), (0, a2), (0, a3), (0, a4), (0, (a5 + 1))]) (h := 39) hT rfl rfl rfl) ?_
      refine Eq.trans (x18 (h := 40) hT rfl) ?_
      exact rfl
    · refine Eq.trans (x1 (h := 26) hT rfl rfl (by decide)) ?_
      refine Eq.trans (x0 (h := 27) hT rfl) ?_
      refine Eq.trans (x17_1 (h := 28) hT rfl) ?_
      refine xit (fun _ => ?_) (fun _ => ?_)
      · refine Eq.trans (x1 (h := 31) hT rfl rfl (by decide)) ?_
        refine Eq.trans (x1 (h := 32) hT rfl rfl (by decide)) ?_
        refine Eq.trans (x1 (h := 33) hT rfl rfl (by decide)) ?_
        refine Eq.trans (x1 (h := 34) hT rfl rfl (by decide)) ?_
        refine Eq.trans (x1 (h := 35) hT rfl rfl (by decide)) ?_
        refine Eq.trans (x1 (h := 36) hT rfl rfl (by decide)) ?_
        refine Eq.trans (x31 (r := a0) (cl := 8) (as := [(2, ((a1 : Nat) : Int)), (0, a4), (0, a2), (0, a5), (0, a3)]) (st' := [(0, q1.1), (2, (((a0 + 1) : Nat) : Int))]) (h := 37) hT rfl sm_184 rfl ha0) ?_
        refine xbd (fun q3 => ?_)
        rw [rv_184]
        change zB P 224 38 [(2, ((a0 : Nat) : Int)), (2, ((a1 : Nat) : Int)), (0, a2), (0, a3), (0, a4), (0, a5)] [(1, q3.1), (0, q1.1), (2, (((a0 + 1) : Nat) : Int))] q3.2 = _
        refine Eq.trans (x25a (r := (a0 + 1)) (n := 2401) (h := 38) hT rfl (kd_8_0 ha0) (ln_8_0 ha0) (by decide) rfl) ?_
        refine xig (fun hz4 => ?_)
        refine Eq.trans (x4 (ls' := [(2, ((a0 : Nat) : Int)), (2, ((a1 : Nat) : Int)), (0, a2), (0, a3), (0, a4), (0, (a5 + 1))]) (h := 39) hT rfl rfl rfl) ?_
        refine Eq.trans (x18 (h := 40) hT rfl) ?_
        exact rfl
      · refine Eq.trans (x0 (h := 29) hT rfl) ?_
        refine Eq.trans (x18 (h := 30) hT rfl) ?_
        refine Eq.trans (x25a (r := (a0 + 1)) (n := 2401) (h := 38) hT rfl (kd_8_0 ha0) (ln_8_0 ha0) (by decide) rfl) ?_
        refine xig (fun hz5 => ?_)
        refine Eq.trans (x4 (ls' := [(2, ((a0 : Nat) : Int)), (2, ((a1 : Nat) : Int)), (0, a2), (0, a3), (0, a4), (0, (a5 + 1))]) (h := 39) hT rfl rfl rfl) ?_
        refine Eq.trans (x18 (h := 40) hT rfl) ?_
        exact rfl
/-! WordLinks$State.takeAll(LWordLinks$State;)V -/
set_option maxRecDepth 100000 in
theorem e_225 {P : zP} {d : zD P} {a0 : Nat} {a1 : Nat} (ha0 : zkd a0 = 9) (ha1 : zkd a1 = 9) : MM P 225 [(2, ((a0 : Nat) : Int)), (2, ((a1 : Nat) : Int))] d = ((MM P 91 [(2, (((a0 + 1) : Nat) : Int)), (2, (((a1 + 1) : Nat) : Int))] d).bind fun q1 => ((MM P 188 [(2, ((a0 : Nat) : Int)), (2, (((a1 + 16) : Nat) : Int)), (2, (((a1 + 19) : Nat) : Int))] q1.2).bind fun q2 => ((MM P 119 [(2, ((a0 : Nat) : Int)), (2, ((a1 : Nat) : Int))] q2.2).bind fun q3 => (if (q3.2.m a1 5) = 0 ∨ (q3.2.m a1 5) = 1 then (if (((q3.2.up a0 5 ((q3.2.m a1 5)))).m a1 6) = 0 ∨ (((q3.2.up a0 5 ((q3.2.m a1 5)))).m a1 6) = 1 then some (0, (((((q3.2.up a0 5 ((q3.2.m a1 5)))).up a0 6 ((((q3.2.up a0 5 ((q3.2.m a1 5)))).m a1 6)))).up a0 7 ((((((q3.2.up a0 5 ((q3.2.m a1 5)))).up a0 6 ((((q3.2.up a0 5 ((q3.2.m a1 5)))).m a1 6)))).m a1 7)))) else none) else none)))) := by
  have hT := cT_225
  refine Eq.trans (MM_def sm_225 (Nat.le_of_ble_eq_true rfl)) ?_
  change zB P 225 0 [(2, ((a0 : Nat) : Int)), (2, ((a1 : Nat) : Int))] [] d = _
  refine Eq.trans (x1 (h := 0) hT rfl rfl (by decide)) ?_
  refine Eq.trans (x21r (r := a0) (cl := 9) (o := 1) (h := 1) hT rfl ha0 (by decide) rfl) ?_
  refine Eq.trans (x1 (h := 2) hT rfl rfl (by decide)) ?_
  refine Eq.trans (x21r (r := a1) (cl := 9) (o := 1) (h := 3) hT rfl ha1 (by decide) rfl) ?_
  refine Eq.trans (x31 (r := (a0 + 1)) (cl := 0) (as := [(2, (((a1 + 1) : Nat) : Int))]) (st' := []) (h := 4) hT rfl sm_91 rfl (kd_9_0 ha0)) ?_
  refine xbd (fun q1 => ?_)
  rw [rv_91]
  change zB P 225 5 [(2, ((a0 : Nat) : Int)), (2, ((a1 : Nat) : Int))] [] q1.2 = _
  refine Eq.trans (x1 (h := 5) hT rfl rfl (by decide)) ?_
  refine Eq.trans (x1 (h := 6) hT rfl rfl (by decide)) ?_
  refine Eq.trans (x21r (r := a1) (cl := 9) (o := 16) (h := 7) hT rfl ha1 (by decide) rfl) ?_
  refine Eq.trans (x1 (h := 8) hT rfl rfl (by decide)) ?_
  refine Eq.trans (x21r (r := a1) (cl := 9) (o := 19) (h := 9) hT rfl ha1 (by decide) rfl) ?_
  refine Eq.trans (x31 (r := a0) (cl := 9) (as := [(2, (((a1 + 16) : Nat) : Int)), (2, (((a1 + 19) : Nat) : Int))]) (st' := []) (h := 10) hT rfl sm_188 rfl ha0) ?_
  refine xbd (fun q2 => ?_)
  rw [rv_188]
  change zB P 225 11 [(2, ((a0 : Nat) : Int)), (2, ((a1 : Nat) : Int))] [] q2.2 = _
  refine Eq.trans (x1 (h := 11) hT rfl rfl (by decide)) ?_
  refine Eq.trans (x1 (h := 12) hT rfl rfl (by decide)) ?_
  refine Eq.trans (x31 (r := a0) (cl := 9) (as := [(2, ((a1 : Nat) : Int))]) (st' := []) (h := 13) hT rfl sm_119 rfl ha0) ?_
  refine xbd (fun q3 => ?_)
  rw [rv_119]
  change zB P 225 14 [(2, ((a0 : Nat) : Int)), (2, ((a1 : Nat) : Int))] [] q3.2 = _
  refine Eq.trans (x1 (h := 14) hT rfl rfl (by decide)) ?_
  refine Eq.trans (x1 (h := 15) hT rfl rfl (by decide)) ?_
  refine Eq.trans (x21 (r := a1) (cl := 9) (h := 16) hT rfl ha1) ?_
  refine Eq.trans (x22b (r := a0) (cl := 9) (h := 17) hT rfl ha0 (by decide) rfl) ?_
  refine xig (fun hz4 => ?_)
  refine Eq.trans (x1 (h := 18) hT rfl rfl (by decide)) ?_
  refine Eq.trans (x1 (h := 19) hT rfl rfl (by decide)) ?_
  refine Eq.trans (x21 (r := a1) (cl := 9) (h := 20) hT rfl ha1) ?_
  refine Eq.trans (x22b (r := a0) (cl := 9) (h := 21) hT rfl ha0 (by decide) rfl) ?_
  refine xig (fun hz5 => ?_)
  refine Eq.trans (x1 (h := 22) hT rfl rfl (by decide)) ?_
  refine Eq.trans (x1 (h := 23) hT rfl rfl (by decide)) ?_
  refine Eq.trans (x21 (r := a1) (cl := 9) (h := 24) hT rfl ha1) ?_
  refine Eq.trans (x22 (r := a0) (cl := 9) (h := 25) hT rfl ha0 (by decide) rfl (by decide)) ?_
  exact x20 (h := 26) hT rfl
/-! WordLinks$State.twinOf(I)I -/
set_option maxRecDepth 100000 in
theorem e_226 {P : zP} {d : zD P} {a0 : Nat} {a1 : Int} (ha0 : zkd a0 = 9) : MM P 226 [(2, ((a0 : Nat) : Int)), (0, a1)] d = ((MM P 187 [(2, ((a0 : Nat) : Int)), (0, 0), (0, a1), (0, 0)] d).bind fun q1 => (if wr q1.1 < 0 then some ((-1), q1.2) else ((MM P 187 [(2, ((a0 : Nat) : Int)), (0, 1), (0, q1.1), (0, 0)] q1.2).bind fun q2 => (if wr q2.1 ≠ wr a1 then some ((-1), q2.2) else some (q1.1, q2.2))))) := by
  have hT := cT_226
  refine Eq.trans (MM_def sm_226 (Nat.le_of_ble_eq_true rfl)) ?_
  change zB P 226 0 [(2, ((a0 : Nat) : Int)), (0, a1), (3, 0)] [] d = _
  refine Eq.trans (x1 (h := 0) hT rfl rfl (by decide)) ?_
  refine Eq.trans (x0 (h := 1) hT rfl) ?_
  refine Eq.trans (x1 (h := 2) hT rfl rfl (by decide)) ?_
  refine Eq.trans (x0 (h := 3) hT rfl) ?_
  refine Eq.trans (x31 (r := a0) (cl := 9) (as := [(0, 0), (0, a1), (0, 0)]) (st' := []) (h := 4) hT rfl sm_187 rfl ha0) ?_
  refine xbd (fun q1 => ?_)
  rw [rv_187]
  change zB P 226 5 [(2, ((a0 : Nat) : Int)), (0, a1), (3, 0)] [(0, q1.1)] q1.2 = _
  refine Eq.trans (x2 (ls' := [(2, ((a0 : Nat) : Int)), (0, a1), (0, q1.1)]) (h := 5) hT rfl (Nat.le_of_ble_eq_true rfl) rfl) ?_
  refine Eq.trans (x1 (h := 6) hT rfl rfl (by decide)) ?_
  refine Eq.trans (x16_2 (h := 7) hT rfl) ?_
  refine xit (fun _ => ?_) (fun _ => ?_)
  · refine Eq.trans (x0 (h := 17) hT rfl) ?_
    exact x201 (h := 18) hT rfl
  · refine Eq.trans (x1 (h := 8) hT rfl rfl (by decide)) ?_
    refine Eq.trans (x0 (h := 9) hT rfl) ?_
    refine Eq.trans (x1 (h := 10) hT rfl rfl (by decide)) ?_
    refine Eq.trans (x0 (h := 11) hT rfl) ?_
    refine Eq.trans (x31 (r := a0) (cl := 9) (as := [(0, 1), (0, q1.1), (0, 0)]) (st' := []) (h := 12) hT rfl sm_187 rfl ha0) ?_
    refine xbd (fun q2 => ?_)
    rw [rv_187]
    change zB P 226 13 [(2, ((a0 : Nat) : Int)), (0, a1), (0, q1.1)] [(0, q2.1)] q2.2 = _
    refine Eq.trans (x1 (h := 13) hT rfl rfl (by decide)) ?_
    refine Eq.trans (x17_1 (h := 14) hT rfl) ?_
    refine xit (fun _ => ?_) (fun _ => ?_)
    · refine Eq.trans (x0 (h := 17) hT rfl) ?_
      exact x201 (h := 18) hT rfl
    · refine Eq.trans (x1 (h := 15) hT rfl rfl (by decide)) ?_
      refine Eq.trans (x18 (h := 16) hT rfl) ?_
      exact x201 (h := 18) hT rfl
/-! WordLinks$Tape.readLoneWord(I)J -/
set_option maxRecDepth 100000 in
theorem e_227 {P : zP} {d : zD P} {a0 : Nat} {a1 : Int} (ha0 : zkd a0 = 10) : MM P 227 [(2, ((a0 : Nat) : Int)), (0, a1)] d = ((MM P 34 [(2, ((a0 : Nat) : Int)), (0, a1)] d).bind fun q1 => ((MM P 190 [(2, ((a0 : Nat) : Int))] q1.2).bind fun q2 => (if wr ((q2.2.m a0 3)) ≠ wr ((q2.2.m a0 2)) then some ((-1), q2.2) else some (q2.1, q2.2)))) := by
  have hT := cT_227
  refine Eq.trans (MM_def sm_227 (Nat.le_of_ble_eq_true rfl)) ?_
  change zB P 227 0 [(2, ((a0 : Nat) : Int)), (0, a1), (3, 0), (3, 0)] [] d = _
  refine Eq.trans (x1 (h := 0) hT rfl rfl (by decide)) ?_
  refine Eq.trans (x1 (h := 1) hT rfl rfl (by decide)) ?_
  refine Eq.trans (x31 (r := a0) (cl := 10) (as := [(0, a1)]) (st' := []) (h := 2) hT rfl sm_34 rfl ha0) ?_
  refine xbd (fun q1 => ?_)
  rw [rv_34]
  change zB P 227 3 [(2, ((a0 : Nat) : Int)), (0, a1), (3, 0), (3, 0)] [] q1.2 = _
  refine Eq.trans (x1 (h := 3) hT rfl rfl (by decide)) ?_
  refine Eq.trans (x31 (r := a0) (cl := 10) (as := []) (st' := []) (h := 4) hT rfl sm_190 rfl ha0) ?_
  refine xbd (fun q2 => ?_)
  rw [rv_190]
  change zB P 227 5 [(2, ((a0 : Nat) : Int)), (0, a1), (3, 0), (3, 0)] [(1, q2.1)] q2.2 = _
  refine Eq.trans (x3 (ls' := [(2, ((a0 : Nat) : Int)), (0, a1), (1, q2.1), (3, 0)]) (h := 5) hT rfl (Nat.le_of_ble_eq_true rfl) rfl) ?_
  refine Eq.trans (x1 (h := 6) hT rfl rfl (by decide)) ?_
  refine Eq.trans (x21 (r := a0) (cl := 10) (h := 7) hT rfl ha0) ?_
  refine Eq.trans (x1 (h := 8) hT rfl rfl (by decide)) ?_
  refine Eq.trans (x21 (r := a0) (cl := 10) (h := 9) hT rfl ha0) ?_
  refine Eq.trans (x17_1 (h := 10) hT rfl) ?_
  refine xit (fun _ => ?_) (fun _ => ?_)
  · refine Eq.trans (x0 (h := 13) hT rfl) ?_
    exact x202 (h := 14) hT rfl
  · refine Eq.trans (x1 (h := 11) hT rfl rfl (by decide)) ?_
    refine Eq.trans (x18 (h := 12) hT rfl) ?_
    exact x202 (h := 14) hT rfl
/-! WordLinks$Tape.readSentence(LWordLinks$Rows;I)Z -/
set_option maxRecDepth 100000 in
theorem e_228 {P : zP} {d : zD P} {a0 : Nat} {a1 : Nat} {a2 : Int} (ha0 : zkd a0 = 10) (ha1 : zkd a1 = 7) : MM P 228 [(2, ((a0 : Nat) : Int)), (2, ((a1 : Nat) : Int)), (0, a2)] d = ((MM P 26 [(2, ((a1 : Nat) : Int))] d).bind fun q1 => zB P 228 4 [(2, ((a0 : Nat) : Int)), (2, ((a1 : Nat) : Int)), (0, a2), (0, 0), (3, 0), (3, 0)] [] q1.2) := by
  have hT := cT_228
  refine Eq.trans (MM_def sm_228 (Nat.le_of_ble_eq_true rfl)) ?_
  change zB P 228 0 [(2, ((a0 : Nat) : Int)), (2, ((a1 : Nat) : Int)), (0, a2), (3, 0), (3, 0), (3, 0)] [] d = _
  refine Eq.trans (x1 (h := 0) hT rfl rfl (by decide)) ?_
  refine Eq.trans (x31 (r := a1) (cl := 7) (as := []) (st' := []) (h := 1) hT rfl sm_26 rfl ha1) ?_
  refine xbd (fun q1 => ?_)
  rw [rv_26]
  change zB P 228 2 [(2, ((a0 : Nat) : Int)), (2, ((a1 : Nat) : Int)), (0, a2), (3, 0), (3, 0), (3, 0)] [] q1.2 = _
  refine Eq.trans (x0 (h := 2) hT rfl) ?_
  refine Eq.trans (x2 (ls' := [(2, ((a0 : Nat) : Int)), (2, ((a1 : Nat) : Int)), (0, a2), (0, 0), (3, 0), (3, 0)]) (h := 3) hT rfl (Nat.le_of_ble_eq_true rfl) rfl) ?_
  exact rfl
set_option maxRecDepth 100000 in
theorem q_228_4 {P : zP} {d : zD P} {a0 : Nat} {a1 : Nat} {a2 : Int} {a3 : Int} {g4 : zV} {g5 : zV} (ha0 : zkd a0 = 10) (ha1 : zkd a1 = 7) : zB P 228 4 [(2, ((a0 : Nat) : Int)), (2, ((a1 : Nat) : Int)), (0, a2), (0, a3), g4, g5] [] d = (if wr a2 ≤ wr a3 then ((MM P 121 [(2, ((a0 : Nat) : Int))] d).bind fun q2 => (if wr q2.1 = 0 then ((MM P 37 [(2, ((a0 : Nat) : Int)), (0, 1)] q2.2).bind fun q3 => (if q3.1 = 0 ∨ q3.1 = 1 then some (q3.1, q3.2) else none)) else ((MM P 37 [(2, ((a0 : Nat) : Int)), (0, 5)] q2.2).bind fun q4 => (if q4.1 = 0 ∨ q4.1 = 1 then some (q4.1, q4.2) else none)))) else ((MM P 121 [(2, ((a0 : Nat) : Int))] d).bind fun q5 => (if wr q5.1 ≠ 0 then ((MM P 190 [(2, ((a0 : Nat) : Int))] q5.2).bind fun q6 => (if wrl 0 ≤ wrl q6.1 then ((MM P 27 [(2, ((a1 : Nat) : Int)), (1, q6.1)] q6.2).bind fun q7 => ((MM P 40 [(2, ((a0 : Nat) : Int))] q7.2).bind fun q8 => (if wr q8.1 = wr 32 then zB P 228 4 [(2, ((a0 : Nat) : Int)), (2, ((a1 : Nat) : Int)), (0, a2), (0, (a3 + 1)), (1, q6.1), (3, 0)] [] ((q8.2.up a0 3 (((q8.2.m a0 3) + 1)))) else some (1, q8.2)))) else some (0, q6.2))) else ((MM P 37 [(2, ((a0 : Nat) : Int)), (0, 1)] q5.2).bind fun q9 => (if q9.1 = 0 ∨ q9.1 = 1 then some (q9.1, q9.2) else none))))) := by
  have hT := cT_228
  refine Eq.trans (x1 (h := 4) hT rfl rfl (by decide)) ?_
  refine Eq.trans (x1 (h := 5) hT rfl rfl (by decide)) ?_
  refine Eq.trans (x17_3 (h := 6) hT rfl) ?_
  refine xit (fun _ => ?_) (fun _ => ?_)
  · refine Eq.trans (x1 (h := 40) hT rfl rfl (by decide)) ?_
    refine Eq.trans (x1 (h := 41) hT rfl rfl (by decide)) ?_
    refine Eq.trans (x31 (r := a0) (cl := 10) (as := []) (st' := [(2, ((a0 : Nat) : Int))]) (h := 42) hT rfl sm_121 rfl ha0) ?_
    refine xbd (fun q2 => ?_)
    rw [rv_121]
    change zB P 228 43 [(2, ((a0 : Nat) : Int)), (2, ((a1 : Nat) : Int)), (0, a2), (0, a3), g4, g5] [(0, q2.1), (2, ((a0 : Nat) : Int))] q2.2 = _
    refine Eq.trans (x16_0 (h := 43) hT rfl) ?_
    refine xit (fun _ => ?_) (fun _ => ?_)
    · refine Eq.trans (x0 (h := 46) hT rfl) ?_
      refine Eq.trans (x31 (r := a0) (cl := 10) (as := [(0, 1)]) (st' := []) (h := 47) hT rfl sm_37 rfl ha0) ?_
      refine xbd (fun q3 => ?_)
      rw [rv_37]
      change zB P 228 48 [(2, ((a0 : Nat) : Int)), (2, ((a1 : Nat) : Int)), (0, a2), (0, a3), g4, g5] [(0, q3.1)] q3.2 = _
      exact x203 (h := 48) hT rfl
    · refine Eq.trans (x0 (h := 44) hT rfl) ?_
      refine Eq.trans (x18 (h := 45) hT rfl) ?_
      refine Eq.trans (x31 (r := a0) (cl := 10) (as := [(0, 5)]) (st' := []) (h := 47) hT rfl sm_37 rfl ha0) ?_
      refine xbd (fun q4 => ?_)
      rw [rv_37]
      change zB P 228 48 [(2, ((a0 : Nat) : Int)), (2, ((a1 : Nat) : Int)), (0, a2), (0, a3), g4, g5] [(0, q4.1)] q4.2 = _
      exact x203 (h := 48) hT rfl
  · refine Eq.trans (x1 (h := 7) hT rfl rfl (by decide)) ?_
    refine Eq.trans (x31 (r := a0) (cl := 10) (as := []) (st' := []) (h := 8) hT rfl sm_121 rfl ha0) ?_
    refine xbd (fun q5 => ?_)
    rw [rv_121]
    change zB P 228 9 [(2, ((a0 : Nat) : Int)), (2, ((a1 : Nat) : Int)), (0, a2), (0, a3), g4, g5] [(0, q5.1)] q5.2 = _
    refine Eq.trans (x16_1 (h := 9) hT rfl) ?_
    refine xit (fun _ => ?_) (fun _ => ?_)
    · refine Eq.trans (x1 (h := 14) hT rfl rfl (by decide)) ?_
      refine Eq.trans (x31 (r := a0) (cl := 10) (as := []) (st' := []) (h := 15) hT rfl sm_190 rfl ha0) ?_
      refine xbd (fun q6 => ?_)
      rw [rv_190]
      change zB P 228 16 [(2, ((a0 : Nat) : Int)), (2, ((a1 : Nat) : Int)), (0, a2), (0, a3), g4, g5] [(1, q6.1)] q6.2 = _
      refine Eq.trans (x3 (ls' := [(2, ((a0 : Nat) : Int)), (2, ((a1 : Nat) : Int)), (0, a2), (0, a3), (1, q6.1), (3, 0)]) (h := 16) hT rfl (Nat.le_of_ble_eq_true rfl) rfl) ?_
      refine Eq.trans (x1 (h := 17) hT rfl rfl (by decide)) ?_
      refine Eq.trans (x0 (h := 18) hT rfl) ?_
      refine Eq.trans (x116_3 (h := 19) hT rfl rfl) ?_
      refine xit (fun _ => ?_) (fun _ => ?_)
      · refine Eq.trans (x1 (h := 23) hT rfl rfl (by decide)) ?_
        refine Eq.trans (x1 (h := 24) hT rfl rfl (by decide)) ?_
        refine Eq.trans (x31 (r := a1) (cl := 7) (as := [(1, q6.1)]) (st' := []) (h := 25) hT rfl sm_27 rfl ha1) ?_
        refine xbd (fun q7 => ?_)
        rw [rv_27]
        change zB P 228 26 [(2, ((a0 : Nat) : Int)), (2, ((a1 : Nat) : Int)), (0, a2), (0, a3), (1, q6.1), (3, 0)] [] q7.2 = _
        refine Eq.trans (x1 (h := 26) hT rfl rfl (by decide)) ?_
        refine Eq.trans (x31 (r := a0) (cl := 10) (as := []) (st' := []) (h := 27) hT rfl sm_40 rfl ha0) ?_
        refine xbd (fun q8 => ?_)
        rw [rv_40]
        change zB P 228 28 [(2, ((a0 : Nat) : Int)), (2, ((a1 : Nat) : Int)), (0, a2), (0, a3), (1, q6.1), (3, 0)] [(0, q8.1)] q8.2 = _
        refine Eq.trans (x0 (h := 28) hT rfl) ?_
        refine Eq.trans (x17_0 (h := 29) hT rfl) ?_
        refine xit (fun _ => ?_) (fun _ => ?_)
        · refine Eq.trans (x1 (h := 32) hT rfl rfl (by decide)) ?_
          refine Eq.trans (x13 (h := 33) hT rfl (by decide)) ?_
          refine Eq.trans (x21 (r := a0) (cl := 10) (h := 34) hT rfl ha0) ?_
          refine Eq.trans (x0 (h := 35) hT rfl) ?_
          refine Eq.trans (x5_0 (h := 36) hT rfl) ?_
          refine Eq.trans (x22 (r := a0) (cl := 10) (h := 37) hT rfl ha0 (by decide) rfl (by decide)) ?_
          refine Eq.trans (x4 (ls' := [(2, ((a0 : Nat) : Int)), (2, ((a1 : Nat) : Int)), (0, a2), (0, (a3 + 1)), (1, q6.1), (3, 0)]) (h := 38) hT rfl rfl rfl) ?_
          refine Eq.trans (x18 (h := 39) hT rfl) ?_
          exact rfl
        · refine Eq.trans (x0 (h := 30) hT rfl) ?_
          exact x203c (h := 31) hT rfl (by decide)
      · refine Eq.trans (x0 (h := 21) hT rfl) ?_
        exact x203c (h := 22) hT rfl (by decide)
    · refine Eq.trans (x1 (h := 10) hT rfl rfl (by decide)) ?_
      refine Eq.trans (x0 (h := 11) hT rfl) ?_
      refine Eq.trans (x31 (r := a0) (cl := 10) (as := [(0, 1)]) (st' := []) (h := 12) hT rfl sm_37 rfl ha0) ?_
      refine xbd (fun q9 => ?_)
      rw [rv_37]
      change zB P 228 13 [(2, ((a0 : Nat) : Int)), (2, ((a1 : Nat) : Int)), (0, a2), (0, a3), g4, g5] [(0, q9.1)] q9.2 = _
      exact x203 (h := 13) hT rfl
/-! WordLinks.best(IIII)I -/
set_option maxRecDepth 100000 in
theorem e_230 {P : zP} {d : zD P} {a0 : Nat} {a1 : Int} {a2 : Int} {a3 : Int} {a4 : Int} (ha0 : zkd a0 = 11) : MM P 230 [(2, ((a0 : Nat) : Int)), (0, a1), (0, a2), (0, a3), (0, a4)] d = ((MM P 45 [(0, a1)] d).bind fun q1 => (if wr q1.1 = 0 then some ((-1), q1.2) else ((MM P 126 [(2, ((a0 : Nat) : Int)), (0, a1), (0, a2)] q1.2).bind fun q2 => (if wr q2.1 = 0 then some ((-1), q2.2) else (if wr a3 < 0 then some ((-1), q2.2) else (if wr a4 < 0 then some ((-1), q2.2) else (if wr a4 ≤ wr 1 then ((MM P 187 [(2, (((a0 + 3) : Nat) : Int)), (0, a1), (0, a2), (0, a3)] q2.2).bind fun q3 => (if 0 ≤ wr q3.1 then (if wr a4 ≠ 0 then ((MM P 32 [(2, (((a0 + 3) : Nat) : Int)), (0, a1), (0, a2), (0, q3.1)] q3.2).bind fun q4 => some (q4.1, q4.2)) else some (q3.1, q3.2)) else some ((-4), q3.2))) else some ((-1), q2.2)))))))) := by
  have hT := cT_230
  refine Eq.trans (MM_def sm_230 (Nat.le_of_ble_eq_true rfl)) ?_
  change zB P 230 0 [(2, ((a0 : Nat) : Int)), (0, a1), (0, a2), (0, a3), (0, a4), (3, 0)] [] d = _
  refine Eq.trans (x1 (h := 0) hT rfl rfl (by decide)) ?_
  refine Eq.trans (x34 (as := [(0, a1)]) (st' := []) (h := 1) hT rfl sm_45 rfl) ?_
  refine xbd (fun q1 => ?_)
  rw [rv_45]
  change zB P 230 2 [(2, ((a0 : Nat) : Int)), (0, a1), (0, a2), (0, a3), (0, a4), (3, 0)] [(0, q1.1)] q1.2 = _
  refine Eq.trans (x16_0 (h := 2) hT rfl) ?_
  refine xit (fun _ => ?_) (fun _ => ?_)
  · refine Eq.trans (x0 (h := 15) hT rfl) ?_
    exact x201 (h := 16) hT rfl
  · refine Eq.trans (x1 (h := 3) hT rfl rfl (by decide)) ?_
    refine Eq.trans (x1 (h := 4) hT rfl rfl (by decide)) ?_
    refine Eq.trans (x1 (h := 5) hT rfl rfl (by decide)) ?_
    refine Eq.trans (x31 (r := a0) (cl := 11) (as := [(0, a1), (0, a2)]) (st' := []) (h := 6) hT rfl sm_126 rfl ha0) ?_
    refine xbd (fun q2 => ?_)
    rw [rv_126]
    change zB P 230 7 [(2, ((a0 : Nat) : Int)), (0, a1), (0, a2), (0, a3), (0, a4), (3, 0)] [(0, q2.1)] q2.2 = _
    refine Eq.trans (x16_0 (h := 7) hT rfl) ?_
    refine xit (fun _ => ?_) (fun _ => ?_)
    · refine Eq.trans (x0 (h := 15) hT rfl) ?_
      exact x201 (h := 16) hT rfl
    · refine Eq.trans (x1 (h := 8) hT rfl rfl (by decide)) ?_
      refine Eq.trans (x16_2 (h := 9) hT rfl) ?_
      refine xit (fun _ => ?_) (fun _ => ?_)
      · refine Eq.trans (x0 (h := 15) hT rfl) ?_
        exact x201 (h := 16) hT rfl
      · refine Eq.trans (x1 (h := 10) hT rfl rfl (by decide)) ?_
        refine Eq.trans (x16_2 (h := 11) hT rfl) ?_
        refine xit (fun _ => ?_) (fun _ => ?_)
        · refine Eq.trans (x0 (h := 15) hT rfl) ?_
          exact x201 (h := 16) hT rfl
        · refine Eq.trans (x1 (h := 12) hT rfl rfl (by decide)) ?_
          refine Eq.trans (x0 (h := 13) hT rfl) ?_
          refine Eq.trans (x17_5 (h := 14) hT rfl) ?_
          refine xit (fun _ => ?_) (fun _ => ?_)
          · refine Eq.trans (x1 (h := 17) hT rfl rfl (by decide)) ?_
            refine Eq.trans (x21r (r := a0) (cl := 11) (o := 3) (h := 18) hT rfl ha0 (by decide) rfl) ?_
            refine Eq.trans (x1 (h := 19) hT rfl rfl (by decide)) ?_
            refine Eq.trans (x1 (h := 20) hT rfl rfl (by decide)) ?_
            refine Eq.trans (x1 (h := 21) hT rfl rfl (by decide)) ?_
            refine Eq.trans (x31 (r := (a0 + 3)) (cl := 9) (as := [(0, a1), (0, a2), (0, a3)]) (st' := []) (h := 22) hT rfl sm_187 rfl (kd_11_1 ha0)) ?_
            refine xbd (fun q3 => ?_)
            rw [rv_187]
            change zB P 230 23 [(2, ((a0 : Nat) : Int)), (0, a1), (0, a2), (0, a3), (0, a4), (3, 0)] [(0, q3.1)] q3.2 = _
            refine Eq.trans (x2 (ls' := [(2, ((a0 : Nat) : Int)), (0, a1), (0, a2), (0, a3), (0, a4), (0, q3.1)]) (h := 23) hT rfl (Nat.le_of_ble_eq_true rfl) rfl) ?_
            refine Eq.trans (x1 (h := 24) hT rfl rfl (by decide)) ?_
            refine Eq.trans (x16_3 (h := 25) hT rfl) ?_
            refine xit (fun _ => ?_) (fun _ => ?_)
            · refine Eq.trans (x1 (h := 28) hT rfl rfl (by decide)) ?_
              refine Eq.trans (x16_1 (h := 29) hT rfl) ?_
              refine xit (fun _ => ?_) (fun _ => ?_)
              · refine Eq.trans (x1 (h := 32) hT rfl rfl (by decide)) ?_
                refine Eq.trans (x21r (r := a0) (cl := 11) (o := 3) (h := 33) hT rfl ha0 (by decide) rfl) ?_
                refine Eq.trans (x1 (h := 34) hT rfl rfl (by decide)) ?_
                refine Eq.trans (x1 (h := 35) hT rfl rfl (by decide)) ?_
                refine Eq.trans (x1 (h := 36) hT rfl rfl (by decide)) ?_
                refine Eq.trans (x31 (r := (a0 + 3)) (cl := 9) (as := [(0, a1), (0, a2), (0, q3.1)]) (st' := []) (h := 37) hT rfl sm_32 rfl (kd_11_1 ha0)) ?_
                refine xbd (fun q4 => ?_)
                rw [rv_32]
                change zB P 230 38 [(2, ((a0 : Nat) : Int)), (0, a1), (0, a2), (0, a3), (0, a4), (0, q3.1)] [(0, q4.1)] q4.2 = _
                exact x201 (h := 38) hT rfl
              · refine Eq.trans (x1 (h := 30) hT rfl rfl (by decide)) ?_
                refine Eq.trans (x18 (h := 31) hT rfl) ?_
                exact x201 (h := 38) hT rfl
            · refine Eq.trans (x0 (h := 26) hT rfl) ?_
              exact x201 (h := 27) hT rfl
          · refine Eq.trans (x0 (h := 15) hT rfl) ?_
            exact x201 (h := 16) hT rfl
/-! WordLinks.count(I)I -/
set_option maxRecDepth 100000 in
theorem e_231 {P : zP} {d : zD P} {a0 : Nat} {a1 : Int} (ha0 : zkd a0 = 11) : MM P 231 [(2, ((a0 : Nat) : Int)), (0, a1)] d = (if wr a1 = 0 then some ((d.m (((a0 + 3) + 1)) 6), d) else (if wr a1 = 1 then some ((d.m ((a0 + 3)) 7), d) else (if wr a1 = 2 then some ((d.m ((a0 + 1)) 1), d) else (if wr a1 = 3 then ((MM P 164 [(2, ((((a0 + 3) + 1) : Nat) : Int))] d).bind fun q1 => some (q1.1, q1.2)) else some ((-1), d))))) := by
  have hT := cT_231
  refine Eq.trans (MM_def sm_231 (Nat.le_of_ble_eq_true rfl)) ?_
  change zB P 231 0 [(2, ((a0 : Nat) : Int)), (0, a1)] [] d = _
  refine Eq.trans (x1 (h := 0) hT rfl rfl (by decide)) ?_
  refine Eq.trans (x19 (h := 1) hT rfl) ?_
  refine Eq.trans x19c ?_
  refine xit (fun _ => ?_) (fun _ => ?_)
  · refine Eq.trans (x1 (h := 2) hT rfl rfl (by decide)) ?_
    refine Eq.trans (x21r (r := a0) (cl := 11) (o := 3) (h := 3) hT rfl ha0 (by decide) rfl) ?_
    refine Eq.trans (x21r (r := (a0 + 3)) (cl := 9) (o := 1) (h := 4) hT rfl (kd_11_1 ha0) (by decide) rfl) ?_
    refine Eq.trans (x21 (r := ((a0 + 3) + 1)) (cl := 0) (h := 5) hT rfl (kd_9_0 (kd_11_1 ha0))) ?_
    exact x201 (h := 6) hT rfl
  refine Eq.trans x19c ?_
  refine xit (fun _ => ?_) (fun _ => ?_)
  · refine Eq.trans (x1 (h := 7) hT rfl rfl (by decide)) ?_
    refine Eq.trans (x21r (r := a0) (cl := 11) (o := 3) (h := 8) hT rfl ha0 (by decide) rfl) ?_
    refine Eq.trans (x21 (r := (a0 + 3)) (cl := 9) (h := 9) hT rfl (kd_11_1 ha0)) ?_
    exact x201 (h := 10) hT rfl
  refine Eq.trans x19c ?_
  refine xit (fun _ => ?_) (fun _ => ?_)
  · refine Eq.trans (x1 (h := 11) hT rfl rfl (by decide)) ?_
    refine Eq.trans (x21r (r := a0) (cl := 11) (o := 1) (h := 12) hT rfl ha0 (by decide) rfl) ?_
    refine Eq.trans (x21 (r := (a0 + 1)) (cl := 10) (h := 13) hT rfl (kd_11_0 ha0)) ?_
    exact x201 (h := 14) hT rfl
  refine Eq.trans x19c ?_
  refine xit (fun _ => ?_) (fun _ => ?_)
  · refine Eq.trans (x1 (h := 15) hT rfl rfl (by decide)) ?_
    refine Eq.trans (x21r (r := a0) (cl := 11) (o := 3) (h := 16) hT rfl ha0 (by decide) rfl) ?_
    refine Eq.trans (x21r (r := (a0 + 3)) (cl := 9) (o := 1) (h := 17) hT rfl (kd_11_1 ha0) (by decide) rfl) ?_
    refine Eq.trans (x31 (r := ((a0 + 3) + 1)) (cl := 0) (as := []) (st' := []) (h := 18) hT rfl sm_164 rfl (kd_9_0 (kd_11_1 ha0))) ?_
    refine xbd (fun q1 => ?_)
    rw [rv_164]
    change zB P 231 19 [(2, ((a0 : Nat) : Int)), (0, a1)] [(0, q1.1)] q1.2 = _
    exact x201 (h := 19) hT rfl
  refine Eq.trans (x0 (h := 20) hT rfl) ?_
  exact x201 (h := 21) hT rfl
/-! WordLinks.fit(II)J -/
set_option maxRecDepth 100000 in
theorem e_232 {P : zP} {d : zD P} {a0 : Nat} {a1 : Int} {a2 : Int} (ha0 : zkd a0 = 11) : MM P 232 [(2, ((a0 : Nat) : Int)), (0, a1), (0, a2)] d = ((MM P 45 [(0, a1)] d).bind fun q1 => (if wr q1.1 = 0 then some ((-2), q1.2) else (if wr a2 = wr ((-1)) then (if wr a2 = wr ((-1)) then zB P 232 25 [(2, ((a0 : Nat) : Int)), (0, a1), (0, a2), (1, 0), (3, 0), (0, 0)] [] q1.2 else ((MM P 186 [(2, (((a0 + 3) : Nat) : Int)), (0, a1), (0, a2)] q1.2).bind fun q2 => some (q2.1, q2.2))) else ((MM P 44 [(2, ((a0 : Nat) : Int)), (0, a2)] q1.2).bind fun q3 => (if wr q3.1 ≠ 0 then (if wr a2 = wr ((-1)) then zB P 232 25 [(2, ((a0 : Nat) : Int)), (0, a1), (0, a2), (1, 0), (3, 0), (0, 0)] [] q3.2 else ((MM P 186 [(2, (((a0 + 3) : Nat) : Int)), (0, a1), (0, a2)] q3.2).bind fun q4 => some (q4.1, q4.2))) else some ((-2), q3.2)))))) := by
  have hT := cT_232
  refine Eq.trans (MM_def sm_232 (Nat.le_of_ble_eq_true rfl)) ?_
  change zB P 232 0 [(2, ((a0 : Nat) : Int)), (0, a1), (0, a2), (3, 0), (3, 0), (3, 0)] [] d = _
  refine Eq.trans (x1 (h := 0) hT rfl rfl (by decide)) ?_
  refine Eq.trans (x34 (as := [(0, a1)]) (st' := []) (h := 1) hT rfl sm_45 rfl) ?_
  refine xbd (fun q1 => ?_)
  rw [rv_45]
  change zB P 232 2 [(2, ((a0 : Nat) : Int)), (0, a1), (0, a2), (3, 0), (3, 0), (3, 0)] [(0, q1.1)] q1.2 = _
  refine Eq.trans (x16_0 (h := 2) hT rfl) ?_
  refine xit (fun _ => ?_) (fun _ => ?_)
  · refine Eq.trans (x0 (h := 10) hT rfl) ?_
    exact x202 (h := 11) hT rfl
  · refine Eq.trans (x1 (h := 3) hT rfl rfl (by decide)) ?_
    refine Eq.trans (x0 (h := 4) hT rfl) ?_
    refine Eq.trans (x17_0 (h := 5) hT rfl) ?_
    refine xit (fun _ => ?_) (fun _ => ?_)
    · refine Eq.trans (x1 (h := 12) hT rfl rfl (by decide)) ?_
      refine Eq.trans (x0 (h := 13) hT rfl) ?_
      refine Eq.trans (x17_0 (h := 14) hT rfl) ?_
      refine xit (fun _ => ?_) (fun _ => ?_)
      · refine Eq.trans (x0 (h := 21) hT rfl) ?_
        refine Eq.trans (x3 (ls' := [(2, ((a0 : Nat) : Int)), (0, a1), (0, a2), (1, 0), (3, 0), (3, 0)]) (h := 22) hT rfl (Nat.le_of_ble_eq_true rfl) rfl) ?_
        refine Eq.trans (x0 (h := 23) hT rfl) ?_
        refine Eq.trans (x2 (ls' := [(2, ((a0 : Nat) : Int)), (0, a1), (0, a2), (1, 0), (3, 0), (0, 0)]) (h := 24) hT rfl (Nat.le_of_ble_eq_true rfl) rfl) ?_
        exact rfl
      · refine Eq.trans (x1 (h := 15) hT rfl rfl (by decide)) ?_
        refine Eq.trans (x21r (r := a0) (cl := 11) (o := 3) (h := 16) hT rfl ha0 (by decide) rfl) ?_
        refine Eq.trans (x1 (h := 17) hT rfl rfl (by decide)) ?_
        refine Eq.trans (x1 (h := 18) hT rfl rfl (by decide)) ?_
        refine Eq.trans (x31 (r := (a0 + 3)) (cl := 9) (as := [(0, a1), (0, a2)]) (st' := []) (h := 19) hT rfl sm_186 rfl (kd_11_1 ha0)) ?_
        refine xbd (fun q2 => ?_)
        rw [rv_186]
        change zB P 232 20 [(2, ((a0 : Nat) : Int)), (0, a1), (0, a2), (3, 0), (3, 0), (3, 0)] [(1, q2.1)] q2.2 = _
        exact x202 (h := 20) hT rfl
    · refine Eq.trans (x1 (h := 6) hT rfl rfl (by decide)) ?_
      refine Eq.trans (x1 (h := 7) hT rfl rfl (by decide)) ?_
      refine Eq.trans (x31 (r := a0) (cl := 11) (as := [(0, a2)]) (st' := []) (h := 8) hT rfl sm_44 rfl ha0) ?_
      refine xbd (fun q3 => ?_)
      rw [rv_44]
      change zB P 232 9 [(2, ((a0 : Nat) : Int)), (0, a1), (0, a2), (3, 0), (3, 0), (3, 0)] [(0, q3.1)] q3.2 = _
      refine Eq.trans (x16_1 (h := 9) hT rfl) ?_
      refine xit (fun _ => ?_) (fun _ => ?_)
      · refine Eq.trans (x1 (h := 12) hT rfl rfl (by decide)) ?_
        refine Eq.trans (x0 (h := 13) hT rfl) ?_
        refine Eq.trans (x17_0 (h := 14) hT rfl) ?_
        refine xit (fun _ => ?_) (fun _ => ?_)
        · refine Eq.trans (x0 (h := 21) hT rfl) ?_
          refine Eq.trans (x3 (ls' := [(2, ((a0 : Nat) : Int)), (0, a1), (0, a2), (1, 0), (3, 0), (3, 0)]) (h := 22) hT rfl (Nat.le_of_ble_eq_true rfl) rfl) ?_
          refine Eq.trans (x0 (h := 23) hT rfl) ?_
          refine Eq.trans (x2 (ls' := [(2, ((a0 : Nat) : Int)), (0, a1), (0, a2), (1, 0), (3, 0), (0, 0)]) (h := 24) hT rfl (Nat.le_of_ble_eq_true rfl) rfl) ?_
          exact rfl
        · refine Eq.trans (x1 (h := 15) hT rfl rfl (by decide)) ?_
          refine Eq.trans (x21r (r := a0) (cl := 11) (o := 3) (h := 16) hT rfl ha0 (by decide) rfl) ?_
          refine Eq.trans (x1 (h := 17) hT rfl rfl (by decide)) ?_
          refine Eq.trans (x1 (h := 18) hT rfl rfl (by decide)) ?_
          refine Eq.trans (x31 (r := (a0 + 3)) (cl := 9) (as := [(0, a1), (0, a2)]) (st' := []) (h := 19) hT rfl sm_186 rfl (kd_11_1 ha0)) ?_
          refine xbd (fun q4 => ?_)
          rw [rv_186]
          change zB P 232 20 [(2, ((a0 : Nat) : Int)), (0, a1), (0, a2), (3, 0), (3, 0), (3, 0)] [(1, q4.1)] q4.2 = _
          exact x202 (h := 20) hT rfl
      · refine Eq.trans (x0 (h := 10) hT rfl) ?_
        exact x202 (h := 11) hT rfl
set_option maxRecDepth 100000 in
theorem q_232_25 {P : zP} {d : zD P} {a0 : Nat} {a1 : Int} {g2 : zV} {a3 : Int} {g4 : zV} {a5 : Int} (ha0 : zkd a0 = 11) : zB P 232 25 [(2, ((a0 : Nat) : Int)), (0, a1), g2, (1, a3), g4, (0, a5)] [] d = (if wr ((d.m (((a0 + 3) + 1)) 6)) ≤ wr a5 then some (a3, d) else ((MM P 186 [(2, (((a0 + 3) : Nat) : Int)), (0, a1), (0, a5)] d).bind fun q5 => zB P 232 25 [(2, ((a0 : Nat) : Int)), (0, a1), (if (g2).1 = 1 then (3, 0) else g2), (1, (a3 + q5.1)), (3, 0), (0, (a5 + 1))] [] q5.2)) := by
  have hT := cT_232
  refine Eq.trans (x1 (h := 25) hT rfl rfl (by decide)) ?_
  refine Eq.trans (x1 (h := 26) hT rfl rfl (by decide)) ?_
  refine Eq.trans (x21r (r := a0) (cl := 11) (o := 3) (h := 27) hT rfl ha0 (by decide) rfl) ?_
  refine Eq.trans (x21r (r := (a0 + 3)) (cl := 9) (o := 1) (h := 28) hT rfl (kd_11_1 ha0) (by decide) rfl) ?_
  refine Eq.trans (x21 (r := ((a0 + 3) + 1)) (cl := 0) (h := 29) hT rfl (kd_9_0 (kd_11_1 ha0))) ?_
  refine Eq.trans (x17_3 (h := 30) hT rfl) ?_
  refine xit (fun _ => ?_) (fun _ => ?_)
  · refine Eq.trans (x1 (h := 41) hT rfl rfl (by decide)) ?_
    exact x202 (h := 42) hT rfl
  · refine Eq.trans (x1 (h := 31) hT rfl rfl (by decide)) ?_
    refine Eq.trans (x1 (h := 32) hT rfl rfl (by decide)) ?_
    refine Eq.trans (x21r (r := a0) (cl := 11) (o := 3) (h := 33) hT rfl ha0 (by decide) rfl) ?_
    refine Eq.trans (x1 (h := 34) hT rfl rfl (by decide)) ?_
    refine Eq.trans (x1 (h := 35) hT rfl rfl (by decide)) ?_
    refine Eq.trans (x31 (r := (a0 + 3)) (cl := 9) (as := [(0, a1), (0, a5)]) (st' := [(1, a3)]) (h := 36) hT rfl sm_186 rfl (kd_11_1 ha0)) ?_
    refine xbd (fun q5 => ?_)
    rw [rv_186]
    change zB P 232 37 [(2, ((a0 : Nat) : Int)), (0, a1), g2, (1, a3), g4, (0, a5)] [(1, q5.1), (1, a3)] q5.2 = _
    refine Eq.trans (x8_0 (h := 37) hT rfl) ?_
    refine Eq.trans (x3 (ls' := [(2, ((a0 : Nat) : Int)), (0, a1), (if (g2).1 = 1 then (3, 0) else g2), (1, (a3 + q5.1)), (3, 0), (0, a5)]) (h := 38) hT rfl (Nat.le_of_ble_eq_true rfl) rfl) ?_
    refine Eq.trans (x4 (ls' := [(2, ((a0 : Nat) : Int)), (0, a1), (if (g2).1 = 1 then (3, 0) else g2), (1, (a3 + q5.1)), (3, 0), (0, (a5 + 1))]) (h := 39) hT rfl rfl rfl) ?_
    refine Eq.trans (x18 (h := 40) hT rfl) ?_
    exact rfl
/-! WordLinks.likeness(II)I -/
set_option maxRecDepth 100000 in
theorem e_233 {P : zP} {d : zD P} {a0 : Nat} {a1 : Int} {a2 : Int} (ha0 : zkd a0 = 11) : MM P 233 [(2, ((a0 : Nat) : Int)), (0, a1), (0, a2)] d = ((MM P 126 [(2, ((a0 : Nat) : Int)), (0, 0), (0, a1)] d).bind fun q1 => (if wr q1.1 = 0 then some ((-1), q1.2) else ((MM P 126 [(2, ((a0 : Nat) : Int)), (0, 1), (0, a2)] q1.2).bind fun q2 => (if wr q2.1 ≠ 0 then (if zin 0 2 then (if zin a1 40 then (if zin 1 2 then (if zin a2 40 then ((MM P 191 [(1, (q2.2.m (((((a0 + 3) + 1) + 2) + (1 + zix 0))) (zix a1))), (1, (q2.2.m (((((a0 + 3) + 1) + 2) + (1 + zix 1))) (zix a2)))] q2.2).bind fun q7 => some (q7.1, q7.2)) else none) else none) else none) else none) else some ((-1), q2.2))))) := by
  have hT := cT_233
  refine Eq.trans (MM_def sm_233 (Nat.le_of_ble_eq_true rfl)) ?_
  change zB P 233 0 [(2, ((a0 : Nat) : Int)), (0, a1), (0, a2)] [] d = _
  refine Eq.trans (x1 (h := 0) hT rfl rfl (by decide)) ?_
  refine Eq.trans (x0 (h := 1) hT rfl) ?_
  refine Eq.trans (x1 (h := 2) hT rfl rfl (by decide)) ?_
  refine Eq.trans (x31 (r := a0) (cl := 11) (as := [(0, 0), (0, a1)]) (st' := []) (h := 3) hT rfl sm_126 rfl ha0) ?_
  refine xbd (fun q1 => ?_)
  rw [rv_126]
  change zB P 233 4 [(2, ((a0 : Nat) : Int)), (0, a1), (0, a2)] [(0, q1.1)] q1.2 = _
  refine Eq.trans (x16_0 (h := 4) hT rfl) ?_
  refine xit (fun _ => ?_) (fun _ => ?_)
  · refine Eq.trans (x0 (h := 10) hT rfl) ?_
    exact x201 (h := 11) hT rfl
  · refine Eq.trans (x1 (h := 5) hT rfl rfl (by decide)) ?_
    refine Eq.trans (x0 (h := 6) hT rfl) ?_
    refine Eq.trans (x1 (h := 7) hT rfl rfl (by decide)) ?_
    refine Eq.trans (x31 (r := a0) (cl := 11) (as := [(0, 1), (0, a2)]) (st' := []) (h := 8) hT rfl sm_126 rfl ha0) ?_
    refine xbd (fun q2 => ?_)
    rw [rv_126]
    change zB P 233 9 [(2, ((a0 : Nat) : Int)), (0, a1), (0, a2)] [(0, q2.1)] q2.2 = _
    refine Eq.trans (x16_1 (h := 9) hT rfl) ?_
    refine xit (fun _ => ?_) (fun _ => ?_)
    · refine Eq.trans (x1 (h := 12) hT rfl rfl (by decide)) ?_
      refine Eq.trans (x21r (r := a0) (cl := 11) (o := 3) (h := 13) hT rfl ha0 (by decide) rfl) ?_
      refine Eq.trans (x21r (r := (a0 + 3)) (cl := 9) (o := 1) (h := 14) hT rfl (kd_11_1 ha0) (by decide) rfl) ?_
      refine Eq.trans (x21r (r := ((a0 + 3) + 1)) (cl := 0) (o := 2) (h := 15) hT rfl (kd_9_0 (kd_11_1 ha0)) (by decide) rfl) ?_
      refine Eq.trans (x0 (h := 16) hT rfl) ?_
      refine Eq.trans (x24r (r := (((a0 + 3) + 1) + 2)) (n := 2) (h := 17) hT rfl (kd_0_1 (kd_9_0 (kd_11_1 ha0))) (ln_0_1 (kd_9_0 (kd_11_1 ha0))) (by decide)) ?_
      refine xig (fun hz3 => ?_)
      refine Eq.trans (x1 (h := 18) hT rfl rfl (by decide)) ?_
      refine Eq.trans (x24 (r := ((((a0 + 3) + 1) + 2) + (1 + zix 0))) (n := 40) (h := 19) hT rfl (Or.inl (kq_0_1 (kd_9_0 (kd_11_1 ha0)) (zix_lt hz3))) (lq_0_1 (kd_9_0 (kd_11_1 ha0)) (zix_lt hz3))) ?_
      refine xig (fun hz4 => ?_)
      refine Eq.trans (x1 (h := 20) hT rfl rfl (by decide)) ?_
      refine Eq.trans (x21r (r := a0) (cl := 11) (o := 3) (h := 21) hT rfl ha0 (by decide) rfl) ?_
      refine Eq.trans (x21r (r := (a0 + 3)) (cl := 9) (o := 1) (h := 22) hT rfl (kd_11_1 ha0) (by decide) rfl) ?_
      refine Eq.trans (x21r (r := ((a0 + 3) + 1)) (cl := 0) (o := 2) (h := 23) hT rfl (kd_9_0 (kd_11_1 ha0)) (by decide) rfl) ?_
      refine Eq.trans (x0 (h := 24) hT rfl) ?_
      refine Eq.trans (x24r (r := (((a0 + 3) + 1) + 2)) (n := 2) (h := 25) hT rfl (kd_0_1 (kd_9_0 (kd_11_1 ha0))) (ln_0_1 (kd_9_0 (kd_11_1 ha0))) (by decide)) ?_
      refine xig (fun hz5 => ?_)
      refine Eq.trans (x1 (h := 26) hT rfl rfl (by decide)) ?_
      refine Eq.trans (x24 (r := ((((a0 + 3) + 1) + 2) + (1 + zix 1))) (n := 40) (h := 27) hT rfl (Or.inl (kq_0_1 (kd_9_0 (kd_11_1 ha0)) (zix_lt hz5))) (lq_0_1 (kd_9_0 (kd_11_1 ha0)) (zix_lt hz5))) ?_
      refine xig (fun hz6 => ?_)
      refine Eq.trans (x34 (as := [(1, (q2.2.m (((((a0 + 3) + 1) + 2) + (1 + zix 0))) (zix a1))), (1, (q2.2.m (((((a0 + 3) + 1) + 2) + (1 + zix 1))) (zix a2)))]) (st' := []) (h := 28) hT rfl sm_191 rfl) ?_
      refine xbd (fun q7 => ?_)
      rw [rv_191]
      change zB P 233 29 [(2, ((a0 : Nat) : Int)), (0, a1), (0, a2)] [(0, q7.1)] q7.2 = _
      exact x201 (h := 29) hT rfl
    · refine Eq.trans (x0 (h := 10) hT rfl) ?_
      exact x201 (h := 11) hT rfl
/-! WordLinks.word(III)I -/
set_option maxRecDepth 100000 in
theorem e_234 {P : zP} {d : zD P} {a0 : Nat} {a1 : Int} {a2 : Int} {a3 : Int} (ha0 : zkd a0 = 11) : MM P 234 [(2, ((a0 : Nat) : Int)), (0, a1), (0, a2), (0, a3)] d = (if wr a3 < wr 10 then zB P 234 8 [(2, ((a0 : Nat) : Int)), (0, a1), (0, a2), (0, a3), (3, 0), (3, 0), (3, 0), (3, 0)] [] d else (if wr 17 ≤ wr a3 then zB P 234 8 [(2, ((a0 : Nat) : Int)), (0, a1), (0, a2), (0, a3), (3, 0), (3, 0), (3, 0), (3, 0)] [] d else ((MM P 126 [(2, ((a0 : Nat) : Int)), (0, a1), (0, a2)] d).bind fun q1 => (if wr q1.1 = 0 then zB P 234 22 [(2, ((a0 : Nat) : Int)), (0, a1), (0, a2), (0, a3), (0, 1), (3, 0), (3, 0), (3, 0)] [] q1.2 else (if wr 1 ≠ 0 then zB P 234 24 [(2, ((a0 : Nat) : Int)), (0, a1), (0, a2), (0, a3), (0, 1), (3, 0), (3, 0), (3, 0)] [] q1.2 else (if wr a3 < 0 then zB P 234 22 [(2, ((a0 : Nat) : Int)), (0, a1), (0, a2), (0, a3), (0, 1), (3, 0), (3, 0), (3, 0)] [] q1.2 else (if wr a3 ≤ wr 6 then zB P 234 24 [(2, ((a0 : Nat) : Int)), (0, a1), (0, a2), (0, a3), (0, 1), (3, 0), (3, 0), (3, 0)] [] q1.2 else zB P 234 22 [(2, ((a0 : Nat) : Int)), (0, a1), (0, a2), (0, a3), (0, 1), (3, 0), (3, 0), (3, 0)] [] q1.2))))))) := by
  have hT := cT_234
  refine Eq.trans (MM_def sm_234 (Nat.le_of_ble_eq_true rfl)) ?_
  change zB P 234 0 [(2, ((a0 : Nat) : Int)), (0, a1), (0, a2), (0, a3), (3, 0), (3, 0), (3, 0), (3, 0)] [] d = _
  refine Eq.trans (x1 (h := 0) hT rfl rfl (by decide)) ?_
  refine Eq.trans (x0 (h := 1) hT rfl) ?_
  refine Eq.trans (x17_2 (h := 2) hT rfl) ?_
  refine xit (fun _ => ?_) (fun _ => ?_)
  · exact rfl
  · refine Eq.trans (x1 (h := 3) hT rfl rfl (by decide)) ?_
    refine Eq.trans (x0 (h := 4) hT rfl) ?_
    refine Eq.trans (x17_3 (h := 5) hT rfl) ?_
    refine xit (fun _ => ?_) (fun _ => ?_)
    · exact rfl
    · refine Eq.trans (x0 (h := 6) hT rfl) ?_
      refine Eq.trans (x18 (h := 7) hT rfl) ?_
      refine Eq.trans (x2 (ls' := [(2, ((a0 : Nat) : Int)), (0, a1), (0, a2), (0, a3), (0, 1), (3, 0), (3, 0), (3, 0)]) (h := 9) hT rfl (Nat.le_of_ble_eq_true rfl) rfl) ?_
      refine Eq.trans (x1 (h := 10) hT rfl rfl (by decide)) ?_
      refine Eq.trans (x1 (h := 11) hT rfl rfl (by decide)) ?_
      refine Eq.trans (x1 (h := 12) hT rfl rfl (by decide)) ?_
      refine Eq.trans (x31 (r := a0) (cl := 11) (as := [(0, a1), (0, a2)]) (st' := []) (h := 13) hT rfl sm_126 rfl ha0) ?_
      refine xbd (fun q1 => ?_)
      rw [rv_126]
      change zB P 234 14 [(2, ((a0 : Nat) : Int)), (0, a1), (0, a2), (0, a3), (0, 1), (3, 0), (3, 0), (3, 0)] [(0, q1.1)] q1.2 = _
      refine Eq.trans (x16_0 (h := 14) hT rfl) ?_
      refine xit (fun _ => ?_) (fun _ => ?_)
      · exact rfl
      · refine Eq.trans (x1 (h := 15) hT rfl rfl (by decide)) ?_
        refine Eq.trans (x16_1 (h := 16) hT rfl) ?_
        refine xit (fun _ => ?_) (fun _ => ?_)
        · exact rfl
        · refine Eq.trans (x1 (h := 17) hT rfl rfl (by decide)) ?_
          refine Eq.trans (x16_2 (h := 18) hT rfl) ?_
          refine xit (fun _ => ?_) (fun _ => ?_)
          · exact rfl
          · refine Eq.trans (x1 (h := 19) hT rfl rfl (by decide)) ?_
            refine Eq.trans (x0 (h := 20) hT rfl) ?_
            refine Eq.trans (x17_5 (h := 21) hT rfl) ?_
            refine xit (fun _ => ?_) (fun _ => ?_)
            · exact rfl
            · exact rfl
set_option maxRecDepth 100000 in
theorem q_234_8 {P : zP} {d : zD P} {a0 : Nat} {a1 : Int} {a2 : Int} {a3 : Int} {g4 : zV} {g5 : zV} {g6 : zV} {g7 : zV} (ha0 : zkd a0 = 11) : zB P 234 8 [(2, ((a0 : Nat) : Int)), (0, a1), (0, a2), (0, a3), g4, g5, g6, g7] [] d = ((MM P 126 [(2, ((a0 : Nat) : Int)), (0, a1), (0, a2)] d).bind fun q2 => (if wr q2.1 = 0 then zB P 234 22 [(2, ((a0 : Nat) : Int)), (0, a1), (0, a2), (0, a3), (0, 0), g5, g6, g7] [] q2.2 else (if wr 0 ≠ 0 then zB P 234 24 [(2, ((a0 : Nat) : Int)), (0, a1), (0, a2), (0, a3), (0, 0), g5, g6, g7] [] q2.2 else (if wr a3 < 0 then zB P 234 22 [(2, ((a0 : Nat) : Int)), (0, a1), (0, a2), (0, a3), (0, 0), g5, g6, g7] [] q2.2 else (if wr a3 ≤ wr 6 then zB P 234 24 [(2, ((a0 : Nat) : Int)), (0, a1), (0, a2), (0, a3), (0, 0), g5, g6, g7] [] q2.2 else zB P 234 22 [(2, ((a0 : Nat) : Int)), (0, a1), (0, a2), (0, a3), (0, 0), g5, g6, g7] [] q2.2))))) := by
  have hT := cT_234
  refine Eq.trans (x0 (h := 8) hT rfl) ?_
  refine Eq.trans (x2 (ls' := [(2, ((a0 : Nat) : Int)), (0, a1), (0, a2), (0, a3), (0, 0), g5, g6, g7]) (h := 9) hT rfl (Nat.le_of_ble_eq_true rfl) rfl) ?_
  refine Eq.trans (x1 (h := 10) hT rfl rfl (by decide)) ?_
  refine Eq.trans (x1 (h := 11) hT rfl rfl (by decide)) ?_
  refine Eq.trans (x1 (h := 12) hT rfl rfl (by decide)) ?_
  refine Eq.trans (x31 (r := a0) (cl := 11) (as := [(0, a1), (0, a2)]) (st' := []) (h := 13) hT rfl sm_126 rfl ha0) ?_
  refine xbd (fun q2 => ?_)
  rw [rv_126]
  change zB P 234 14 [(2, ((a0 : Nat) : Int)), (0, a1), (0, a2), (0, a3), (0, 0), g5, g6, g7] [(0, q2.1)] q2.2 = _
  refine Eq.trans (x16_0 (h := 14) hT rfl) ?_
  refine xit (fun _ => ?_) (fun _ => ?_)
  · exact rfl
  · refine Eq.trans (x1 (h := 15) hT rfl rfl (by decide)) ?_
    refine Eq.trans (x16_1 (h := 16) hT rfl) ?_
    refine xit (fun _ => ?_) (fun _ => ?_)
    · exact rfl
    · refine Eq.trans (x1 (h := 17) hT rfl rfl (by decide)) ?_
      refine Eq.trans (x16_2 (h := 18) hT rfl) ?_
      refine xit (fun _ => ?_) (fun _ => ?_)
      · exact rfl
      · refine Eq.trans (x1 (h := 19) hT rfl rfl (by decide)) ?_
        refine Eq.trans (x0 (h := 20) hT rfl) ?_
        refine Eq.trans (x17_5 (h := 21) hT rfl) ?_
        refine xit (fun _ => ?_) (fun _ => ?_)
        · exact rfl
        · exact rfl
set_option maxRecDepth 100000 in
theorem q_234_22 {P : zP} {d : zD P} {g0 : zV} {g1 : zV} {g2 : zV} {g3 : zV} {g4 : zV} {g5 : zV} {g6 : zV} {g7 : zV} : zB P 234 22 [g0, g1, g2, g3, g4, g5, g6, g7] [] d = some ((-1), d) := by
  have hT := cT_234
  refine Eq.trans (x0 (h := 22) hT rfl) ?_
  exact x201 (h := 23) hT rfl
set_option maxRecDepth 100000 in
theorem q_234_24 {P : zP} {d : zD P} {a0 : Nat} {a1 : Int} {a2 : Int} {a3 : Int} {a4 : Int} {g5 : zV} {g6 : zV} {g7 : zV} (ha0 : zkd a0 = 11) : zB P 234 24 [(2, ((a0 : Nat) : Int)), (0, a1), (0, a2), (0, a3), (0, a4), g5, g6, g7] [] d = (if zin a1 2 then (if zin a2 40 then (if wr a4 = 0 then (if wr a3 = 0 then ((MM P 127 [(1, (d.m (((((a0 + 3) + 1) + 2) + (1 + zix a1))) (zix a2)))] d).bind fun q5 => some (q5.1, q5.2)) else (if wr a3 = 1 then ((MM P 90 [(2, ((((a0 + 3) + 1) : Nat) : Int)), (0, a1), (0, a2)] d).bind fun q6 => some (q6.1, q6.2)) else (if wr a3 = 2 then (if zin a1 2 then (if zin a2 40 then ((MM P 85 [(1, (d.m (((((a0 + 3) + 1) + 5) + (1 + zix a1))) (zix a2)))] d).bind fun q9 => some (q9.1, q9.2)) else none) else none) else (if wr a3 = 3 then ((MM P 187 [(2, (((a0 + 3) : Nat) : Int)), (0, a1), (0, a2), (0, 0)] d).bind fun q10 => some (q10.1, q10.2)) else (if wr a3 = 4 then ((MM P 187 [(2, (((a0 + 3) : Nat) : Int)), (0, a1), (0, a2), (0, 0)] d).bind fun q11 => ((MM P 32 [(2, (((a0 + 3) : Nat) : Int)), (0, a1), (0, a2), (0, q11.1)] q11.2).bind fun q12 => some (q12.1, q12.2))) else (if wr a3 = 5 then ((MM P 115 [(2, (((a0 + 3) : Nat) : Int)), (0, a1), (0, a2)] d).bind fun q13 => some (q13.1, q13.2)) else ((MM P 2 [(2, ((((a0 + 3) + 1) : Nat) : Int)), (0, a1), (0, a2)] d).bind fun q14 => some (q14.1, q14.2)))))))) else ((MM P 47 [(1, (d.m (((((a0 + 3) + 1) + 2) + (1 + zix a1))) (zix a2))), (0, (a3 - 10))] d).bind fun q15 => (if wr q15.1 ≠ 0 then some ((96 + q15.1), q15.2) else some ((-4), q15.2)))) else none) else none) := by
  have hT := cT_234
  refine Eq.trans (x1 (h := 24) hT rfl rfl (by decide)) ?_
  refine Eq.trans (x21r (r := a0) (cl := 11) (o := 3) (h := 25) hT rfl ha0 (by decide) rfl) ?_
  refine Eq.trans (x21r (r := (a0 + 3)) (cl := 9) (o := 1) (h := 26) hT rfl (kd_11_1 ha0) (by decide) rfl) ?_
  refine Eq.trans (x21r (r := ((a0 + 3) + 1)) (cl := 0) (o := 2) (h := 27) hT rfl (kd_9_0 (kd_11_1 ha0)) (by decide) rfl) ?_
  refine Eq.trans (x1 (h := 28) hT rfl rfl (by decide)) ?_
  refine Eq.trans (x24r (r := (((a0 + 3) + 1) + 2)) (n := 2) (h := 29) hT rfl (kd_0_1 (kd_9_0 (kd_11_1 ha0))) (ln_0_1 (kd_9_0 (kd_11_1 ha0))) (by decide)) ?_
  refine xig (fun hz3 => ?_)
  refine Eq.trans (x1 (h := 30) hT rfl rfl (by decide)) ?_
  refine Eq.trans (x24 (r := ((((a0 + 3) + 1) + 2) + (1 + zix a1))) (n := 40) (h := 31) hT rfl (Or.inl (kq_0_1 (kd_9_0 (kd_11_1 ha0)) (zix_lt hz3))) (lq_0_1 (kd_9_0 (kd_11_1 ha0)) (zix_lt hz3))) ?_
  refine xig (fun hz4 => ?_)
  refine Eq.trans (x3 (ls' := [(2, ((a0 : Nat) : Int)), (0, a1), (0, a2), (0, a3), (0, a4), (1, (d.m (((((a0 + 3) + 1) + 2) + (1 + zix a1))) (zix a2))), (3, 0), g7]) (h := 32) hT rfl (Nat.le_of_ble_eq_true rfl) rfl) ?_
  refine Eq.trans (x1 (h := 33) hT rfl rfl (by decide)) ?_
  refine Eq.trans (x16_0 (h := 34) hT rfl) ?_
  refine xit (fun _ => ?_) (fun _ => ?_)
  · refine Eq.trans (x1 (h := 49) hT rfl rfl (by decide)) ?_
    refine Eq.trans (x19 (h := 50) hT rfl) ?_
    refine Eq.trans x19c ?_
    refine xit (fun _ => ?_) (fun _ => ?_)
    · refine Eq.trans (x1 (h := 51) hT rfl rfl (by decide)) ?_
      refine Eq.trans (x34 (as := [(1, (d.m (((((a0 + 3) + 1) + 2) + (1 + zix a1))) (zix a2)))]) (st' := []) (h := 52) hT rfl sm_127 rfl) ?_
      refine xbd (fun q5 => ?_)
      rw [rv_127]
      change zB P 234 53 [(2, ((a0 : Nat) : Int)), (0, a1), (0, a2), (0, a3), (0, a4), (1, (d.m (((((a0 + 3) + 1) + 2) + (1 + zix a1))) (zix a2))), (3, 0), g7] [(0, q5.1)] q5.2 = _
      exact x201 (h := 53) hT rfl
    refine Eq.trans x19c ?_
    refine xit (fun _ => ?_) (fun _ => ?_)
    · refine Eq.trans (x1 (h := 54) hT rfl rfl (by decide)) ?_
      refine Eq.trans (x21r (r := a0) (cl := 11) (o := 3) (h := 55) hT rfl ha0 (by decide) rfl) ?_
      refine Eq.trans (x21r (r := (a0 + 3)) (cl := 9) (o := 1) (h := 56) hT rfl (kd_11_1 ha0) (by decide) rfl) ?_
      refine Eq.trans (x1 (h := 57) hT rfl rfl (by decide)) ?_
      refine Eq.trans (x1 (h := 58) hT rfl rfl (by decide)) ?_
      refine Eq.trans (x31 (r := ((a0 + 3) + 1)) (cl := 0) (as := [(0, a1), (0, a2)]) (st' := []) (h := 59) hT rfl sm_90 rfl (kd_9_0 (kd_11_1 ha0))) ?_
      refine xbd (fun q6 => ?_)
      rw [rv_90]
      change zB P 234 60 [(2, ((a0 : Nat) : Int)), (0, a1), (0, a2), (0, a3), (0, a4), (1, (d.m (((((a0 + 3) + 1) + 2) + (1 + zix a1))) (zix a2))), (3, 0), g7] [(0, q6.1)] q6.2 = _
      exact x201 (h := 60) hT rfl
    refine Eq.trans x19c ?_
    refine xit (fun _ => ?_) (fun _ => ?_)
    · refine Eq.trans (x1 (h := 61) hT rfl rfl (by decide)) ?_
      refine Eq.trans (x21r (r := a0) (cl := 11) (o := 3) (h := 62) hT rfl ha0 (by decide) rfl) ?_
      refine Eq.trans (x21r (r := (a0 + 3)) (cl := 9) (o := 1) (h := 63) hT rfl (kd_11_1 ha0) (by decide) rfl) ?_
      refine Eq.trans (x21r (r := ((a0 + 3) + 1)) (cl := 0) (o := 5) (h := 64) hT rfl (kd_9_0 (kd_11_1 ha0)) (by decide) rfl) ?_
      refine Eq.trans (x1 (h := 65) hT rfl rfl (by decide)) ?_
      refine Eq.trans (x24r (r := (((a0 + 3) + 1) + 5)) (n := 2) (h := 66) hT rfl (kd_0_2 (kd_9_0 (kd_11_1 ha0))) (ln_0_2 (kd_9_0 (kd_11_1 ha0))) (by decide)) ?_
      refine xig (fun hz7 => ?_)
      refine Eq.trans (x1 (h := 67) hT rfl rfl (by decide)) ?_
      refine Eq.trans (x24 (r := ((((a0 + 3) + 1) + 5) + (1 + zix a1))) (n := 40) (h := 68) hT rfl (Or.inl (kq_0_2 (kd_9_0 (kd_11_1 ha0)) (zix_lt hz7))) (lq_0_2 (kd_9_0 (kd_11_1 ha0)) (zix_lt hz7))) ?_
      refine xig (fun hz8 => ?_)
      refine Eq.trans (x34 (as := [(1, (d.m (((((a0 + 3) + 1) + 5) + (1 + zix a1))) (zix a2)))]) (st' := []) (h := 69) hT rfl sm_85 rfl) ?_
      refine xbd (fun q9 => ?_)
      rw [rv_85]
      change zB P 234 70 [(2, ((a0 : Nat) : Int)), (0, a1), (0, a2), (0, a3), (0, a4), (1, (d.m (((((a0 + 3) + 1) + 2) + (1 + zix a1))) (zix a2))), (3, 0), g7] [(0, q9.1)] q9.2 = _
      exact x201 (h := 70) hT rfl
    refine Eq.trans x19c ?_
    refine xit (fun _ => ?_) (fun _ => ?_)
    · refine Eq.trans (x1 (h := 71) hT rfl rfl (by decide)) ?_
      refine Eq.trans (x21r (r := a0) (cl := 11) (o := 3) (h := 72) hT rfl ha0 (by decide) rfl) ?_
      refine Eq.trans (x1 (h := 73) hT rfl rfl (by decide)) ?_
      refine Eq.trans (x1 (h := 74) hT rfl rfl (by decide)) ?_
      refine Eq.trans (x0 (h := 75) hT rfl) ?_
      refine Eq.trans (x31 (r := (a0 + 3)) (cl := 9) (as := [(0, a1), (0, a2), (0, 0)]) (st' := []) (h := 76) hT rfl sm_187 rfl (kd_11_1 ha0)) ?_
      refine xbd (fun q10 => ?_)
      rw [rv_187]
      change zB P 234 77 [(2, ((a0 : Nat) : Int)), (0, a1), (0, a2), (0, a3), (0, a4), (1, (d.m (((((a0 + 3) + 1) + 2) + (1 + zix a1))) (zix a2))), (3, 0), g7] [(0, q10.1)] q10.2 = _
      exact x201 (h := 77) hT rfl
    refine Eq.trans x19c ?_
    refine xit (fun _ => ?_) (fun _ => ?_)
    · refine Eq.trans (x1 (h := 78) hT rfl rfl (by decide)) ?_
      refine Eq.trans (x21r (r := a0) (cl := 11) (o := 3) (h := 79) hT rfl ha0 (by decide) rfl) ?_
      refine Eq.trans (x1 (h := 80) hT rfl rfl (by decide)) ?_
      refine Eq.trans (x1 (h := 81) hT rfl rfl (by decide)) ?_
      refine Eq.trans (x1 (h := 82) hT rfl rfl (by decide)) ?_
      refine Eq.trans (x21r (r := a0) (cl := 11) (o := 3) (h := 83) hT rfl ha0 (by decide) rfl) ?_
      refine Eq.trans (x1 (h := 84) hT rfl rfl (by decide)) ?_
      refine Eq.trans (x1 (h := 85) hT rfl rfl (by decide)) ?_
      refine Eq.trans (x0 (h := 86) hT rfl) ?_
      refine Eq.trans (x31 (r := (a0 + 3)) (cl := 9) (as := [(0, a1), (0, a2), (0, 0)]) (st' := [(0, a2), (0, a1), (2, (((a0 + 3) : Nat) : Int))]) (h := 87) hT rfl sm_187 rfl (kd_11_1 ha0)) ?_
      refine xbd (fun q11 => ?_)
      rw [rv_187]
      change zB P 234 88 [(2, ((a0 : Nat) : Int)), (0, a1), (0, a2), (0, a3), (0, a4), (1, (d.m (((((a0 + 3) + 1) + 2) + (1 + zix a1))) (zix a2))), (3, 0), g7] [(0, q11.1), (0, a2), (0, a1), (2, (((a0 + 3) : Nat) : Int))] q11.2 = _
      refine Eq.trans (x31 (r := (a0 + 3)) (cl := 9) (as := [(0, a1), (0, a2), (0, q11.1)]) (st' := []) (h := 88) hT rfl sm_32 rfl (kd_11_1 ha0)) ?_
      refine xbd (fun q12 => ?_)
      rw [rv_32]
      change zB P 234 89 [(2, ((a0 : Nat) : Int)), (0, a1), (0, a2), (0, a3), (0, a4), (1, (d.m (((((a0 + 3) + 1) + 2) + (1 + zix a1))) (zix a2))), (3, 0), g7] [(0, q12.1)] q12.2 = _
      exact x201 (h := 89) hT rfl
    refine Eq.trans x19c ?_
    refine xit (fun _ => ?_) (fun _ => ?_)
    · refine Eq.trans (x1 (h := 90) hT rfl rfl (by decide)) ?_
      refine Eq.trans (x21r (r := a0) (cl := 11) (o := 3) (h := 91) hT rfl ha0 (by decide) rfl) ?_
      refine Eq.trans (x1 (h := 92) hT rfl rfl (by decide)) ?_
      refine Eq.trans (x1 (h := 93) hT rfl rfl (by decide)) ?_
      refine Eq.trans (x31 (r := (a0 + 3)) (cl := 9) (as := [(0, a1), (0, a2)]) (st' := []) (h := 94) hT rfl sm_115 rfl (kd_11_1 ha0)) ?_
      refine xbd (fun q13 => ?_)
      rw [rv_115]
      change zB P 234 95 [(2, ((a0 : Nat) : Int)), (0, a1), (0, a2), (0, a3), (0, a4), (1, (d.m (((((a0 + 3) + 1) + 2) + (1 + zix a1))) (zix a2))), (3, 0), g7] [(0, q13.1)] q13.2 = _
      exact x201 (h := 95) hT rfl
    refine Eq.trans (x1 (h := 96) hT rfl rfl (by decide)) ?_
    refine Eq.trans (x21r (r := a0) (cl := 11) (o := 3) (h := 97) hT rfl ha0 (by decide) rfl) ?_
    refine Eq.trans (x21r (r := (a0 + 3)) (cl := 9) (o := 1) (h := 98) hT rfl (kd_11_1 ha0) (by decide) rfl) ?_
    refine Eq.trans (x1 (h := 99) hT rfl rfl (by decide)) ?_
    refine Eq.trans (x1 (h := 100) hT rfl rfl (by decide)) ?_
    refine Eq.trans (x31 (r := ((a0 + 3) + 1)) (cl := 0) (as := [(0, a1), (0, a2)]) (st' := []) (h := 101) hT rfl sm_2 rfl (kd_9_0 (kd_11_1 ha0))) ?_
    refine xbd (fun q14 => ?_)
    rw [rv_2]
    change zB P 234 102 [(2, ((a0 : Nat) : Int)), (0, a1), (0, a2), (0, a3), (0, a4), (1, (d.m (((((a0 + 3) + 1) + 2) + (1 + zix a1))) (zix a2))), (3, 0), g7] [(0, q14.1)] q14.2 = _
    exact x201 (h := 102) hT rfl
  · refine Eq.trans (x1 (h := 35) hT rfl rfl (by decide)) ?_
    refine Eq.trans (x1 (h := 36) hT rfl rfl (by decide)) ?_
    refine Eq.trans (x0 (h := 37) hT rfl) ?_
    refine Eq.trans (x5_1 (h := 38) hT rfl) ?_
    refine Eq.trans (x34 (as := [(1, (d.m (((((a0 + 3) + 1) + 2) + (1 + zix a1))) (zix a2))), (0, (a3 - 10))]) (st' := []) (h := 39) hT rfl sm_47 rfl) ?_
    refine xbd (fun q15 => ?_)
    rw [rv_47]
    change zB P 234 40 [(2, ((a0 : Nat) : Int)), (0, a1), (0, a2), (0, a3), (0, a4), (1, (d.m (((((a0 + 3) + 1) + 2) + (1 + zix a1))) (zix a2))), (3, 0), g7] [(0, q15.1)] q15.2 = _
    refine Eq.trans (x2 (ls' := [(2, ((a0 : Nat) : Int)), (0, a1), (0, a2), (0, a3), (0, a4), (1, (d.m (((((a0 + 3) + 1) + 2) + (1 + zix a1))) (zix a2))), (3, 0), (0, q15.1)]) (h := 40) hT rfl (Nat.le_of_ble_eq_true rfl) rfl) ?_
    refine Eq.trans (x1 (h := 41) hT rfl rfl (by decide)) ?_
    refine Eq.trans (x16_1 (h := 42) hT rfl) ?_
    refine xit (fun _ => ?_) (fun _ => ?_)
    · refine Eq.trans (x0 (h := 45) hT rfl) ?_
      refine Eq.trans (x1 (h := 46) hT rfl rfl (by decide)) ?_
      refine Eq.trans (x5_0 (h := 47) hT rfl) ?_
      exact x201 (h := 48) hT rfl
    · refine Eq.trans (x0 (h := 43) hT rfl) ?_
      refine Eq.trans (x18 (h := 44) hT rfl) ?_
      exact x201 (h := 48) hT rfl
/-! WordLinksModel.best(IIII)I -/
set_option maxRecDepth 100000 in
theorem e_235 {P : zP} {d : zD P} {a0 : Nat} {a1 : Int} {a2 : Int} {a3 : Int} {a4 : Int} (ha0 : zkd a0 = 12) : MM P 235 [(2, ((a0 : Nat) : Int)), (0, a1), (0, a2), (0, a3), (0, a4)] d = ((MM P 147 [(0, a1)] d).bind fun q1 => (if wr q1.1 = 0 then some ((-1), q1.2) else ((MM P 149 [(2, ((a0 : Nat) : Int)), (0, a1), (0, a2)] q1.2).bind fun q2 => (if wr q2.1 = 0 then some ((-1), q2.2) else (if wr a3 < 0 then some ((-1), q2.2) else ((MM P 55 [(0, a4), (0, 0), (0, 1)] q2.2).bind fun q3 => (if wr q3.1 ≠ 0 then ((MM P 205 [(2, ((a0 : Nat) : Int)), (0, a1), (0, a2), (0, a3)] q3.2).bind fun q4 => (if wr q4.1 ≠ wr ((-1)) then (if wr a4 ≠ 0 then ((MM P 71 [(2, ((a0 : Nat) : Int)), (0, a1), (0, a2), (0, q4.1)] q4.2).bind fun q5 => some (q5.1, q5.2)) else some (q4.1, q4.2)) else some ((-4), q4.2))) else some ((-1), q3.2)))))))) := by
  have hT := cT_235
  refine Eq.trans (MM_def sm_235 (Nat.le_of_ble_eq_true rfl)) ?_
  change zB P 235 0 [(2, ((a0 : Nat) : Int)), (0, a1), (0, a2), (0, a3), (0, a4), (3, 0)] [] d = _
  refine Eq.trans (x1 (h := 0) hT rfl rfl (by decide)) ?_
  refine Eq.trans (x34 (as := [(0, a1)]) (st' := []) (h := 1) hT rfl sm_147 rfl) ?_
  refine xbd (fun q1 => ?_)
  rw [rv_147]
  change zB P 235 2 [(2, ((a0 : Nat) : Int)), (0, a1), (0, a2), (0, a3), (0, a4), (3, 0)] [(0, q1.1)] q1.2 = _
  refine Eq.trans (x16_0 (h := 2) hT rfl) ?_
  refine xit (fun _ => ?_) (fun _ => ?_)
  · refine Eq.trans (x0 (h := 15) hT rfl) ?_
    exact x201 (h := 16) hT rfl
  · refine Eq.trans (x1 (h := 3) hT rfl rfl (by decide)) ?_
    refine Eq.trans (x1 (h := 4) hT rfl rfl (by decide)) ?_
    refine Eq.trans (x1 (h := 5) hT rfl rfl (by decide)) ?_
    refine Eq.trans (x31 (r := a0) (cl := 12) (as := [(0, a1), (0, a2)]) (st' := []) (h := 6) hT rfl sm_149 rfl ha0) ?_
    refine xbd (fun q2 => ?_)
    rw [rv_149]
    change zB P 235 7 [(2, ((a0 : Nat) : Int)), (0, a1), (0, a2), (0, a3), (0, a4), (3, 0)] [(0, q2.1)] q2.2 = _
    refine Eq.trans (x16_0 (h := 7) hT rfl) ?_
    refine xit (fun _ => ?_) (fun _ => ?_)
    · refine Eq.trans (x0 (h := 15) hT rfl) ?_
      exact x201 (h := 16) hT rfl
    · refine Eq.trans (x1 (h := 8) hT rfl rfl (by decide)) ?_
      refine Eq.trans (x16_2 (h := 9) hT rfl) ?_
      refine xit (fun _ => ?_) (fun _ => ?_)
      · refine Eq.trans (x0 (h := 15) hT rfl) ?_
        exact x201 (h := 16) hT rfl
      · refine Eq.trans (x1 (h := 10) hT rfl rfl (by decide)) ?_
        refine Eq.trans (x0 (h := 11) hT rfl) ?_
        refine Eq.trans (x0 (h := 12) hT rfl) ?_
        refine Eq.trans (x34 (as := [(0, a4), (0, 0), (0, 1)]) (st' := []) (h := 13) hT rfl sm_55 rfl) ?_
        refine xbd (fun q3 => ?_)
        rw [rv_55]
        change zB P 235 14 [(2, ((a0 : Nat) : Int)), (0, a1), (0, a2), (0, a3), (0, a4), (3, 0)] [(0, q3.1)] q3.2 = _
        refine Eq.trans (x16_1 (h := 14) hT rfl) ?_
        refine xit (fun _ => ?_) (fun _ => ?_)
        · refine Eq.trans (x1 (h := 17) hT rfl rfl (by decide)) ?_
          refine Eq.trans (x1 (h := 18) hT rfl rfl (by decide)) ?_
          refine Eq.trans (x1 (h := 19) hT rfl rfl (by decide)) ?_
          refine Eq.trans (x1 (h := 20) hT rfl rfl (by decide)) ?_
          refine Eq.trans (x31 (r := a0) (cl := 12) (as := [(0, a1), (0, a2), (0, a3)]) (st' := []) (h := 21) hT rfl sm_205 rfl ha0) ?_
          refine xbd (fun q4 => ?_)
          rw [rv_205]
          change zB P 235 22 [(2, ((a0 : Nat) : Int)), (0, a1), (0, a2), (0, a3), (0, a4), (3, 0)] [(0, q4.1)] q4.2 = _
          refine Eq.trans (x2 (ls' := [(2, ((a0 : Nat) : Int)), (0, a1), (0, a2), (0, a3), (0, a4), (0, q4.1)]) (h := 22) hT rfl (Nat.le_of_ble_eq_true rfl) rfl) ?_
          refine Eq.trans (x1 (h := 23) hT rfl rfl (by decide)) ?_
          refine Eq.trans (x0 (h := 24) hT rfl) ?_
          refine Eq.trans (x17_1 (h := 25) hT rfl) ?_
          refine xit (fun _ => ?_) (fun _ => ?_)
          · refine Eq.trans (x1 (h := 28) hT rfl rfl (by decide)) ?_
            refine Eq.trans (x16_1 (h := 29) hT rfl) ?_
            refine xit (fun _ => ?_) (fun _ => ?_)
            · refine Eq.trans (x1 (h := 32) hT rfl rfl (by decide)) ?_
              refine Eq.trans (x1 (h := 33) hT rfl rfl (by decide)) ?_
              refine Eq.trans (x1 (h := 34) hT rfl rfl (by decide)) ?_
              refine Eq.trans (x1 (h := 35) hT rfl rfl (by decide)) ?_
              refine Eq.trans (x31 (r := a0) (cl := 12) (as := [(0, a1), (0, a2), (0, q4.1)]) (st' := []) (h := 36) hT rfl sm_71 rfl ha0) ?_
              refine xbd (fun q5 => ?_)
              rw [rv_71]
              change zB P 235 37 [(2, ((a0 : Nat) : Int)), (0, a1), (0, a2), (0, a3), (0, a4), (0, q4.1)] [(0, q5.1)] q5.2 = _
              exact x201 (h := 37) hT rfl
            · refine Eq.trans (x1 (h := 30) hT rfl rfl (by decide)) ?_
              refine Eq.trans (x18 (h := 31) hT rfl) ?_
              exact x201 (h := 37) hT rfl
          · refine Eq.trans (x0 (h := 26) hT rfl) ?_
            exact x201 (h := 27) hT rfl
        · refine Eq.trans (x0 (h := 15) hT rfl) ?_
          exact x201 (h := 16) hT rfl
/-! WordLinksModel.find(II)I -/
set_option maxRecDepth 100000 in
theorem e_236 {P : zP} {d : zD P} {a0 : Nat} {a1 : Int} {a2 : Int} (ha0 : zkd a0 = 12) : MM P 236 [(2, ((a0 : Nat) : Int)), (0, a1), (0, a2)] d = ((MM P 147 [(0, a1)] d).bind fun q1 => (if wr q1.1 = 0 then some ((-1), q1.2) else ((MM P 55 [(0, a2), (0, 1), (0, 7)] q1.2).bind fun q2 => (if wr q2.1 = 0 then some ((-1), q2.2) else (if wr a2 ≤ wr ((q2.2.m a0 3)) then (if zin 0 8 then zB P 236 21 [(2, ((a0 : Nat) : Int)), (0, a1), (0, a2), (0, 0)] [] ((q2.2.up ((a0 + 3)) (zix 0) a2)) else none) else some ((-1), q2.2)))))) := by
  have hT := cT_236
  refine Eq.trans (MM_def sm_236 (Nat.le_of_ble_eq_true rfl)) ?_
  change zB P 236 0 [(2, ((a0 : Nat) : Int)), (0, a1), (0, a2), (3, 0)] [] d = _
  refine Eq.trans (x1 (h := 0) hT rfl rfl (by decide)) ?_
  refine Eq.trans (x34 (as := [(0, a1)]) (st' := []) (h := 1) hT rfl sm_147 rfl) ?_
  refine xbd (fun q1 => ?_)
  rw [rv_147]
  change zB P 236 2 [(2, ((a0 : Nat) : Int)), (0, a1), (0, a2), (3, 0)] [(0, q1.1)] q1.2 = _
  refine Eq.trans (x16_0 (h := 2) hT rfl) ?_
  refine xit (fun _ => ?_) (fun _ => ?_)
  · refine Eq.trans (x0 (h := 12) hT rfl) ?_
    exact x201 (h := 13) hT rfl
  · refine Eq.trans (x1 (h := 3) hT rfl rfl (by decide)) ?_
    refine Eq.trans (x0 (h := 4) hT rfl) ?_
    refine Eq.trans (x0 (h := 5) hT rfl) ?_
    refine Eq.trans (x34 (as := [(0, a2), (0, 1), (0, 7)]) (st' := []) (h := 6) hT rfl sm_55 rfl) ?_
    refine xbd (fun q2 => ?_)
    rw [rv_55]
    change zB P 236 7 [(2, ((a0 : Nat) : Int)), (0, a1), (0, a2), (3, 0)] [(0, q2.1)] q2.2 = _
    refine Eq.trans (x16_0 (h := 7) hT rfl) ?_
    refine xit (fun _ => ?_) (fun _ => ?_)
    · refine Eq.trans (x0 (h := 12) hT rfl) ?_
      exact x201 (h := 13) hT rfl
    · refine Eq.trans (x1 (h := 8) hT rfl rfl (by decide)) ?_
      refine Eq.trans (x1 (h := 9) hT rfl rfl (by decide)) ?_
      refine Eq.trans (x21 (r := a0) (cl := 12) (h := 10) hT rfl ha0) ?_
      refine Eq.trans (x17_5 (h := 11) hT rfl) ?_
      refine xit (fun _ => ?_) (fun _ => ?_)
      · refine Eq.trans (x1 (h := 14) hT rfl rfl (by decide)) ?_
        refine Eq.trans (x21r (r := a0) (cl := 12) (o := 3) (h := 15) hT rfl ha0 (by decide) rfl) ?_
        refine Eq.trans (x0 (h := 16) hT rfl) ?_
        refine Eq.trans (x1 (h := 17) hT rfl rfl (by decide)) ?_
        refine Eq.trans (x25a (r := (a0 + 3)) (n := 8) (h := 18) hT rfl (kd_12_9 ha0) (ln_12_9 ha0) (by decide) rfl) ?_
        refine xig (fun hz3 => ?_)
        refine Eq.trans (x0 (h := 19) hT rfl) ?_
        refine Eq.trans (x2 (ls' := [(2, ((a0 : Nat) : Int)), (0, a1), (0, a2), (0, 0)]) (h := 20) hT rfl (Nat.le_of_ble_eq_true rfl) rfl) ?_
        exact rfl
      · refine Eq.trans (x0 (h := 12) hT rfl) ?_
        exact x201 (h := 13) hT rfl
set_option maxRecDepth 100000 in
theorem q_236_21 {P : zP} {d : zD P} {a0 : Nat} {a1 : Int} {a2 : Int} {a3 : Int} (ha0 : zkd a0 = 12) : zB P 236 21 [(2, ((a0 : Nat) : Int)), (0, a1), (0, a2), (0, a3)] [] d = (if wr a2 ≤ wr a3 then ((MM P 203 [(2, ((a0 : Nat) : Int)), (0, a1)] ((d.up a0 3 0))).bind fun q4 => (if wr q4.1 ≠ wr ((-1)) then some (q4.1, q4.2) else some ((-2), q4.2))) else (if zin a3 240 then (if zin ((1 + a3)) 8 then zB P 236 21 [(2, ((a0 : Nat) : Int)), (0, a1), (0, a2), (0, (a3 + 1))] [] ((d.up ((a0 + 3)) (zix ((1 + a3))) ((zbin 3 ((d.m ((a0 + 2)) (zix a3))) 255)))) else none) else none)) := by
  have hT := cT_236
  refine Eq.trans (x1 (h := 21) hT rfl rfl (by decide)) ?_
  refine Eq.trans (x1 (h := 22) hT rfl rfl (by decide)) ?_
  refine Eq.trans (x17_3 (h := 23) hT rfl) ?_
  refine xit (fun _ => ?_) (fun _ => ?_)
  · refine Eq.trans (x1 (h := 38) hT rfl rfl (by decide)) ?_
    refine Eq.trans (x0 (h := 39) hT rfl) ?_
    refine Eq.trans (x22 (r := a0) (cl := 12) (h := 40) hT rfl ha0 (by decide) rfl (by decide)) ?_
    refine Eq.trans (x1 (h := 41) hT rfl rfl (by decide)) ?_
    refine Eq.trans (x1 (h := 42) hT rfl rfl (by decide)) ?_
    refine Eq.trans (x31 (r := a0) (cl := 12) (as := [(0, a1)]) (st' := []) (h := 43) hT rfl sm_203 rfl ha0) ?_
    refine xbd (fun q4 => ?_)
    rw [rv_203]
    change zB P 236 44 [(2, ((a0 : Nat) : Int)), (0, a1), (0, a2), (0, a3)] [(0, q4.1)] q4.2 = _
    refine Eq.trans (x2 (ls' := [(2, ((a0 : Nat) : Int)), (0, a1), (0, a2), (0, q4.1)]) (h := 44) hT rfl (Nat.le_of_ble_eq_true rfl) rfl) ?_
    refine Eq.trans (x1 (h := 45) hT rfl rfl (by decide)) ?_
    refine Eq.trans (x0 (h := 46) hT rfl) ?_
    refine Eq.trans (x17_1 (h := 47) hT rfl) ?_
    refine xit (fun _ => ?_) (fun _ => ?_)
    · refine Eq.trans (x1 (h := 50) hT rfl rfl (by decide)) ?_
      exact x201 (h := 51) hT rfl
    · refine Eq.trans (x0 (h := 48) hT rfl) ?_
      refine Eq.trans (x18 (h := 49) hT rfl) ?_
      exact x201 (h := 51) hT rfl
  · refine Eq.trans (x1 (h := 24) hT rfl rfl (by decide)) ?_
    refine Eq.trans (x21r (r := a0) (cl := 12) (o := 3) (h := 25) hT rfl ha0 (by decide) rfl) ?_
    refine Eq.trans (x0 (h := 26) hT rfl) ?_
    refine Eq.trans (x1 (h := 27) hT rfl rfl (by decide)) ?_
    refine Eq.trans (x5_0 (h := 28) hT rfl) ?_
    refine Eq.trans (x1 (h := 29) hT rfl rfl (by decide)) ?_
    refine Eq.trans (x21r (r := a0) (cl := 12) (o := 2) (h := 30) hT rfl ha0 (by decide) rfl) ?_
    refine Eq.trans (x1 (h := 31) hT rfl rfl (by decide)) ?_
    refine Eq.trans (x24 (r := (a0 + 2)) (n := 240) (h := 32) hT rfl (Or.inl (kd_12_2 ha0)) (ln_12_2 ha0)) ?_
    refine xig (fun hz5 => ?_)
    refine Eq.trans (x0 (h := 33) hT rfl) ?_
    refine Eq.trans (x5n (h := 34) hT rfl) ?_
    refine Eq.trans (x25a (r := (a0 + 3)) (n := 8) (h := 35) hT rfl (kd_12_9 ha0) (ln_12_9 ha0) (by decide) rfl) ?_
    refine xig (fun hz6 => ?_)
    refine Eq.trans (x4 (ls' := [(2, ((a0 : Nat) : Int)), (0, a1), (0, a2), (0, (a3 + 1))]) (h := 36) hT rfl rfl rfl) ?_
    refine Eq.trans (x18 (h := 37) hT rfl) ?_
    exact rfl
/-! WordLinksModel.isBetter(IIIIII)Z -/
set_option maxRecDepth 100000 in
theorem e_237 {P : zP} {d : zD P} {a0 : Nat} {a1 : Int} {a2 : Int} {a3 : Int} {a4 : Int} {a5 : Int} {a6 : Int} (ha0 : zkd a0 = 12) : MM P 237 [(2, ((a0 : Nat) : Int)), (0, a1), (0, a2), (0, a3), (0, a4), (0, a5), (0, a6)] d = (if wr a1 ≠ 0 then ((MM P 212 [(2, ((a0 : Nat) : Int)), (0, 1), (0, a2), (0, a4), (0, a3)] d).bind fun q1 => (if wr a1 ≠ 0 then ((MM P 212 [(2, ((a0 : Nat) : Int)), (0, 1), (0, a2), (0, a6), (0, a5)] q1.2).bind fun q2 => (if wrl q1.1 = wrl q2.1 then ((MM P 132 [(2, ((a0 : Nat) : Int)), (0, a2), (0, a3), (0, a4)] q2.2).bind fun q3 => ((MM P 132 [(2, ((a0 : Nat) : Int)), (0, a2), (0, a5), (0, a6)] q3.2).bind fun q4 => (if wr q4.1 ≤ wr q3.1 then some (0, q4.2) else some (1, q4.2)))) else (if wrl q1.1 ≤ wrl q2.1 then some (0, q2.2) else some (1, q2.2)))) else ((MM P 212 [(2, ((a0 : Nat) : Int)), (0, 0), (0, a2), (0, a5), (0, a6)] q1.2).bind fun q5 => (if wrl q1.1 = wrl q5.1 then ((MM P 132 [(2, ((a0 : Nat) : Int)), (0, a2), (0, a3), (0, a4)] q5.2).bind fun q6 => ((MM P 132 [(2, ((a0 : Nat) : Int)), (0, a2), (0, a5), (0, a6)] q6.2).bind fun q7 => (if wr q7.1 ≤ wr q6.1 then some (0, q7.2) else some (1, q7.2)))) else (if wrl q1.1 ≤ wrl q5.1 then some (0, q5.2) else some (1, q5.2)))))) else ((MM P 212 [(2, ((a0 : Nat) : Int)), (0, 0), (0, a2), (0, a3), (0, a4)] d).bind fun q8 => (if wr a1 ≠ 0 then ((MM P 212 [(2, ((a0 : Nat) : Int)), (0, 1), (0, a2), (0, a6), (0, a5)] q8.2).bind fun q9 => (if wrl q8.1 = wrl q9.1 then ((MM P 132 [(2, ((a0 : Nat) : Int)), (0, a2), (0, a3), (0, a4)] q9.2).bind fun q10 => ((MM P 132 [(2, ((a0 : Nat) : Int)), (0, a2), (0, a5), (0, a6)] q10.2).bind fun q11 => (if wr q11.1 ≤ wr q10.1 then some (0, q11.2) else some (1, q11.2)))) else (if wrl q8.1 ≤ wrl q9.1 then some (0, q9.2) else some (1, q9.2)))) else ((MM P 212 [(2, ((a0 : Nat) : Int)), (0, 0), (0, a2), (0, a5), (0, a6)] q8.2).bind fun q12 => (if wrl q8.1 = wrl q12.1 then ((MM P 132 [(2, ((a0 : Nat) : Int)), (0, a2), (0, a3), (0, a4)] q12.2).bind fun q13 => ((MM P 132 [(2, ((a0 : Nat) : Int)), (0, a2), (0, a5), (0, a6)] q13.2).bind fun q14 => (if wr q14.1 ≤ wr q13.1 then some (0, q14.2) else some (1, q14.2)))) else (if wrl q8.1 ≤ wrl q12.1 then some (0, q12.2) else some (1, q12.2))))))) := by
  have hT := cT_237
  refine Eq.trans (MM_def sm_237 (Nat.le_of_ble_eq_true rfl)) ?_
  change zB P 237 0 [(2, ((a0 : Nat) : Int)), (0, a1), (0, a2), (0, a3), (0, a4), (0, a5), (0, a6), (3, 0), (3, 0), (3, 0), (3, 0)] [] d = _
  refine Eq.trans (x1 (h := 0) hT rfl rfl (by decide)) ?_
  refine Eq.trans (x16_1 (h := 1) hT rfl) ?_
  refine xit (fun _ => ?_) (fun _ => ?_)
  · refine Eq.trans (x1 (h := 9) hT rfl rfl (by decide)) ?_
    refine Eq.trans (x0 (h := 10) hT rfl) ?_
    refine Eq.trans (x1 (h := 11) hT rfl rfl (by decide)) ?_
    refine Eq.trans (x1 (h := 12) hT rfl rfl (by decide)) ?_
    refine Eq.trans (x1 (h := 13) hT rfl rfl (by decide)) ?_
    refine Eq.trans (x31 (r := a0) (cl := 12) (as := [(0, 1), (0, a2), (0, a4), (0, a3)]) (st' := []) (h := 14) hT rfl sm_212 rfl ha0) ?_
    refine xbd (fun q1 => ?_)
    rw [rv_212]
    change zB P 237 15 [(2, ((a0 : Nat) : Int)), (0, a1), (0, a2), (0, a3), (0, a4), (0, a5), (0, a6), (3, 0), (3, 0), (3, 0), (3, 0)] [(1, q1.1)] q1.2 = _
    refine Eq.trans (x3 (ls' := [(2, ((a0 : Nat) : Int)), (0, a1), (0, a2), (0, a3), (0, a4), (0, a5), (0, a6), (1, q1.1), (3, 0), (3, 0), (3, 0)]) (h := 15) hT rfl (Nat.le_of_ble_eq_true rfl) rfl) ?_
    refine Eq.trans (x1 (h := 16) hT rfl rfl (by decide)) ?_
    refine Eq.trans (x16_1 (h := 17) hT rfl) ?_
    refine xit (fun _ => ?_) (fun _ => ?_)
    · refine Eq.trans (x1 (h := 25) hT rfl rfl (by decide)) ?_
      refine Eq.trans (x0 (h := 26) hT rfl) ?_
      refine Eq.trans (x1 (h := 27) hT rfl rfl (by decide)) ?_
      refine Eq.trans (x1 (h := 28) hT rfl rfl (by decide)) ?_
      refine Eq.trans (x1 (h := 29) hT rfl rfl (by decide)) ?_
      refine Eq.trans (x31 (r := a0) (cl := 12) (as := [(0, 1), (0, a2), (0, a6), (0, a5)]) (st' := []) (h := 30) hT rfl sm_212 rfl ha0) ?_
      refine xbd (fun q2 => ?_)
      rw [rv_212]
      change zB P 237 31 [(2, ((a0 : Nat) : Int)), (0, a1), (0, a2), (0, a3), (0, a4), (0, a5), (0, a6), (1, q1.1), (3, 0), (3, 0), (3, 0)] [(1, q2.1)] q2.2 = _
      refine Eq.trans (x3 (ls' := [(2, ((a0 : Nat) : Int)), (0, a1), (0, a2), (0, a3), (0, a4), (0, a5), (0, a6), (1, q1.1), (3, 0), (1, q2.1), (3, 0)]) (h := 31) hT rfl (Nat.le_of_ble_eq_true rfl) rfl) ?_
      refine Eq.trans (x1 (h := 32) hT rfl rfl (by decide)) ?_
      refine Eq.trans (x1 (h := 33) hT rfl rfl (by decide)) ?_
      refine Eq.trans (x116_0 (h := 34) hT rfl rfl) ?_
      refine xit (fun _ => ?_) (fun _ => ?_)
      · refine Eq.trans (x1 (h := 44) hT rfl rfl (by decide)) ?_
        refine Eq.trans (x1 (h := 45) hT rfl rfl (by decide)) ?_
        refine Eq.trans (x1 (h := 46) hT rfl rfl (by decide)) ?_
        refine Eq.trans (x1 (h := 47) hT rfl rfl (by decide)) ?_
        refine Eq.trans (x31 (r := a0) (cl := 12) (as := [(0, a2), (0, a3), (0, a4)]) (st' := []) (h := 48) hT rfl sm_132 rfl ha0) ?_
        refine xbd (fun q3 => ?_)
        rw [rv_132]
        change zB P 237 49 [(2, ((a0 : Nat) : Int)), (0, a1), (0, a2), (0, a3), (0, a4), (0, a5), (0, a6), (1, q1.1), (3, 0), (1, q2.1), (3, 0)] [(0, q3.1)] q3.2 = _
        refine Eq.trans (x1 (h := 49) hT rfl rfl (by decide)) ?_
        refine Eq.trans (x1 (h := 50) hT rfl rfl (by decide)) ?_
        refine Eq.trans (x1 (h := 51) hT rfl rfl (by decide)) ?_
        refine Eq.trans (x1 (h := 52) hT rfl rfl (by decide)) ?_
        refine Eq.trans (x31 (r := a0) (cl := 12) (as := [(0, a2), (0, a5), (0, a6)]) (st' := [(0, q3.1)]) (h := 53) hT rfl sm_132 rfl ha0) ?_
        refine xbd (fun q4 => ?_)
        rw [rv_132]
        change zB P 237 54 [(2, ((a0 : Nat) : Int)), (0, a1), (0, a2), (0, a3), (0, a4), (0, a5), (0, a6), (1, q1.1), (3, 0), (1, q2.1), (3, 0)] [(0, q4.1), (0, q3.1)] q4.2 = _
        refine Eq.trans (x17_3 (h := 54) hT rfl) ?_
        refine xit (fun _ => ?_) (fun _ => ?_)
        · refine Eq.trans (x0 (h := 57) hT rfl) ?_
          exact x203c (h := 58) hT rfl (by decide)
        · refine Eq.trans (x0 (h := 55) hT rfl) ?_
          refine Eq.trans (x18 (h := 56) hT rfl) ?_
          exact x203c (h := 58) hT rfl (by decide)
      · refine Eq.trans (x1 (h := 36) hT rfl rfl (by decide)) ?_
        refine Eq.trans (x1 (h := 37) hT rfl rfl (by decide)) ?_
        refine Eq.trans (x116_5 (h := 38) hT rfl rfl) ?_
        refine xit (fun _ => ?_) (fun _ => ?_)
        · refine Eq.trans (x0 (h := 42) hT rfl) ?_
          refine Eq.trans (x18 (h := 43) hT rfl) ?_
          exact x203c (h := 58) hT rfl (by decide)
        · refine Eq.trans (x0 (h := 40) hT rfl) ?_
          refine Eq.trans (x18 (h := 41) hT rfl) ?_
          exact x203c (h := 58) hT rfl (by decide)
    · refine Eq.trans (x1 (h := 18) hT rfl rfl (by decide)) ?_
      refine Eq.trans (x0 (h := 19) hT rfl) ?_
      refine Eq.trans (x1 (h := 20) hT rfl rfl (by decide)) ?_
      refine Eq.trans (x1 (h := 21) hT rfl rfl (by decide)) ?_
      refine Eq.trans (x1 (h := 22) hT rfl rfl (by decide)) ?_
      refine Eq.trans (x31 (r := a0) (cl := 12) (as := [(0, 0), (0, a2), (0, a5), (0, a6)]) (st' := []) (h := 23) hT rfl sm_212 rfl ha0) ?_
      refine xbd (fun q5 => ?_)
      rw [rv_212]
      change zB P 237 24 [(2, ((a0 : Nat) : Int)), (0, a1), (0, a2), (0, a3), (0, a4), (0, a5), (0, a6), (1, q1.1), (3, 0), (3, 0), (3, 0)] [(1, q5.1)] q5.2 = _
      refine Eq.trans (x18 (h := 24) hT rfl) ?_
      refine Eq.trans (x3 (ls' := [(2, ((a0 : Nat) : Int)), (0, a1), (0, a2), (0, a3), (0, a4), (0, a5), (0, a6), (1, q1.1), (3, 0), (1, q5.1), (3, 0)]) (h := 31) hT rfl (Nat.le_of_ble_eq_true rfl) rfl) ?_
      refine Eq.trans (x1 (h := 32) hT rfl rfl (by decide)) ?_
      refine Eq.trans (x1 (h := 33) hT rfl rfl (by decide)) ?_
      refine Eq.trans (x116_0 (h := 34) hT rfl rfl) ?_
      refine xit (fun _ => ?_) (fun _ => ?_)
      · refine Eq.trans (x1 (h := 44) hT rfl rfl (by decide)) ?_
        refine Eq.trans (x1 (h := 45) hT rfl rfl (by decide)) ?_
        refine Eq.trans (x1 (h := 46) hT rfl rfl (by decide)) ?_
        refine Eq.trans (x1 (h := 47) hT rfl rfl (by decide)) ?_
        refine Eq.trans (x31 (r := a0) (cl := 12) (as := [(0, a2), (0, a3), (0, a4)]) (st' := []) (h := 48) hT rfl sm_132 rfl ha0) ?_
        refine xbd (fun q6 => ?_)
        rw [rv_132]
        change zB P 237 49 [(2, ((a0 : Nat) : Int)), (0, a1), (0, a2), (0, a3), (0, a4), (0, a5), (0, a6), (1, q1.1), (3, 0), (1, q5.1), (3, 0)] [(0, q6.1)] q6.2 = _
        refine Eq.trans (x1 (h := 49) hT rfl rfl (by decide)) ?_
        refine Eq.trans (x1 (h := 50) hT rfl rfl (by decide)) ?_
        refine Eq.trans (x1 (h := 51) hT rfl rfl (by decide)) ?_
        refine Eq.trans (x1 (h := 52) hT rfl rfl (by decide)) ?_
        refine Eq.trans (x31 (r := a0) (cl := 12) (as := [(0, a2), (0, a5), (0, a6)]) (st' := [(0, q6.1)]) (h := 53) hT rfl sm_132 rfl ha0) ?_
        refine xbd (fun q7 => ?_)
        rw [rv_132]
        change zB P 237 54 [(2, ((a0 : Nat) : Int)), (0, a1), (0, a2), (0, a3), (0, a4), (0, a5), (0, a6), (1, q1.1), (3, 0), (1, q5.1), (3, 0)] [(0, q7.1), (0, q6.1)] q7.2 = _
        refine Eq.trans (x17_3 (h := 54) hT rfl) ?_
        refine xit (fun _ => ?_) (fun _ => ?_)
        · refine Eq.trans (x0 (h := 57) hT rfl) ?_
          exact x203c (h := 58) hT rfl (by decide)
        · refine Eq.trans (x0 (h := 55) hT rfl) ?_
          refine Eq.trans (x18 (h := 56) hT rfl) ?_
          exact x203c (h := 58) hT rfl (by decide)
      · refine Eq.trans (x1 (h := 36) hT rfl rfl (by decide)) ?_
        refine Eq.trans (x1 (h := 37) hT rfl rfl (by decide)) ?_
        refine Eq.trans (x116_5 (h := 38) hT rfl rfl) ?_
        refine xit (fun _ => ?_) (fun _ => ?_)
        · refine Eq.trans (x0 (h := 42) hT rfl) ?_
          refine Eq.trans (x18 (h := 43) hT rfl) ?_
          exact x203c (h := 58) hT rfl (by decide)
        · refine Eq.trans (x0 (h := 40) hT rfl) ?_
          refine Eq.trans (x18 (h := 41) hT rfl) ?_
          exact x203c (h := 58) hT rfl (by decide)
  · refine Eq.trans (x1 (h := 2) hT rfl rfl (by decide)) ?_
    refine Eq.trans (x0 (h := 3) hT rfl) ?_
    refine Eq.trans (x1 (h := 4) hT rfl rfl (by decide)) ?_
    refine Eq.trans (x1 (h := 5) hT rfl rfl (by decide)) ?_
    refine Eq.trans (x1 (h := 6) hT rfl rfl (by decide)) ?_
    refine Eq.trans (x31 (r := a0) (cl := 12) (as := [(0, 0), (0, a2), (0, a3), (0, a4)]) (st' := []) (h := 7) hT rfl sm_212 rfl ha0) ?_
    refine xbd (fun q8 => ?_)
    rw [rv_212]
    change zB P 237 8 [(2, ((a0 : Nat) : Int)), (0, a1), (0, a2), (0, a3), (0, a4), (0, a5), (0, a6), (3, 0), (3, 0), (3, 0), (3, 0)] [(1, q8.1)] q8.2 = _
    refine Eq.trans (x18 (h := 8) hT rfl) ?_
    refine Eq.trans (x3 (ls' := [(2, ((a0 : Nat) : Int)), (0, a1), (0, a2), (0, a3), (0, a4), (0, a5), (0, a6), (1, q8.1), (3, 0), (3, 0), (3, 0)]) (h := 15) hT rfl (Nat.le_of_ble_eq_true rfl) rfl) ?_
    refine Eq.trans (x1 (h := 16) hT rfl rfl (by decide)) ?_
    refine Eq.trans (x16_1 (h := 17) hT rfl) ?_
    refine xit (fun _ => ?_) (fun _ => ?_)
    · refine Eq.trans (x1 (h := 25) hT rfl rfl (by decide)) ?_
      refine Eq.trans (x0 (h := 26) hT rfl) ?_
      refine Eq.trans (x1 (h := 27) hT rfl rfl (by decide)) ?_
      refine Eq.trans (x1 (h := 28) hT rfl rfl (by decide)) ?_
      refine Eq.trans (x1 (h := 29) hT rfl rfl (by decide)) ?_
      refine Eq.trans (x31 (r := a0) (cl := 12) (as := [(0, 1), (0, a2), (0, a6), (0, a5)]) (st' := []) (h := 30) hT rfl sm_212 rfl ha0) ?_
      refine xbd (fun q9 => ?_)
      rw [rv_212]
      change zB P 237 31 [(2, ((a0 : Nat) : Int)), (0, a1), (0, a2), (0, a3), (0, a4), (0, a5), (0, a6), (1, q8.1), (3, 0), (3, 0), (3, 0)] [(1, q9.1)] q9.2 = _
      refine Eq.trans (x3 (ls' := [(2, ((a0 : Nat) : Int)), (0, a1), (0, a2), (0, a3), (0, a4), (0, a5), (0, a6), (1, q8.1), (3, 0), (1, q9.1), (3, 0)]) (h := 31) hT rfl (Nat.le_of_ble_eq_true rfl) rfl) ?_
      refine Eq.trans (x1 (h := 32) hT rfl rfl (by decide)) ?_
      refine Eq.trans (x1 (h := 33) hT rfl rfl (by decide)) ?_
      refine Eq.trans (x116_0 (h := 34) hT rfl rfl) ?_
      refine xit (fun _ => ?_) (fun _ => ?_)
      · refine Eq.trans (x1 (h := 44) hT rfl rfl (by decide)) ?_
        refine Eq.trans (x1 (h := 45) hT rfl rfl (by decide)) ?_
        refine Eq.trans (x1 (h := 46) hT rfl rfl (by decide)) ?_
        refine Eq.trans (x1 (h := 47) hT rfl rfl (by decide)) ?_
        refine Eq.trans (x31 (r := a0) (cl := 12) (as := [(0, a2), (0, a3), (0, a4)]) (st' := []) (h := 48) hT rfl sm_132 rfl ha0) ?_
        refine xbd (fun q10 => ?_)
        rw [rv_132]
        change zB P 237 49 [(2, ((a0 : Nat) : Int)), (0, a1), (0, a2), (0, a3), (0, a4), (0, a5), (0, a6), (1, q8.1), (3, 0), (1, q9.1), (3, 0)] [(0, q10.1)] q10.2 = _
        refine Eq.trans (x1 (h := 49) hT rfl rfl (by decide)) ?_
        refine Eq.trans (x1 (h := 50) hT rfl rfl (by decide)) ?_
        refine Eq.trans (x1 (h := 51) hT rfl rfl (by decide)) ?_
        refine Eq.trans (x1 (h := 52) hT rfl rfl (by decide)) ?_
        refine Eq.trans (x31 (r := a0) (cl := 12) (as := [(0, a2), (0, a5), (0, a6)]) (st' := [(0, q10.1)]) (h := 53) hT rfl sm_132 rfl ha0) ?_
        refine xbd (fun q11 => ?_)
        rw [rv_132]
        change zB P 237 54 [(2, ((a0 : Nat) : Int)), (0, a1), (0, a2), (0, a3), (0, a4), (0, a5), (0, a6), (1, q8.1), (3, 0), (1, q9.1), (3, 0)] [(0, q11.1), (0, q10.1)] q11.2 = _
        refine Eq.trans (x17_3 (h := 54) hT rfl) ?_
        refine xit (fun _ => ?_) (fun _ => ?_)
        · refine Eq.trans (x0 (h := 57) hT rfl) ?_
          exact x203c (h := 58) hT rfl (by decide)
        · refine Eq.trans (x0 (h := 55) hT rfl) ?_
          refine Eq.trans (x18 (h := 56) hT rfl) ?_
          exact x203c (h := 58) hT rfl (by decide)
      · refine Eq.trans (x1 (h := 36) hT rfl rfl (by decide)) ?_
        refine Eq.trans (x1 (h := 37) hT rfl rfl (by decide)) ?_
        refine Eq.trans (x116_5 (h := 38) hT rfl rfl) ?_
        refine xit (fun _ => ?_) (fun _ => ?_)
        · refine Eq.trans (x0 (h := 42) hT rfl) ?_
          refine Eq.trans (x18 (h := 43) hT rfl) ?_
          exact x203c (h := 58) hT rfl (by decide)
        · refine Eq.trans (x0 (h := 40) hT rfl) ?_
          refine Eq.trans (x18 (h := 41) hT rfl) ?_
          exact x203c (h := 58) hT rfl (by decide)
    · refine Eq.trans (x1 (h := 18) hT rfl rfl (by decide)) ?_
      refine Eq.trans (x0 (h := 19) hT rfl) ?_
      refine Eq.trans (x1 (h := 20) hT rfl rfl (by decide)) ?_
      refine Eq.trans (x1 (h := 21) hT rfl rfl (by decide)) ?_
      refine Eq.trans (x1 (h := 22) hT rfl rfl (by decide)) ?_
      refine Eq.trans (x31 (r := a0) (cl := 12) (as := [(0, 0), (0, a2), (0, a5), (0, a6)]) (st' := []) (h := 23) hT rfl sm_212 rfl ha0) ?_
      refine xbd (fun q12 => ?_)
      rw [rv_212]
      change zB P 237 24 [(2, ((a0 : Nat) : Int)), (0, a1), (0, a2), (0, a3), (0, a4), (0, a5), (0, a6), (1, q8.1), (3, 0), (3, 0), (3, 0)] [(1, q12.1)] q12.2 = _
      refine Eq.trans (x18 (h := 24) hT rfl) ?_
      refine Eq.trans (x3 (ls' := [(2, ((a0 : Nat) : Int)), (0, a1), (0, a2), (0, a3), (0, a4), (0, a5), (0, a6), (1, q8.1), (3, 0), (1, q12.1), (3, 0)]) (h := 31) hT rfl (Nat.le_of_ble_eq_true rfl) rfl) ?_
      refine Eq.trans (x1 (h := 32) hT rfl rfl (by decide)) ?_
      refine Eq.trans (x1 (h := 33) hT rfl rfl (by decide)) ?_
      refine Eq.trans (x116_0 (h := 34) hT rfl rfl) ?_
      refine xit (fun _ => ?_) (fun _ => ?_)
      · refine Eq.trans (x1 (h := 44) hT rfl rfl (by decide)) ?_
        refine Eq.trans (x1 (h := 45) hT rfl rfl (by decide)) ?_
        refine Eq.trans (x1 (h := 46) hT rfl rfl (by decide)) ?_
        refine Eq.trans (x1 (h := 47) hT rfl rfl (by decide)) ?_
        refine Eq.trans (x31 (r := a0) (cl := 12) (as := [(0, a2), (0, a3), (0, a4)]) (st' := []) (h := 48) hT rfl sm_132 rfl ha0) ?_
        refine xbd (fun q13 => ?_)
        rw [rv_132]
        change zB P 237 49 [(2, ((a0 : Nat) : Int)), (0, a1), (0, a2), (0, a3), (0, a4), (0, a5), (0, a6), (1, q8.1), (3, 0), (1, q12.1), (3, 0)] [(0, q13.1)] q13.2 = _
        refine Eq.trans (x1 (h := 49) hT rfl rfl (by decide)) ?_
        refine Eq.trans (x1 (h := 50) hT rfl rfl (by decide)) ?_
        refine Eq.trans (x1 (h := 51) hT rfl rfl (by decide)) ?_
        refine Eq.trans (x1 (h := 52) hT rfl rfl (by decide)) ?_
        refine Eq.trans (x31 (r := a0) (cl := 12) (as := [(0, a2), (0, a5), (0, a6)]) (st' := [(0, q13.1)]) (h := 53) hT rfl sm_132 rfl ha0) ?_
        refine xbd (fun q14 => ?_)
        rw [rv_132]
        change zB P 237 54 [(2, ((a0 : Nat) : Int)), (0, a1), (0, a2), (0, a3), (0, a4), (0, a5), (0, a6), (1, q8.1), (3, 0), (1, q12.1), (3, 0)] [(0, q14.1), (0, q13.1)] q14.2 = _
        refine Eq.trans (x17_3 (h := 54) hT rfl) ?_
        refine xit (fun _ => ?_) (fun _ => ?_)
        · refine Eq.trans (x0 (h := 57) hT rfl) ?_
          exact x203c (h := 58) hT rfl (by decide)
        · refine Eq.trans (x0 (h := 55) hT rfl) ?_
          refine Eq.trans (x18 (h := 56) hT rfl) ?_
          exact x203c (h := 58) hT rfl (by decide)
      · refine Eq.trans (x1 (h := 36) hT rfl rfl (by decide)) ?_
        refine Eq.trans (x1 (h := 37) hT rfl rfl (by decide)) ?_
        refine Eq.trans (x116_5 (h := 38) hT rfl rfl) ?_
        refine xit (fun _ => ?_) (fun _ => ?_)
        · refine Eq.trans (x0 (h := 42) hT rfl) ?_
          refine Eq.trans (x18 (h := 43) hT rfl) ?_
          exact x203c (h := 58) hT rfl (by decide)
        · refine Eq.trans (x0 (h := 40) hT rfl) ?_
          refine Eq.trans (x18 (h := 41) hT rfl) ?_
          exact x203c (h := 58) hT rfl (by decide)
/-! WordLinksModel.laysHand(II)Z -/
set_option maxRecDepth 100000 in
theorem e_238 {P : zP} {d : zD P} {a0 : Nat} {a1 : Int} {a2 : Int} (ha0 : zkd a0 = 12) : MM P 238 [(2, ((a0 : Nat) : Int)), (0, a1), (0, a2)] d = ((MM P 203 [(2, ((a0 : Nat) : Int)), (0, a1)] d).bind fun q1 => (if wr q1.1 ≠ wr ((-1)) then (if zin 0 18180 then (if zin (((((24 + (20 * (q1.2.m ((a0 + 1)) (zix 0)))) + 2) + (6 * a1)) + a2)) 18180 then (if zin 0 18180 then (if zin (((24 + (20 * (((q1.2.up ((a0 + 1)) (zix (((((24 + (20 * (q1.2.m ((a0 + 1)) (zix 0)))) + 2) + (6 * a1)) + a2))) q1.1)).m ((a0 + 1)) (zix 0)))) + a1)) 18180 then some (1, (((q1.2.up ((a0 + 1)) (zix (((((24 + (20 * (q1.2.m ((a0 + 1)) (zix 0)))) + 2) + (6 * a1)) + a2))) q1.1)).up ((a0 + 1)) (zix (((24 + (20 * (((q1.2.up ((a0 + 1)) (zix (((((24 + (20 * (q1.2.m ((a0 + 1)) (zix 0)))) + 2) + (6 * a1)) + a2))) q1.1)).m ((a0 + 1)) (zix 0)))) + a1))) ((a2 + 1)))) else none) else none) else none) else none) else ((MM P 81 [(2, ((a0 : Nat) : Int)), (0, a1)] q1.2).bind fun q6 => (if wr q6.1 ≠ wr 40 then (if zin ((4 + a1)) 18180 then zB P 238 27 [(2, ((a0 : Nat) : Int)), (0, a1), (0, a2), (0, q6.1), (0, 0)] [] ((q6.2.up ((a0 + 1)) (zix ((4 + a1))) ((q6.1 + 1)))) else none) else some (0, q6.2))))) := by
  have hT := cT_238
  refine Eq.trans (MM_def sm_238 (Nat.le_of_ble_eq_true rfl)) ?_
  change zB P 238 0 [(2, ((a0 : Nat) : Int)), (0, a1), (0, a2), (3, 0), (3, 0)] [] d = _
  refine Eq.trans (x1 (h := 0) hT rfl rfl (by decide)) ?_
  refine Eq.trans (x1 (h := 1) hT rfl rfl (by decide)) ?_
  refine Eq.trans (x31 (r := a0) (cl := 12) (as := [(0, a1)]) (st' := []) (h := 2) hT rfl sm_203 rfl ha0) ?_
  refine xbd (fun q1 => ?_)
  rw [rv_203]
  change zB P 238 3 [(2, ((a0 : Nat) : Int)), (0, a1), (0, a2), (3, 0), (3, 0)] [(0, q1.1)] q1.2 = _
  refine Eq.trans (x2 (ls' := [(2, ((a0 : Nat) : Int)), (0, a1), (0, a2), (0, q1.1), (3, 0)]) (h := 3) hT rfl (Nat.le_of_ble_eq_true rfl) rfl) ?_
  refine Eq.trans (x1 (h := 4) hT rfl rfl (by decide)) ?_
  refine Eq.trans (x0 (h := 5) hT rfl) ?_
  refine Eq.trans (x17_1 (h := 6) hT rfl) ?_
  refine xit (fun _ => ?_) (fun _ => ?_)
  · refine Eq.trans (x1 (h := 58) hT rfl rfl (by decide)) ?_
    refine Eq.trans (x21r (r := a0) (cl := 12) (o := 1) (h := 59) hT rfl ha0 (by decide) rfl) ?_
    refine Eq.trans (x0 (h := 60) hT rfl) ?_
    refine Eq.trans (x0 (h := 61) hT rfl) ?_
    refine Eq.trans (x1 (h := 62) hT rfl rfl (by decide)) ?_
    refine Eq.trans (x21r (r := a0) (cl := 12) (o := 1) (h := 63) hT rfl ha0 (by decide) rfl) ?_
    refine Eq.trans (x0 (h := 64) hT rfl) ?_
    refine Eq.trans (x24 (r := (a0 + 1)) (n := 18180) (h := 65) hT rfl (Or.inl (kd_12_0 ha0)) (ln_12_0 ha0)) ?_
    refine xig (fun hz2 => ?_)
    refine Eq.trans (x5_2 (h := 66) hT rfl) ?_
    refine Eq.trans (x5_0 (h := 67) hT rfl) ?_
    refine Eq.trans (x0 (h := 68) hT rfl) ?_
    refine Eq.trans (x5_0 (h := 69) hT rfl) ?_
    refine Eq.trans (x0 (h := 70) hT rfl) ?_
    refine Eq.trans (x1 (h := 71) hT rfl rfl (by decide)) ?_
    refine Eq.trans (x5_2 (h := 72) hT rfl) ?_
    refine Eq.trans (x5_0 (h := 73) hT rfl) ?_
    refine Eq.trans (x1 (h := 74) hT rfl rfl (by decide)) ?_
    refine Eq.trans (x5_0 (h := 75) hT rfl) ?_
    refine Eq.trans (x1 (h := 76) hT rfl rfl (by decide)) ?_
    refine Eq.trans (x25a (r := (a0 + 1)) (n := 18180) (h := 77) hT rfl (kd_12_0 ha0) (ln_12_0 ha0) (by decide) rfl) ?_
    refine xig (fun hz3 => ?_)
    refine Eq.trans (x1 (h := 78) hT rfl rfl (by decide)) ?_
    refine Eq.trans (x21r (r := a0) (cl := 12) (o := 1) (h := 79) hT rfl ha0 (by decide) rfl) ?_
    refine Eq.trans (x0 (h := 80) hT rfl) ?_
    refine Eq.trans (x0 (h := 81) hT rfl) ?_
    refine Eq.trans (x1 (h := 82) hT rfl rfl (by decide)) ?_
    refine Eq.trans (x21r (r := a0) (cl := 12) (o := 1) (h := 83) hT rfl ha0 (by decide) rfl) ?_
    refine Eq.trans (x0 (h := 84) hT rfl) ?_
    refine Eq.trans (x24 (r := (a0 + 1)) (n := 18180) (h := 85) hT rfl (Or.inl (kd_12_0 ha0)) (ln_12_0 ha0)) ?_
    refine xig (fun hz4 => ?_)
    refine Eq.trans (x5_2 (h := 86) hT rfl) ?_
    refine Eq.trans (x5_0 (h := 87) hT rfl) ?_
    refine Eq.trans (x1 (h := 88) hT rfl rfl (by decide)) ?_
    refine Eq.trans (x5_0 (h := 89) hT rfl) ?_
    refine Eq.trans (x1 (h := 90) hT rfl rfl (by decide)) ?_
    refine Eq.trans (x0 (h := 91) hT rfl) ?_
    refine Eq.trans (x5_0 (h := 92) hT rfl) ?_
    refine Eq.trans (x25a (r := (a0 + 1)) (n := 18180) (h := 93) hT rfl (kd_12_0 ha0) (ln_12_0 ha0) (by decide) rfl) ?_
    refine xig (fun hz5 => ?_)
    refine Eq.trans (x0 (h := 94) hT rfl) ?_
    exact x203c (h := 95) hT rfl (by decide)
  · refine Eq.trans (x1 (h := 7) hT rfl rfl (by decide)) ?_
    refine Eq.trans (x1 (h := 8) hT rfl rfl (by decide)) ?_
    refine Eq.trans (x31 (r := a0) (cl := 12) (as := [(0, a1)]) (st' := []) (h := 9) hT rfl sm_81 rfl ha0) ?_
    refine xbd (fun q6 => ?_)
    rw [rv_81]
    change zB P 238 10 [(2, ((a0 : Nat) : Int)), (0, a1), (0, a2), (0, q1.1), (3, 0)] [(0, q6.1)] q6.2 = _
    refine Eq.trans (x2 (ls' := [(2, ((a0 : Nat) : Int)), (0, a1), (0, a2), (0, q6.1), (3, 0)]) (h := 10) hT rfl (Nat.le_of_ble_eq_true rfl) rfl) ?_
    refine Eq.trans (x1 (h := 11) hT rfl rfl (by decide)) ?_
    refine Eq.trans (x0 (h := 12) hT rfl) ?_
    refine Eq.trans (x17_1 (h := 13) hT rfl) ?_
    refine xit (fun _ => ?_) (fun _ => ?_)
    · refine Eq.trans (x1 (h := 16) hT rfl rfl (by decide)) ?_
      refine Eq.trans (x21r (r := a0) (cl := 12) (o := 1) (h := 17) hT rfl ha0 (by decide) rfl) ?_
      refine Eq.trans (x0 (h := 18) hT rfl) ?_
      refine Eq.trans (x1 (h := 19) hT rfl rfl (by decide)) ?_
      refine Eq.trans (x5_0 (h := 20) hT rfl) ?_
      refine Eq.trans (x1 (h := 21) hT rfl rfl (by decide)) ?_
      refine Eq.trans (x0 (h := 22) hT rfl) ?_
      refine Eq.trans (x5_0 (h := 23) hT rfl) ?_
      refine Eq.trans (x25a (r := (a0 + 1)) (n := 18180) (h := 24) hT rfl (kd_12_0 ha0) (ln_12_0 ha0) (by decide) rfl) ?_
      refine xig (fun hz7 => ?_)
      refine Eq.trans (x0 (h := 25) hT rfl) ?_
      refine Eq.trans (x2 (ls' := [(2, ((a0 : Nat) : Int)), (0, a1), (0, a2), (0, q6.1), (0, 0)]) (h := 26) hT rfl (Nat.le_of_ble_eq_true rfl) rfl) ?_
      exact rfl
    · refine Eq.trans (x0 (h := 14) hT rfl) ?_
      exact x203c (h := 15) hT rfl (by decide)
set_option maxRecDepth 100000 in
theorem q_238_27 {P : zP} {d : zD P} {a0 : Nat} {a1 : Int} {a2 : Int} {a3 : Int} {a4 : Int} (ha0 : zkd a0 = 12) : zB P 238 27 [(2, ((a0 : Nat) : Int)), (0, a1), (0, a2), (0, a3), (0, a4)] [] d = (if wr 8 ≤ wr a4 then (if zin 0 18180 then (if zin (((((24 + (20 * (d.m ((a0 + 1)) (zix 0)))) + 2) + (6 * a1)) + a2)) 18180 then (if zin 0 18180 then (if zin (((24 + (20 * (((d.up ((a0 + 1)) (zix (((((24 + (20 * (d.m ((a0 + 1)) (zix 0)))) + 2) + (6 * a1)) + a2))) a3)).m ((a0 + 1)) (zix 0)))) + a1)) 18180 then some (1, (((d.up ((a0 + 1)) (zix (((((24 + (20 * (d.m ((a0 + 1)) (zix 0)))) + 2) + (6 * a1)) + a2))) a3)).up ((a0 + 1)) (zix (((24 + (20 * (((d.up ((a0 + 1)) (zix (((((24 + (20 * (d.m ((a0 + 1)) (zix 0)))) + 2) + (6 * a1)) + a2))) a3)).m ((a0 + 1)) (zix 0)))) + a1))) ((a2 + 1)))) else none) else none) else none) else none) else (if zin 0 8 then (if wr ((d.m ((a0 + 3)) (zix 0))) < wr a4 then (if zin (((504 + (8 * ((40 * a1) + a3))) + a4)) 18180 then zB P 238 27 [(2, ((a0 : Nat) : Int)), (0, a1), (0, a2), (0, a3), (0, (a4 + 1))] [] ((d.up ((a0 + 1)) (zix (((504 + (8 * ((40 * a1) + a3))) + a4))) 0)) else none) else (if zin a4 8 then (if zin (((504 + (8 * ((40 * a1) + a3))) + a4)) 18180 then zB P 238 27 [(2, ((a0 : Nat) : Int)), (0, a1), (0, a2), (0, a3), (0, (a4 + 1))] [] ((d.up ((a0 + 1)) (zix (((504 + (8 * ((40 * a1) + a3))) + a4))) ((d.m ((a0 + 3)) (zix a4))))) else none) else none)) else none)) := by
  have hT := cT_238
  refine Eq.trans (x1 (h := 27) hT rfl rfl (by decide)) ?_
  refine Eq.trans (x0 (h := 28) hT rfl) ?_
  refine Eq.trans (x17_3 (h := 29) hT rfl) ?_
  refine xit (fun _ => ?_) (fun _ => ?_)
  · refine Eq.trans (x1 (h := 58) hT rfl rfl (by decide)) ?_
    refine Eq.trans (x21r (r := a0) (cl := 12) (o := 1) (h := 59) hT rfl ha0 (by decide) rfl) ?_
    refine Eq.trans (x0 (h := 60) hT rfl) ?_
    refine Eq.trans (x0 (h := 61) hT rfl) ?_
    refine Eq.trans (x1 (h := 62) hT rfl rfl (by decide)) ?_
    refine Eq.trans (x21r (r := a0) (cl := 12) (o := 1) (h := 63) hT rfl ha0 (by decide) rfl) ?_
    refine Eq.trans (x0 (h := 64) hT rfl) ?_
    refine Eq.trans (x24 (r := (a0 + 1)) (n := 18180) (h := 65) hT rfl (Or.inl (kd_12_0 ha0)) (ln_12_0 ha0)) ?_
    refine xig (fun hz8 => ?_)
    refine Eq.trans (x5_2 (h := 66) hT rfl) ?_
    refine Eq.trans (x5_0 (h := 67) hT rfl) ?_
    refine Eq.trans (x0 (h := 68) hT rfl) ?_
    refine Eq.trans (x5_0 (h := 69) hT rfl) ?_
    refine Eq.trans (x0 (h := 70) hT rfl) ?_
    refine Eq.trans (x1 (h := 71) hT rfl rfl (by decide)) ?_
    refine Eq.trans (x5_2 (h := 72) hT rfl) ?_
    refine Eq.trans (x5_0 (h := 73) hT rfl) ?_
    refine Eq.trans (x1 (h := 74) hT rfl rfl (by decide)) ?_
    refine Eq.trans (x5_0 (h := 75) hT rfl) ?_
    refine Eq.trans (x1 (h := 76) hT rfl rfl (by decide)) ?_
    refine Eq.trans (x25a (r := (a0 + 1)) (n := 18180) (h := 77) hT rfl (kd_12_0 ha0) (ln_12_0 ha0) (by decide) rfl) ?_
    refine xig (fun hz9 => ?_)
    refine Eq.trans (x1 (h := 78) hT rfl rfl (by decide)) ?_
    refine Eq.trans (x21r (r := a0) (cl := 12) (o := 1) (h := 79) hT rfl ha0 (by decide) rfl) ?_
    refine Eq.trans (x0 (h := 80) hT rfl) ?_
    refine Eq.trans (x0 (h := 81) hT rfl) ?_
    refine Eq.trans (x1 (h := 82) hT rfl rfl (by decide)) ?_
    refine Eq.trans (x21r (r := a0) (cl := 12) (o := 1) (h := 83) hT rfl ha0 (by decide) rfl) ?_
    refine Eq.trans (x0 (h := 84) hT rfl) ?_
    refine Eq.trans (x24 (r := (a0 + 1)) (n := 18180) (h := 85) hT rfl (Or.inl (kd_12_0 ha0)) (ln_12_0 ha0)) ?_
    refine xig (fun hz10 => ?_)
    refine Eq.trans (x5_2 (h := 86) hT rfl) ?_
    refine Eq.trans (x5_0 (h := 87) hT rfl) ?_
    refine Eq.trans (x1 (h := 88) hT rfl rfl (by decide)) ?_
    refine Eq.trans (x5_0 (h := 89) hT rfl) ?_
    refine Eq.trans (x1 (h := 90) hT rfl rfl (by decide)) ?_
    refine Eq.trans (x0 (h := 91) hT rfl) ?_
    refine Eq.trans (x5_0 (h := 92) hT rfl) ?_
    refine Eq.trans (x25a (r := (a0 + 1)) (n := 18180) (h := 93) hT rfl (kd_12_0 ha0) (ln_12_0 ha0) (by decide) rfl) ?_
    refine xig (fun hz11 => ?_)
    refine Eq.trans (x0 (h := 94) hT rfl) ?_
    exact x203c (h := 95) hT rfl (by decide)
  · refine Eq.trans (x1 (h := 30) hT rfl rfl (by decide)) ?_
    refine Eq.trans (x21r (r := a0) (cl := 12) (o := 1) (h := 31) hT rfl ha0 (by decide) rfl) ?_
    refine Eq.trans (x0 (h := 32) hT rfl) ?_
    refine Eq.trans (x0 (h := 33) hT rfl) ?_
    refine Eq.trans (x0 (h := 34) hT rfl) ?_
    refine Eq.trans (x1 (h := 35) hT rfl rfl (by decide)) ?_
    refine Eq.trans (x5_2 (h := 36) hT rfl) ?_
    refine Eq.trans (x1 (h := 37) hT rfl rfl (by decide)) ?_
    refine Eq.trans (x5_0 (h := 38) hT rfl) ?_
    refine Eq.trans (x5_2 (h := 39) hT rfl) ?_
    refine Eq.trans (x5_0 (h := 40) hT rfl) ?_
    refine Eq.trans (x1 (h := 41) hT rfl rfl (by decide)) ?_
    refine Eq.trans (x5_0 (h := 42) hT rfl) ?_
    refine Eq.trans (x1 (h := 43) hT rfl rfl (by decide)) ?_
    refine Eq.trans (x1 (h := 44) hT rfl rfl (by decide)) ?_
    refine Eq.trans (x21r (r := a0) (cl := 12) (o := 3) (h := 45) hT rfl ha0 (by decide) rfl) ?_
    refine Eq.trans (x0 (h := 46) hT rfl) ?_
    refine Eq.trans (x24 (r := (a0 + 3)) (n := 8) (h := 47) hT rfl (Or.inl (kd_12_9 ha0)) (ln_12_9 ha0)) ?_
    refine xig (fun hz12 => ?_)
    refine Eq.trans (x17_4 (h := 48) hT rfl) ?_
    refine xit (fun _ => ?_) (fun _ => ?_)
    · refine Eq.trans (x0 (h := 54) hT rfl) ?_
      refine Eq.trans (x25a (r := (a0 + 1)) (n := 18180) (h := 55) hT rfl (kd_12_0 ha0) (ln_12_0 ha0) (by decide) rfl) ?_
      refine xig (fun hz13 => ?_)
      refine Eq.trans (x4 (ls' := [(2, ((a0 : Nat) : Int)), (0, a1), (0, a2), (0, a3), (0, (a4 + 1))]) (h := 56) hT rfl rfl rfl) ?_
      refine Eq.trans (x18 (h := 57) hT rfl) ?_
      exact rfl
    · refine Eq.trans (x1 (h := 49) hT rfl rfl (by decide)) ?_
      refine Eq.trans (x21r (r := a0) (cl := 12) (o := 3) (h := 50) hT rfl ha0 (by decide) rfl) ?_
      refine Eq.trans (x1 (h := 51) hT rfl rfl (by decide)) ?_
      refine Eq.trans (x24 (r := (a0 + 3)) (n := 8) (h := 52) hT rfl (Or.inl (kd_12_9 ha0)) (ln_12_9 ha0)) ?_
      refine xig (fun hz14 => ?_)
      refine Eq.trans (x18 (h := 53) hT rfl) ?_
      refine Eq.trans (x25a (r := (a0 + 1)) (n := 18180) (h := 55) hT rfl (kd_12_0 ha0) (ln_12_0 ha0) (by decide) rfl) ?_
      refine xig (fun hz15 => ?_)
      refine Eq.trans (x4 (ls' := [(2, ((a0 : Nat) : Int)), (0, a1), (0, a2), (0, a3), (0, (a4 + 1))]) (h := 56) hT rfl rfl rfl) ?_
      refine Eq.trans (x18 (h := 57) hT rfl) ?_
      exact rfl
/-! WordLinksModel.partsPlaces(III)V -/
set_option maxRecDepth 100000 in
theorem e_239 {P : zP} {d : zD P} {a0 : Nat} {a1 : Int} {a2 : Int} {a3 : Int} (ha0 : zkd a0 = 12) : MM P 239 [(2, ((a0 : Nat) : Int)), (0, a1), (0, a2), (0, a3)] d = zB P 239 2 [(2, ((a0 : Nat) : Int)), (0, a1), (0, a2), (0, a3), (0, 0)] [] d := by
  have hT := cT_239
  refine Eq.trans (MM_def sm_239 (Nat.le_of_ble_eq_true rfl)) ?_
  change zB P 239 0 [(2, ((a0 : Nat) : Int)), (0, a1), (0, a2), (0, a3), (3, 0)] [] d = _
  refine Eq.trans (x0 (h := 0) hT rfl) ?_
  refine Eq.trans (x2 (ls' := [(2, ((a0 : Nat) : Int)), (0, a1), (0, a2), (0, a3), (0, 0)]) (h := 1) hT rfl (Nat.le_of_ble_eq_true rfl) rfl) ?_
  exact rfl
set_option maxRecDepth 100000 in
theorem q_239_2 {P : zP} {d : zD P} {a0 : Nat} {a1 : Int} {a2 : Int} {a3 : Int} {a4 : Int} (ha0 : zkd a0 = 12) : zB P 239 2 [(2, ((a0 : Nat) : Int)), (0, a1), (0, a2), (0, a3), (0, a4)] [] d = ((MM P 60 [(2, ((a0 : Nat) : Int)), (0, a2), (0, a1)] d).bind fun q1 => (if wr q1.1 ≤ wr a4 then ((MM P 60 [(2, ((a0 : Nat) : Int)), (0, a2), (0, a1)] q1.2).bind fun q2 => ((MM P 67 [(2, ((a0 : Nat) : Int)), (0, q2.1)] q2.2).bind fun q3 => some (0, q3.2))) else ((MM P 212 [(2, ((a0 : Nat) : Int)), (0, a1), (0, a2), (0, a4), (0, a3)] q1.2).bind fun q4 => (if zin a4 40 then zB P 239 2 [(2, ((a0 : Nat) : Int)), (0, a1), (0, a2), (0, a3), (0, (a4 + 1))] [] ((q4.2.up ((a0 + 11)) (zix a4) q4.1)) else none)))) := by
  have hT := cT_239
  refine Eq.trans (x1 (h := 2) hT rfl rfl (by decide)) ?_
  refine Eq.trans (x1 (h := 3) hT rfl rfl (by decide)) ?_
  refine Eq.trans (x1 (h := 4) hT rfl rfl (by decide)) ?_
  refine Eq.trans (x1 (h := 5) hT rfl rfl (by decide)) ?_
  refine Eq.trans (x31 (r := a0) (cl := 12) (as := [(0, a2), (0, a1)]) (st' := [(0, a4)]) (h := 6) hT rfl sm_60 rfl ha0) ?_
  refine xbd (fun q1 => ?_)
  rw [rv_60]
  change zB P 239 7 [(2, ((a0 : Nat) : Int)), (0, a1), (0, a2), (0, a3), (0, a4)] [(0, q1.1), (0, a4)] q1.2 = _
  refine Eq.trans (x17_3 (h := 7) hT rfl) ?_
  refine xit (fun _ => ?_) (fun _ => ?_)
  · refine Eq.trans (x1 (h := 20) hT rfl rfl (by decide)) ?_
    refine Eq.trans (x1 (h := 21) hT rfl rfl (by decide)) ?_
    refine Eq.trans (x1 (h := 22) hT rfl rfl (by decide)) ?_
    refine Eq.trans (x1 (h := 23) hT rfl rfl (by decide)) ?_
    refine Eq.trans (x31 (r := a0) (cl := 12) (as := [(0, a2), (0, a1)]) (st' := [(2, ((a0 : Nat) : Int))]) (h := 24) hT rfl sm_60 rfl ha0) ?_
    refine xbd (fun q2 => ?_)
    rw [rv_60]
    change zB P 239 25 [(2, ((a0 : Nat) : Int)), (0, a1), (0, a2), (0, a3), (0, a4)] [(0, q2.1), (2, ((a0 : Nat) : Int))] q2.2 = _
    refine Eq.trans (x31 (r := a0) (cl := 12) (as := [(0, q2.1)]) (st' := []) (h := 25) hT rfl sm_67 rfl ha0) ?_
    refine xbd (fun q3 => ?_)
    rw [rv_67]
    change zB P 239 26 [(2, ((a0 : Nat) : Int)), (0, a1), (0, a2), (0, a3), (0, a4)] [] q3.2 = _
    exact x20 (h := 26) hT rfl
  · refine Eq.trans (x1 (h := 8) hT rfl rfl (by decide)) ?_
    refine Eq.trans (x21r (r := a0) (cl := 12) (o := 11) (h := 9) hT rfl ha0 (by decide) rfl) ?_
    refine Eq.trans (x1 (h := 10) hT rfl rfl (by decide)) ?_
    refine Eq.trans (x1 (h := 11) hT rfl rfl (by decide)) ?_
    refine Eq.trans (x1 (h := 12) hT rfl rfl (by decide)) ?_
    refine Eq.trans (x1 (h := 13) hT rfl rfl (by decide)) ?_
    refine Eq.trans (x1 (h := 14) hT rfl rfl (by decide)) ?_
    refine Eq.trans (x1 (h := 15) hT rfl rfl (by decide)) ?_
    refine Eq.trans (x31 (r := a0) (cl := 12) (as := [(0, a1), (0, a2), (0, a4), (0, a3)]) (st' := [(0, a4), (2, (((a0 + 11) : Nat) : Int))]) (h := 16) hT rfl sm_212 rfl ha0) ?_
    refine xbd (fun q4 => ?_)
    rw [rv_212]
    change zB P 239 17 [(2, ((a0 : Nat) : Int)), (0, a1), (0, a2), (0, a3), (0, a4)] [(1, q4.1), (0, a4), (2, (((a0 + 11) : Nat) : Int))] q4.2 = _
    refine Eq.trans (x25a (r := (a0 + 11)) (n := 40) (h := 17) hT rfl (kd_12_18 ha0) (ln_12_18 ha0) (by decide) rfl) ?_
    refine xig (fun hz5 => ?_)
    refine Eq.trans (x4 (ls' := [(2, ((a0 : Nat) : Int)), (0, a1), (0, a2), (0, a3), (0, (a4 + 1))]) (h := 18) hT rfl rfl rfl) ?_
    refine Eq.trans (x18 (h := 19) hT rfl) ?_
    exact rfl
