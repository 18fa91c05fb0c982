/-! The methods from 300 on, block by block. -/
/-! WordLinks.linked(II)I -/
set_option maxRecDepth 100000 in
theorem e_300 {P : zP} {d : zD P} {a0 : Nat} {a1 : Int} {a2 : Int} (ha0 : zkd a0 = 11) : MM P 300 [(2, ((a0 : Nat) : Int)), (0, a1), (0, a2)] d = ((MM P 43 [(0, a1)] d).bind fun q1 => (if wr q1.1 = 0 then some ((-2), q1.2) else (if wr a2 = wr ((-1)) then (if wr a2 ≠ wr ((-1)) then ((MM P 246 [(2, (((a0 + 105) : Nat) : Int)), (2, (((a0 + 3) : Nat) : Int)), (0, a1), (0, a2)] q1.2).bind fun q2 => ((MM P 172 [(2, (((a0 + 105) : Nat) : Int))] q2.2).bind fun q3 => some (q3.1, q3.2))) else ((MM P 273 [(2, ((a0 : Nat) : Int)), (0, a1)] q1.2).bind fun q4 => some (q4.1, q4.2))) else ((MM P 44 [(2, ((a0 : Nat) : Int)), (0, a2)] q1.2).bind fun q5 => (if wr q5.1 ≠ 0 then (if wr a2 ≠ wr ((-1)) then ((MM P 246 [(2, (((a0 + 105) : Nat) : Int)), (2, (((a0 + 3) : Nat) : Int)), (0, a1), (0, a2)] q5.2).bind fun q6 => ((MM P 172 [(2, (((a0 + 105) : Nat) : Int))] q6.2).bind fun q7 => some (q7.1, q7.2))) else ((MM P 273 [(2, ((a0 : Nat) : Int)), (0, a1)] q5.2).bind fun q8 => some (q8.1, q8.2))) else some ((-2), q5.2)))))) := by
  have hT := cT_300
  refine Eq.trans (MM_def sm_300 (Nat.le_of_ble_eq_true rfl)) ?_
  change zB P 300 0 [(2, ((a0 : Nat) : Int)), (0, a1), (0, a2)] [] d = _
  refine Eq.trans (x1 (h := 0) hT rfl rfl (by decide)) ?_
  refine Eq.trans (x34 (as := [(0, a1)]) (st' := []) (h := 1) hT rfl sm_43 rfl) ?_
  refine xbd (fun q1 => ?_)
  rw [rv_43]
  change zB P 300 2 [(2, ((a0 : Nat) : Int)), (0, a1), (0, a2)] [(0, q1.1)] q1.2 = _
  refine Eq.trans (x16_0 (h := 2) hT rfl) ?_
  refine xit (fun _ => ?_) (fun _ => ?_)
  · refine Eq.trans (x0 (h := 10) hT rfl) ?_
    exact x201 (h := 11) hT rfl
  · refine Eq.trans (x1 (h := 3) hT rfl rfl (by decide)) ?_
    refine Eq.trans (x0 (h := 4) hT rfl) ?_
    refine Eq.trans (x17_0 (h := 5) hT rfl) ?_
    refine xit (fun _ => ?_) (fun _ => ?_)
    · refine Eq.trans (x1 (h := 12) hT rfl rfl (by decide)) ?_
      refine Eq.trans (x0 (h := 13) hT rfl) ?_
      refine Eq.trans (x17_1 (h := 14) hT rfl) ?_
      refine xit (fun _ => ?_) (fun _ => ?_)
      · refine Eq.trans (x1 (h := 19) hT rfl rfl (by decide)) ?_
        refine Eq.trans (x21r (r := a0) (cl := 11) (o := 105) (h := 20) hT rfl ha0 (by decide) rfl) ?_
        refine Eq.trans (x1 (h := 21) hT rfl rfl (by decide)) ?_
        refine Eq.trans (x21r (r := a0) (cl := 11) (o := 3) (h := 22) hT rfl ha0 (by decide) rfl) ?_
        refine Eq.trans (x1 (h := 23) hT rfl rfl (by decide)) ?_
        refine Eq.trans (x1 (h := 24) hT rfl rfl (by decide)) ?_
        refine Eq.trans (x31 (r := (a0 + 105)) (cl := 1) (as := [(2, (((a0 + 3) : Nat) : Int)), (0, a1), (0, a2)]) (st' := []) (h := 25) hT rfl sm_246 rfl (kd_11_8 ha0)) ?_
        refine xbd (fun q2 => ?_)
        rw [rv_246]
        change zB P 300 26 [(2, ((a0 : Nat) : Int)), (0, a1), (0, a2)] [] q2.2 = _
        refine Eq.trans (x1 (h := 26) hT rfl rfl (by decide)) ?_
        refine Eq.trans (x21r (r := a0) (cl := 11) (o := 105) (h := 27) hT rfl ha0 (by decide) rfl) ?_
        refine Eq.trans (x31 (r := (a0 + 105)) (cl := 1) (as := []) (st' := []) (h := 28) hT rfl sm_172 rfl (kd_11_8 ha0)) ?_
        refine xbd (fun q3 => ?_)
        rw [rv_172]
        change zB P 300 29 [(2, ((a0 : Nat) : Int)), (0, a1), (0, a2)] [(0, q3.1)] q3.2 = _
        exact x201 (h := 29) hT rfl
      · refine Eq.trans (x1 (h := 15) hT rfl rfl (by decide)) ?_
        refine Eq.trans (x1 (h := 16) hT rfl rfl (by decide)) ?_
        refine Eq.trans (x31 (r := a0) (cl := 11) (as := [(0, a1)]) (st' := []) (h := 17) hT rfl sm_273 rfl ha0) ?_
        refine xbd (fun q4 => ?_)
        rw [rv_273]
        change zB P 300 18 [(2, ((a0 : Nat) : Int)), (0, a1), (0, a2)] [(0, q4.1)] q4.2 = _
        exact x201 (h := 18) hT rfl
    · refine Eq.trans (x1 (h := 6) hT rfl rfl (by decide)) ?_
      refine Eq.trans (x1 (h := 7) hT rfl rfl (by decide)) ?_
      refine Eq.trans (x31 (r := a0) (cl := 11) (as := [(0, a2)]) (st' := []) (h := 8) hT rfl sm_44 rfl ha0) ?_
      refine xbd (fun q5 => ?_)
      rw [rv_44]
      change zB P 300 9 [(2, ((a0 : Nat) : Int)), (0, a1), (0, a2)] [(0, q5.1)] q5.2 = _
      refine Eq.trans (x16_1 (h := 9) hT rfl) ?_
      refine xit (fun _ => ?_) (fun _ => ?_)
      · refine Eq.trans (x1 (h := 12) hT rfl rfl (by decide)) ?_
        refine Eq.trans (x0 (h := 13) hT rfl) ?_
        refine Eq.trans (x17_1 (h := 14) hT rfl) ?_
        refine xit (fun _ => ?_) (fun _ => ?_)
        · refine Eq.trans (x1 (h := 19) hT rfl rfl (by decide)) ?_
          refine Eq.trans (x21r (r := a0) (cl := 11) (o := 105) (h := 20) hT rfl ha0 (by decide) rfl) ?_
          refine Eq.trans (x1 (h := 21) hT rfl rfl (by decide)) ?_
          refine Eq.trans (x21r (r := a0) (cl := 11) (o := 3) (h := 22) hT rfl ha0 (by decide) rfl) ?_
          refine Eq.trans (x1 (h := 23) hT rfl rfl (by decide)) ?_
          refine Eq.trans (x1 (h := 24) hT rfl rfl (by decide)) ?_
          refine Eq.trans (x31 (r := (a0 + 105)) (cl := 1) (as := [(2, (((a0 + 3) : Nat) : Int)), (0, a1), (0, a2)]) (st' := []) (h := 25) hT rfl sm_246 rfl (kd_11_8 ha0)) ?_
          refine xbd (fun q6 => ?_)
          rw [rv_246]
          change zB P 300 26 [(2, ((a0 : Nat) : Int)), (0, a1), (0, a2)] [] q6.2 = _
          refine Eq.trans (x1 (h := 26) hT rfl rfl (by decide)) ?_
          refine Eq.trans (x21r (r := a0) (cl := 11) (o := 105) (h := 27) hT rfl ha0 (by decide) rfl) ?_
          refine Eq.trans (x31 (r := (a0 + 105)) (cl := 1) (as := []) (st' := []) (h := 28) hT rfl sm_172 rfl (kd_11_8 ha0)) ?_
          refine xbd (fun q7 => ?_)
          rw [rv_172]
          change zB P 300 29 [(2, ((a0 : Nat) : Int)), (0, a1), (0, a2)] [(0, q7.1)] q7.2 = _
          exact x201 (h := 29) hT rfl
        · refine Eq.trans (x1 (h := 15) hT rfl rfl (by decide)) ?_
          refine Eq.trans (x1 (h := 16) hT rfl rfl (by decide)) ?_
          refine Eq.trans (x31 (r := a0) (cl := 11) (as := [(0, a1)]) (st' := []) (h := 17) hT rfl sm_273 rfl ha0) ?_
          refine xbd (fun q8 => ?_)
          rw [rv_273]
          change zB P 300 18 [(2, ((a0 : Nat) : Int)), (0, a1), (0, a2)] [(0, q8.1)] q8.2 = _
          exact x201 (h := 18) hT rfl
      · refine Eq.trans (x0 (h := 10) hT rfl) ?_
        exact x201 (h := 11) hT rfl
/-! WordLinks.over(III)I -/
set_option maxRecDepth 100000 in
theorem e_301 {P : zP} {d : zD P} {a0 : Nat} {a1 : Int} {a2 : Int} {a3 : Int} (ha0 : zkd a0 = 11) : MM P 301 [(2, ((a0 : Nat) : Int)), (0, a1), (0, a2), (0, a3)] d = (if wr a3 < wr 10 then zB P 301 8 [(2, ((a0 : Nat) : Int)), (0, a1), (0, a2), (0, a3), (3, 0), (3, 0), (3, 0)] [] d else (if wr 18 ≤ wr a3 then zB P 301 8 [(2, ((a0 : Nat) : Int)), (0, a1), (0, a2), (0, a3), (3, 0), (3, 0), (3, 0)] [] d else (if wr a3 < wr 100 then zB P 301 18 [(2, ((a0 : Nat) : Int)), (0, a1), (0, a2), (0, a3), (0, 1), (3, 0), (3, 0)] [] d else (if wr 124 ≤ wr a3 then zB P 301 18 [(2, ((a0 : Nat) : Int)), (0, a1), (0, a2), (0, a3), (0, 1), (3, 0), (3, 0)] [] d else (if wr 1 ≠ 0 then zB P 301 31 [(2, ((a0 : Nat) : Int)), (0, a1), (0, a2), (0, a3), (0, 1), (0, 1), (3, 0)] [] d else (if wr 1 ≠ 0 then zB P 301 31 [(2, ((a0 : Nat) : Int)), (0, a1), (0, a2), (0, a3), (0, 1), (0, 1), (3, 0)] [] d else (if wr a3 < 0 then zB P 301 29 [(2, ((a0 : Nat) : Int)), (0, a1), (0, a2), (0, a3), (0, 1), (0, 1), (3, 0)] [] d else (if wr a3 ≤ wr 2 then zB P 301 31 [(2, ((a0 : Nat) : Int)), (0, a1), (0, a2), (0, a3), (0, 1), (0, 1), (3, 0)] [] d else zB P 301 29 [(2, ((a0 : Nat) : Int)), (0, a1), (0, a2), (0, a3), (0, 1), (0, 1), (3, 0)] [] d)))))))) := by
  have hT := cT_301
  refine Eq.trans (MM_def sm_301 (Nat.le_of_ble_eq_true rfl)) ?_
  change zB P 301 0 [(2, ((a0 : Nat) : Int)), (0, a1), (0, a2), (0, a3), (3, 0), (3, 0), (3, 0)] [] d = _
  refine Eq.trans (x1 (h := 0) hT rfl rfl (by decide)) ?_
  refine Eq.trans (x0 (h := 1) hT rfl) ?_
  refine Eq.trans (x17_2 (h := 2) hT rfl) ?_
  refine xit (fun _ => ?_) (fun _ => ?_)
  · exact rfl
  · refine Eq.trans (x1 (h := 3) hT rfl rfl (by decide)) ?_
    refine Eq.trans (x0 (h := 4) hT rfl) ?_
    refine Eq.trans (x17_3 (h := 5) hT rfl) ?_
    refine xit (fun _ => ?_) (fun _ => ?_)
    · exact rfl
    · refine Eq.trans (x0 (h := 6) hT rfl) ?_
      refine Eq.trans (x18 (h := 7) hT rfl) ?_
      refine Eq.trans (x2 (ls' := [(2, ((a0 : Nat) : Int)), (0, a1), (0, a2), (0, a3), (0, 1), (3, 0), (3, 0)]) (h := 9) hT rfl (Nat.le_of_ble_eq_true rfl) rfl) ?_
      refine Eq.trans (x1 (h := 10) hT rfl rfl (by decide)) ?_
      refine Eq.trans (x0 (h := 11) hT rfl) ?_
      refine Eq.trans (x17_2 (h := 12) hT rfl) ?_
      refine xit (fun _ => ?_) (fun _ => ?_)
      · exact rfl
      · refine Eq.trans (x1 (h := 13) hT rfl rfl (by decide)) ?_
        refine Eq.trans (x0 (h := 14) hT rfl) ?_
        refine Eq.trans (x17_3 (h := 15) hT rfl) ?_
        refine xit (fun _ => ?_) (fun _ => ?_)
        · exact rfl
        · refine Eq.trans (x0 (h := 16) hT rfl) ?_
          refine Eq.trans (x18 (h := 17) hT rfl) ?_
          refine Eq.trans (x2 (ls' := [(2, ((a0 : Nat) : Int)), (0, a1), (0, a2), (0, a3), (0, 1), (0, 1), (3, 0)]) (h := 19) hT rfl (Nat.le_of_ble_eq_true rfl) rfl) ?_
          refine Eq.trans (x1 (h := 20) hT rfl rfl (by decide)) ?_
          refine Eq.trans (x16_1 (h := 21) hT rfl) ?_
          refine xit (fun _ => ?_) (fun _ => ?_)
          · exact rfl
          · refine Eq.trans (x1 (h := 22) hT rfl rfl (by decide)) ?_
            refine Eq.trans (x16_1 (h := 23) hT rfl) ?_
            refine xit (fun _ => ?_) (fun _ => ?_)
            · exact rfl
            · refine Eq.trans (x1 (h := 24) hT rfl rfl (by decide)) ?_
              refine Eq.trans (x16_2 (h := 25) hT rfl) ?_
              refine xit (fun _ => ?_) (fun _ => ?_)
              · exact rfl
              · refine Eq.trans (x1 (h := 26) hT rfl rfl (by decide)) ?_
                refine Eq.trans (x0 (h := 27) hT rfl) ?_
                refine Eq.trans (x17_5 (h := 28) hT rfl) ?_
                refine xit (fun _ => ?_) (fun _ => ?_)
                · exact rfl
                · exact rfl
set_option maxRecDepth 100000 in
theorem q_301_8 {P : zP} {d : zD P} {a0 : Nat} {a1 : Int} {a2 : Int} {a3 : Int} {g4 : zV} {g5 : zV} {g6 : zV} (ha0 : zkd a0 = 11) : zB P 301 8 [(2, ((a0 : Nat) : Int)), (0, a1), (0, a2), (0, a3), g4, g5, g6] [] d = (if wr a3 < wr 100 then zB P 301 18 [(2, ((a0 : Nat) : Int)), (0, a1), (0, a2), (0, a3), (0, 0), g5, g6] [] d else (if wr 124 ≤ wr a3 then zB P 301 18 [(2, ((a0 : Nat) : Int)), (0, a1), (0, a2), (0, a3), (0, 0), g5, g6] [] d else (if wr 0 ≠ 0 then zB P 301 31 [(2, ((a0 : Nat) : Int)), (0, a1), (0, a2), (0, a3), (0, 0), (0, 1), g6] [] d else (if wr 1 ≠ 0 then zB P 301 31 [(2, ((a0 : Nat) : Int)), (0, a1), (0, a2), (0, a3), (0, 0), (0, 1), g6] [] d else (if wr a3 < 0 then zB P 301 29 [(2, ((a0 : Nat) : Int)), (0, a1), (0, a2), (0, a3), (0, 0), (0, 1), g6] [] d else (if wr a3 ≤ wr 2 then zB P 301 31 [(2, ((a0 : Nat) : Int)), (0, a1), (0, a2), (0, a3), (0, 0), (0, 1), g6] [] d else zB P 301 29 [(2, ((a0 : Nat) : Int)), (0, a1), (0, a2), (0, a3), (0, 0), (0, 1), g6] [] d)))))) := by
  have hT := cT_301
  refine Eq.trans (x0 (h := 8) hT rfl) ?_
  refine Eq.trans (x2 (ls' := [(2, ((a0 : Nat) : Int)), (0, a1), (0, a2), (0, a3), (0, 0), g5, g6]) (h := 9) hT rfl (Nat.le_of_ble_eq_true rfl) rfl) ?_
  refine Eq.trans (x1 (h := 10) hT rfl rfl (by decide)) ?_
  refine Eq.trans (x0 (h := 11) hT rfl) ?_
  refine Eq.trans (x17_2 (h := 12) hT rfl) ?_
  refine xit (fun _ => ?_) (fun _ => ?_)
  · exact rfl
  · refine Eq.trans (x1 (h := 13) hT rfl rfl (by decide)) ?_
    refine Eq.trans (x0 (h := 14) hT rfl) ?_
    refine Eq.trans (x17_3 (h := 15) hT rfl) ?_
    refine xit (fun _ => ?_) (fun _ => ?_)
    · exact rfl
    · refine Eq.trans (x0 (h := 16) hT rfl) ?_
      refine Eq.trans (x18 (h := 17) hT rfl) ?_
      refine Eq.trans (x2 (ls' := [(2, ((a0 : Nat) : Int)), (0, a1), (0, a2), (0, a3), (0, 0), (0, 1), g6]) (h := 19) hT rfl (Nat.le_of_ble_eq_true rfl) rfl) ?_
      refine Eq.trans (x1 (h := 20) hT rfl rfl (by decide)) ?_
      refine Eq.trans (x16_1 (h := 21) hT rfl) ?_
      refine xit (fun _ => ?_) (fun _ => ?_)
      · exact rfl
      · refine Eq.trans (x1 (h := 22) hT rfl rfl (by decide)) ?_
        refine Eq.trans (x16_1 (h := 23) hT rfl) ?_
        refine xit (fun _ => ?_) (fun _ => ?_)
        · exact rfl
        · refine Eq.trans (x1 (h := 24) hT rfl rfl (by decide)) ?_
          refine Eq.trans (x16_2 (h := 25) hT rfl) ?_
          refine xit (fun _ => ?_) (fun _ => ?_)
          · exact rfl
          · refine Eq.trans (x1 (h := 26) hT rfl rfl (by decide)) ?_
            refine Eq.trans (x0 (h := 27) hT rfl) ?_
            refine Eq.trans (x17_5 (h := 28) hT rfl) ?_
            refine xit (fun _ => ?_) (fun _ => ?_)
            · exact rfl
            · exact rfl
set_option maxRecDepth 100000 in
theorem q_301_18 {P : zP} {d : zD P} {a0 : Nat} {a1 : Int} {a2 : Int} {a3 : Int} {a4 : Int} {g5 : zV} {g6 : zV} (ha0 : zkd a0 = 11) : zB P 301 18 [(2, ((a0 : Nat) : Int)), (0, a1), (0, a2), (0, a3), (0, a4), g5, g6] [] d = (if wr a4 ≠ 0 then zB P 301 31 [(2, ((a0 : Nat) : Int)), (0, a1), (0, a2), (0, a3), (0, a4), (0, 0), g6] [] d else (if wr 0 ≠ 0 then zB P 301 31 [(2, ((a0 : Nat) : Int)), (0, a1), (0, a2), (0, a3), (0, a4), (0, 0), g6] [] d else (if wr a3 < 0 then zB P 301 29 [(2, ((a0 : Nat) : Int)), (0, a1), (0, a2), (0, a3), (0, a4), (0, 0), g6] [] d else (if wr a3 ≤ wr 2 then zB P 301 31 [(2, ((a0 : Nat) : Int)), (0, a1), (0, a2), (0, a3), (0, a4), (0, 0), g6] [] d else zB P 301 29 [(2, ((a0 : Nat) : Int)), (0, a1), (0, a2), (0, a3), (0, a4), (0, 0), g6] [] d)))) := by
  have hT := cT_301
  refine Eq.trans (x0 (h := 18) hT rfl) ?_
  refine Eq.trans (x2 (ls' := [(2, ((a0 : Nat) : Int)), (0, a1), (0, a2), (0, a3), (0, a4), (0, 0), g6]) (h := 19) hT rfl (Nat.le_of_ble_eq_true rfl) rfl) ?_
  refine Eq.trans (x1 (h := 20) hT rfl rfl (by decide)) ?_
  refine Eq.trans (x16_1 (h := 21) hT rfl) ?_
  refine xit (fun _ => ?_) (fun _ => ?_)
  · exact rfl
  · refine Eq.trans (x1 (h := 22) hT rfl rfl (by decide)) ?_
    refine Eq.trans (x16_1 (h := 23) hT rfl) ?_
    refine xit (fun _ => ?_) (fun _ => ?_)
    · exact rfl
    · refine Eq.trans (x1 (h := 24) hT rfl rfl (by decide)) ?_
      refine Eq.trans (x16_2 (h := 25) hT rfl) ?_
      refine xit (fun _ => ?_) (fun _ => ?_)
      · exact rfl
      · refine Eq.trans (x1 (h := 26) hT rfl rfl (by decide)) ?_
        refine Eq.trans (x0 (h := 27) hT rfl) ?_
        refine Eq.trans (x17_5 (h := 28) hT rfl) ?_
        refine xit (fun _ => ?_) (fun _ => ?_)
        · exact rfl
        · exact rfl
set_option maxRecDepth 100000 in
theorem q_301_31 {P : zP} {d : zD P} {a0 : Nat} {a1 : Int} {a2 : Int} {a3 : Int} {a4 : Int} {a5 : Int} {g6 : zV} (ha0 : zkd a0 = 11) : zB P 301 31 [(2, ((a0 : Nat) : Int)), (0, a1), (0, a2), (0, a3), (0, a4), (0, a5), g6] [] d = ((MM P 43 [(0, a1)] d).bind fun q1 => (if wr q1.1 = 0 then zB P 301 45 [(2, ((a0 : Nat) : Int)), (0, a1), (0, a2), (0, a3), (0, a4), (0, a5), g6] [] q1.2 else (if wr a2 < wr 1 then zB P 301 45 [(2, ((a0 : Nat) : Int)), (0, a1), (0, a2), (0, a3), (0, a4), (0, a5), g6] [] q1.2 else (if wr 80 < wr a2 then zB P 301 45 [(2, ((a0 : Nat) : Int)), (0, a1), (0, a2), (0, a3), (0, a4), (0, a5), g6] [] q1.2 else ((MM P 41 [(2, (((a0 + 1) : Nat) : Int)), (0, a2)] q1.2).bind fun q2 => (if wr q2.1 ≠ 0 then ((MM P 253 [(2, (((a0 + 1) : Nat) : Int)), (0, a2), (2, (((a0 + 87) : Nat) : Int))] q2.2).bind fun q3 => ((MM P 36 [(2, (((a0 + 1) : Nat) : Int))] q3.2).bind fun q4 => (if wr q3.1 = 0 then zB P 301 68 [(2, ((a0 : Nat) : Int)), (0, a1), (0, a2), (0, a3), (0, a4), (0, a5), (0, q3.1)] [] q4.2 else ((MM P 176 [(2, (((a0 + 115) : Nat) : Int)), (2, ((((a0 + 3) + 1) : Nat) : Int)), (2, (((a0 + 87) : Nat) : Int))] q4.2).bind fun q5 => (if wr q5.1 ≠ 0 then ((MM P 269 [(2, (((a0 + 112) : Nat) : Int)), (2, (((a0 + 3) : Nat) : Int)), (2, (((a0 + 105) : Nat) : Int)), (0, a1)] q5.2).bind fun q6 => ((MM P 248 [(2, (((a0 + 115) : Nat) : Int)), (2, (((a0 + 112) : Nat) : Int))] q6.2).bind fun q7 => (if wr a4 = 0 then (if wr a5 = 0 then (if wr a3 = 0 then ((MM P 23 [(2, (((a0 + 115) : Nat) : Int))] q7.2).bind fun q8 => some (q8.1, q8.2)) else (if wr a3 = 1 then some ((q7.2.m ((a0 + 115)) 7), q7.2) else some ((q7.2.m ((a0 + 115)) 8), q7.2))) else (if wr ((q7.2.m ((a0 + 115)) 8)) ≤ wr ((a3 - 100)) then some ((-4), q7.2) else (if zin ((a3 - 100)) 24 then some ((q7.2.m (((a0 + 115) + 6)) (zix ((a3 - 100)))), q7.2) else none))) else (if wr ((q7.2.m ((a0 + 115)) 7)) ≤ wr ((a3 - 10)) then some ((-4), q7.2) else (if zin ((a3 - 10)) 8 then some ((q7.2.m (((a0 + 115) + 5)) (zix ((a3 - 10)))), q7.2) else none))))) else zB P 301 68 [(2, ((a0 : Nat) : Int)), (0, a1), (0, a2), (0, a3), (0, a4), (0, a5), (0, q3.1)] [] q5.2))))) else zB P 301 45 [(2, ((a0 : Nat) : Int)), (0, a1), (0, a2), (0, a3), (0, a4), (0, a5), g6] [] q2.2)))))) := by
  have hT := cT_301
  refine Eq.trans (x1 (h := 31) hT rfl rfl (by decide)) ?_
  refine Eq.trans (x34 (as := [(0, a1)]) (st' := []) (h := 32) hT rfl sm_43 rfl) ?_
  refine xbd (fun q1 => ?_)
  rw [rv_43]
  change zB P 301 33 [(2, ((a0 : Nat) : Int)), (0, a1), (0, a2), (0, a3), (0, a4), (0, a5), g6] [(0, q1.1)] q1.2 = _
  refine Eq.trans (x16_0 (h := 33) hT rfl) ?_
  refine xit (fun _ => ?_) (fun _ => ?_)
  · exact rfl
  · refine Eq.trans (x1 (h := 34) hT rfl rfl (by decide)) ?_
    refine Eq.trans (x0 (h := 35) hT rfl) ?_
    refine Eq.trans (x17_2 (h := 36) hT rfl) ?_
    refine xit (fun _ => ?_) (fun _ => ?_)
    · exact rfl
    · refine Eq.trans (x1 (h := 37) hT rfl rfl (by decide)) ?_
      refine Eq.trans (x0 (h := 38) hT rfl) ?_
      refine Eq.trans (x17_4 (h := 39) hT rfl) ?_
      refine xit (fun _ => ?_) (fun _ => ?_)
      · exact rfl
      · refine Eq.trans (x1 (h := 40) hT rfl rfl (by decide)) ?_
        refine Eq.trans (x21r (r := a0) (cl := 11) (o := 1) (h := 41) hT rfl ha0 (by decide) rfl) ?_
        refine Eq.trans (x1 (h := 42) hT rfl rfl (by decide)) ?_
        refine Eq.trans (x31 (r := (a0 + 1)) (cl := 10) (as := [(0, a2)]) (st' := []) (h := 43) hT rfl sm_41 rfl (kd_11_0 ha0)) ?_
        refine xbd (fun q2 => ?_)
        rw [rv_41]
        change zB P 301 44 [(2, ((a0 : Nat) : Int)), (0, a1), (0, a2), (0, a3), (0, a4), (0, a5), g6] [(0, q2.1)] q2.2 = _
        refine Eq.trans (x16_1 (h := 44) hT rfl) ?_
        refine xit (fun _ => ?_) (fun _ => ?_)
        · refine Eq.trans (x1 (h := 47) hT rfl rfl (by decide)) ?_
          refine Eq.trans (x21r (r := a0) (cl := 11) (o := 1) (h := 48) hT rfl ha0 (by decide) rfl) ?_
          refine Eq.trans (x1 (h := 49) hT rfl rfl (by decide)) ?_
          refine Eq.trans (x1 (h := 50) hT rfl rfl (by decide)) ?_
          refine Eq.trans (x21r (r := a0) (cl := 11) (o := 87) (h := 51) hT rfl ha0 (by decide) rfl) ?_
          refine Eq.trans (x31 (r := (a0 + 1)) (cl := 10) (as := [(0, a2), (2, (((a0 + 87) : Nat) : Int))]) (st' := []) (h := 52) hT rfl sm_253 rfl (kd_11_0 ha0)) ?_
          refine xbd (fun q3 => ?_)
          rw [rv_253]
          change zB P 301 53 [(2, ((a0 : Nat) : Int)), (0, a1), (0, a2), (0, a3), (0, a4), (0, a5), g6] [(0, q3.1)] q3.2 = _
          refine Eq.trans (x2 (ls' := [(2, ((a0 : Nat) : Int)), (0, a1), (0, a2), (0, a3), (0, a4), (0, a5), (0, q3.1)]) (h := 53) hT rfl (Nat.le_of_ble_eq_true rfl) rfl) ?_
          refine Eq.trans (x1 (h := 54) hT rfl rfl (by decide)) ?_
          refine Eq.trans (x21r (r := a0) (cl := 11) (o := 1) (h := 55) hT rfl ha0 (by decide) rfl) ?_
          refine Eq.trans (x31 (r := (a0 + 1)) (cl := 10) (as := []) (st' := []) (h := 56) hT rfl sm_36 rfl (kd_11_0 ha0)) ?_
          refine xbd (fun q4 => ?_)
          rw [rv_36]
          change zB P 301 57 [(2, ((a0 : Nat) : Int)), (0, a1), (0, a2), (0, a3), (0, a4), (0, a5), (0, q3.1)] [] q4.2 = _
          refine Eq.trans (x1 (h := 57) hT rfl rfl (by decide)) ?_
          refine Eq.trans (x16_0 (h := 58) hT rfl) ?_
          refine xit (fun _ => ?_) (fun _ => ?_)
          · exact rfl
          · refine Eq.trans (x1 (h := 59) hT rfl rfl (by decide)) ?_
            refine Eq.trans (x21r (r := a0) (cl := 11) (o := 115) (h := 60) hT rfl ha0 (by decide) rfl) ?_
            refine Eq.trans (x1 (h := 61) hT rfl rfl (by decide)) ?_
            refine Eq.trans (x21r (r := a0) (cl := 11) (o := 3) (h := 62) hT rfl ha0 (by decide) rfl) ?_
            refine Eq.trans (x21r (r := (a0 + 3)) (cl := 9) (o := 1) (h := 63) hT rfl (kd_11_1 ha0) (by decide) rfl) ?_
            refine Eq.trans (x1 (h := 64) hT rfl rfl (by decide)) ?_
            refine Eq.trans (x21r (r := a0) (cl := 11) (o := 87) (h := 65) hT rfl ha0 (by decide) rfl) ?_
            refine Eq.trans (x31 (r := (a0 + 115)) (cl := 5) (as := [(2, ((((a0 + 3) + 1) : Nat) : Int)), (2, (((a0 + 87) : Nat) : Int))]) (st' := []) (h := 66) hT rfl sm_176 rfl (kd_11_11 ha0)) ?_
            refine xbd (fun q5 => ?_)
            rw [rv_176]
            change zB P 301 67 [(2, ((a0 : Nat) : Int)), (0, a1), (0, a2), (0, a3), (0, a4), (0, a5), (0, q3.1)] [(0, q5.1)] q5.2 = _
            refine Eq.trans (x16_1 (h := 67) hT rfl) ?_
            refine xit (fun _ => ?_) (fun _ => ?_)
            · refine Eq.trans (x1 (h := 70) hT rfl rfl (by decide)) ?_
              refine Eq.trans (x21r (r := a0) (cl := 11) (o := 112) (h := 71) hT rfl ha0 (by decide) rfl) ?_
              refine Eq.trans (x1 (h := 72) hT rfl rfl (by decide)) ?_
              refine Eq.trans (x21r (r := a0) (cl := 11) (o := 3) (h := 73) hT rfl ha0 (by decide) rfl) ?_
              refine Eq.trans (x1 (h := 74) hT rfl rfl (by decide)) ?_
              refine Eq.trans (x21r (r := a0) (cl := 11) (o := 105) (h := 75) hT rfl ha0 (by decide) rfl) ?_
              refine Eq.trans (x1 (h := 76) hT rfl rfl (by decide)) ?_
              refine Eq.trans (x31 (r := (a0 + 112)) (cl := 4) (as := [(2, (((a0 + 3) : Nat) : Int)), (2, (((a0 + 105) : Nat) : Int)), (0, a1)]) (st' := []) (h := 77) hT rfl sm_269 rfl (kd_11_10 ha0)) ?_
              refine xbd (fun q6 => ?_)
              rw [rv_269]
              change zB P 301 78 [(2, ((a0 : Nat) : Int)), (0, a1), (0, a2), (0, a3), (0, a4), (0, a5), (0, q3.1)] [] q6.2 = _
              refine Eq.trans (x1 (h := 78) hT rfl rfl (by decide)) ?_
              refine Eq.trans (x21r (r := a0) (cl := 11) (o := 115) (h := 79) hT rfl ha0 (by decide) rfl) ?_
              refine Eq.trans (x1 (h := 80) hT rfl rfl (by decide)) ?_
              refine Eq.trans (x21r (r := a0) (cl := 11) (o := 112) (h := 81) hT rfl ha0 (by decide) rfl) ?_
              refine Eq.trans (x31 (r := (a0 + 115)) (cl := 5) (as := [(2, (((a0 + 112) : Nat) : Int))]) (st' := []) (h := 82) hT rfl sm_248 rfl (kd_11_11 ha0)) ?_
              refine xbd (fun q7 => ?_)
              rw [rv_248]
              change zB P 301 83 [(2, ((a0 : Nat) : Int)), (0, a1), (0, a2), (0, a3), (0, a4), (0, a5), (0, q3.1)] [] q7.2 = _
              refine Eq.trans (x1 (h := 83) hT rfl rfl (by decide)) ?_
              refine Eq.trans (x16_0 (h := 84) hT rfl) ?_
              refine xit (fun _ => ?_) (fun _ => ?_)
              · refine Eq.trans (x1 (h := 102) hT rfl rfl (by decide)) ?_
                refine Eq.trans (x16_0 (h := 103) hT rfl) ?_
                refine xit (fun _ => ?_) (fun _ => ?_)
                · refine Eq.trans (x1 (h := 121) hT rfl rfl (by decide)) ?_
                  refine Eq.trans (x19 (h := 122) hT rfl) ?_
                  refine Eq.trans x19c ?_
                  refine xit (fun _ => ?_) (fun _ => ?_)
                  · refine Eq.trans (x1 (h := 123) hT rfl rfl (by decide)) ?_
                    refine Eq.trans (x21r (r := a0) (cl := 11) (o := 115) (h := 124) hT rfl ha0 (by decide) rfl) ?_
                    refine Eq.trans (x31 (r := (a0 + 115)) (cl := 5) (as := []) (st' := []) (h := 125) hT rfl sm_23 rfl (kd_11_11 ha0)) ?_
                    refine xbd (fun q8 => ?_)
                    rw [rv_23]
                    change zB P 301 126 [(2, ((a0 : Nat) : Int)), (0, a1), (0, a2), (0, a3), (0, a4), (0, a5), (0, q3.1)] [(0, q8.1)] q8.2 = _
                    exact x201 (h := 126) hT rfl
                  refine Eq.trans x19c ?_
                  refine xit (fun _ => ?_) (fun _ => ?_)
                  · refine Eq.trans (x1 (h := 127) hT rfl rfl (by decide)) ?_
                    refine Eq.trans (x21r (r := a0) (cl := 11) (o := 115) (h := 128) hT rfl ha0 (by decide) rfl) ?_
                    refine Eq.trans (x21 (r := (a0 + 115)) (cl := 5) (h := 129) hT rfl (kd_11_11 ha0)) ?_
                    exact x201 (h := 130) hT rfl
                  refine Eq.trans (x1 (h := 131) hT rfl rfl (by decide)) ?_
                  refine Eq.trans (x21r (r := a0) (cl := 11) (o := 115) (h := 132) hT rfl ha0 (by decide) rfl) ?_
                  refine Eq.trans (x21 (r := (a0 + 115)) (cl := 5) (h := 133) hT rfl (kd_11_11 ha0)) ?_
                  exact x201 (h := 134) hT rfl
                · refine Eq.trans (x1 (h := 104) hT rfl rfl (by decide)) ?_
                  refine Eq.trans (x0 (h := 105) hT rfl) ?_
                  refine Eq.trans (x5_1 (h := 106) hT rfl) ?_
                  refine Eq.trans (x1 (h := 107) hT rfl rfl (by decide)) ?_
                  refine Eq.trans (x21r (r := a0) (cl := 11) (o := 115) (h := 108) hT rfl ha0 (by decide) rfl) ?_
                  refine Eq.trans (x21 (r := (a0 + 115)) (cl := 5) (h := 109) hT rfl (kd_11_11 ha0)) ?_
                  refine Eq.trans (x17_3 (h := 110) hT rfl) ?_
                  refine xit (fun _ => ?_) (fun _ => ?_)
                  · refine Eq.trans (x0 (h := 119) hT rfl) ?_
                    exact x201 (h := 120) hT rfl
                  · refine Eq.trans (x1 (h := 111) hT rfl rfl (by decide)) ?_
                    refine Eq.trans (x21r (r := a0) (cl := 11) (o := 115) (h := 112) hT rfl ha0 (by decide) rfl) ?_
                    refine Eq.trans (x21r (r := (a0 + 115)) (cl := 5) (o := 6) (h := 113) hT rfl (kd_11_11 ha0) (by decide) rfl) ?_
                    refine Eq.trans (x1 (h := 114) hT rfl rfl (by decide)) ?_
                    refine Eq.trans (x0 (h := 115) hT rfl) ?_
                    refine Eq.trans (x5_1 (h := 116) hT rfl) ?_
                    refine Eq.trans (x24 (r := ((a0 + 115) + 6)) (n := 24) (h := 117) hT rfl (Or.inl (kd_5_5 (kd_11_11 ha0))) (ln_5_5 (kd_11_11 ha0))) ?_
                    refine xig (fun hz9 => ?_)
                    refine Eq.trans (x18 (h := 118) hT rfl) ?_
                    exact x201 (h := 120) hT rfl
              · refine Eq.trans (x1 (h := 85) hT rfl rfl (by decide)) ?_
                refine Eq.trans (x0 (h := 86) hT rfl) ?_
                refine Eq.trans (x5_1 (h := 87) hT rfl) ?_
                refine Eq.trans (x1 (h := 88) hT rfl rfl (by decide)) ?_
                refine Eq.trans (x21r (r := a0) (cl := 11) (o := 115) (h := 89) hT rfl ha0 (by decide) rfl) ?_
                refine Eq.trans (x21 (r := (a0 + 115)) (cl := 5) (h := 90) hT rfl (kd_11_11 ha0)) ?_
                refine Eq.trans (x17_3 (h := 91) hT rfl) ?_
                refine xit (fun _ => ?_) (fun _ => ?_)
                · refine Eq.trans (x0 (h := 100) hT rfl) ?_
                  exact x201 (h := 101) hT rfl
                · refine Eq.trans (x1 (h := 92) hT rfl rfl (by decide)) ?_
                  refine Eq.trans (x21r (r := a0) (cl := 11) (o := 115) (h := 93) hT rfl ha0 (by decide) rfl) ?_
                  refine Eq.trans (x21r (r := (a0 + 115)) (cl := 5) (o := 5) (h := 94) hT rfl (kd_11_11 ha0) (by decide) rfl) ?_
                  refine Eq.trans (x1 (h := 95) hT rfl rfl (by decide)) ?_
                  refine Eq.trans (x0 (h := 96) hT rfl) ?_
                  refine Eq.trans (x5_1 (h := 97) hT rfl) ?_
                  refine Eq.trans (x24 (r := ((a0 + 115) + 5)) (n := 8) (h := 98) hT rfl (Or.inl (kd_5_4 (kd_11_11 ha0))) (ln_5_4 (kd_11_11 ha0))) ?_
                  refine xig (fun hz10 => ?_)
                  refine Eq.trans (x18 (h := 99) hT rfl) ?_
                  exact x201 (h := 101) hT rfl
            · exact rfl
        · exact rfl
set_option maxRecDepth 100000 in
theorem q_301_29 {P : zP} {d : zD P} {g0 : zV} {g1 : zV} {g2 : zV} {g3 : zV} {g4 : zV} {g5 : zV} {g6 : zV} : zB P 301 29 [g0, g1, g2, g3, g4, g5, g6] [] d = some ((-1), d) := by
  have hT := cT_301
  refine Eq.trans (x0 (h := 29) hT rfl) ?_
  exact x201 (h := 30) hT rfl
set_option maxRecDepth 100000 in
theorem q_301_45 {P : zP} {d : zD P} {g0 : zV} {g1 : zV} {g2 : zV} {g3 : zV} {g4 : zV} {g5 : zV} {g6 : zV} : zB P 301 45 [g0, g1, g2, g3, g4, g5, g6] [] d = some ((-1), d) := by
  have hT := cT_301
  refine Eq.trans (x0 (h := 45) hT rfl) ?_
  exact x201 (h := 46) hT rfl
set_option maxRecDepth 100000 in
theorem q_301_68 {P : zP} {d : zD P} {g0 : zV} {g1 : zV} {g2 : zV} {g3 : zV} {g4 : zV} {g5 : zV} {g6 : zV} : zB P 301 68 [g0, g1, g2, g3, g4, g5, g6] [] d = some ((-2), d) := by
  have hT := cT_301
  refine Eq.trans (x0 (h := 68) hT rfl) ?_
  exact x201 (h := 69) hT rfl
/-! WordLinks.pairs(I)I -/
set_option maxRecDepth 100000 in
theorem e_302 {P : zP} {d : zD P} {a0 : Nat} {a1 : Int} (ha0 : zkd a0 = 11) : MM P 302 [(2, ((a0 : Nat) : Int)), (0, a1)] d = (if wr a1 < wr 1 then some ((-1), d) else (if wr 200 < wr a1 then some ((-1), d) else ((MM P 41 [(2, (((a0 + 1) : Nat) : Int)), (0, a1)] d).bind fun q1 => (if wr q1.1 ≠ 0 then ((MM P 252 [(2, (((a0 + 1) : Nat) : Int)), (0, a1), (2, (((a0 + 87) : Nat) : Int)), (2, (((a0 + 90) : Nat) : Int))] q1.2).bind fun q2 => ((MM P 36 [(2, (((a0 + 1) : Nat) : Int))] q2.2).bind fun q3 => (if wr q2.1 = 0 then ((MM P 38 [(2, (((a0 + 1) : Nat) : Int))] q3.2).bind fun q4 => some (q4.1, q4.2)) else ((MM P 284 [(2, ((a0 : Nat) : Int))] q3.2).bind fun q5 => some (q5.1, q5.2))))) else some ((-1), q1.2))))) := by
  have hT := cT_302
  refine Eq.trans (MM_def sm_302 (Nat.le_of_ble_eq_true rfl)) ?_
  change zB P 302 0 [(2, ((a0 : Nat) : Int)), (0, a1), (3, 0)] [] d = _
  refine Eq.trans (x1 (h := 0) hT rfl rfl (by decide)) ?_
  refine Eq.trans (x0 (h := 1) hT rfl) ?_
  refine Eq.trans (x17_2 (h := 2) hT rfl) ?_
  refine xit (fun _ => ?_) (fun _ => ?_)
  · refine Eq.trans (x0 (h := 11) hT rfl) ?_
    exact x201 (h := 12) hT rfl
  · refine Eq.trans (x1 (h := 3) hT rfl rfl (by decide)) ?_
    refine Eq.trans (x0 (h := 4) hT rfl) ?_
    refine Eq.trans (x17_4 (h := 5) hT rfl) ?_
    refine xit (fun _ => ?_) (fun _ => ?_)
    · refine Eq.trans (x0 (h := 11) hT rfl) ?_
      exact x201 (h := 12) hT rfl
    · refine Eq.trans (x1 (h := 6) hT rfl rfl (by decide)) ?_
      refine Eq.trans (x21r (r := a0) (cl := 11) (o := 1) (h := 7) hT rfl ha0 (by decide) rfl) ?_
      refine Eq.trans (x1 (h := 8) hT rfl rfl (by decide)) ?_
      refine Eq.trans (x31 (r := (a0 + 1)) (cl := 10) (as := [(0, a1)]) (st' := []) (h := 9) hT rfl sm_41 rfl (kd_11_0 ha0)) ?_
      refine xbd (fun q1 => ?_)
      rw [rv_41]
      change zB P 302 10 [(2, ((a0 : Nat) : Int)), (0, a1), (3, 0)] [(0, q1.1)] q1.2 = _
      refine Eq.trans (x16_1 (h := 10) hT rfl) ?_
      refine xit (fun _ => ?_) (fun _ => ?_)
      · refine Eq.trans (x1 (h := 13) hT rfl rfl (by decide)) ?_
        refine Eq.trans (x21r (r := a0) (cl := 11) (o := 1) (h := 14) hT rfl ha0 (by decide) rfl) ?_
        refine Eq.trans (x1 (h := 15) hT rfl rfl (by decide)) ?_
        refine Eq.trans (x1 (h := 16) hT rfl rfl (by decide)) ?_
        refine Eq.trans (x21r (r := a0) (cl := 11) (o := 87) (h := 17) hT rfl ha0 (by decide) rfl) ?_
        refine Eq.trans (x1 (h := 18) hT rfl rfl (by decide)) ?_
        refine Eq.trans (x21r (r := a0) (cl := 11) (o := 90) (h := 19) hT rfl ha0 (by decide) rfl) ?_
        refine Eq.trans (x31 (r := (a0 + 1)) (cl := 10) (as := [(0, a1), (2, (((a0 + 87) : Nat) : Int)), (2, (((a0 + 90) : Nat) : Int))]) (st' := []) (h := 20) hT rfl sm_252 rfl (kd_11_0 ha0)) ?_
        refine xbd (fun q2 => ?_)
        rw [rv_252]
        change zB P 302 21 [(2, ((a0 : Nat) : Int)), (0, a1), (3, 0)] [(0, q2.1)] q2.2 = _
        refine Eq.trans (x2 (ls' := [(2, ((a0 : Nat) : Int)), (0, a1), (0, q2.1)]) (h := 21) hT rfl (Nat.le_of_ble_eq_true rfl) rfl) ?_
        refine Eq.trans (x1 (h := 22) hT rfl rfl (by decide)) ?_
        refine Eq.trans (x21r (r := a0) (cl := 11) (o := 1) (h := 23) hT rfl ha0 (by decide) rfl) ?_
        refine Eq.trans (x31 (r := (a0 + 1)) (cl := 10) (as := []) (st' := []) (h := 24) hT rfl sm_36 rfl (kd_11_0 ha0)) ?_
        refine xbd (fun q3 => ?_)
        rw [rv_36]
        change zB P 302 25 [(2, ((a0 : Nat) : Int)), (0, a1), (0, q2.1)] [] q3.2 = _
        refine Eq.trans (x1 (h := 25) hT rfl rfl (by decide)) ?_
        refine Eq.trans (x16_0 (h := 26) hT rfl) ?_
        refine xit (fun _ => ?_) (fun _ => ?_)
        · refine Eq.trans (x1 (h := 30) hT rfl rfl (by decide)) ?_
          refine Eq.trans (x21r (r := a0) (cl := 11) (o := 1) (h := 31) hT rfl ha0 (by decide) rfl) ?_
          refine Eq.trans (x31 (r := (a0 + 1)) (cl := 10) (as := []) (st' := []) (h := 32) hT rfl sm_38 rfl (kd_11_0 ha0)) ?_
          refine xbd (fun q4 => ?_)
          rw [rv_38]
          change zB P 302 33 [(2, ((a0 : Nat) : Int)), (0, a1), (0, q2.1)] [(0, q4.1)] q4.2 = _
          exact x201 (h := 33) hT rfl
        · refine Eq.trans (x1 (h := 27) hT rfl rfl (by decide)) ?_
          refine Eq.trans (x31 (r := a0) (cl := 11) (as := []) (st' := []) (h := 28) hT rfl sm_284 rfl ha0) ?_
          refine xbd (fun q5 => ?_)
          rw [rv_284]
          change zB P 302 29 [(2, ((a0 : Nat) : Int)), (0, a1), (0, q2.1)] [(0, q5.1)] q5.2 = _
          refine Eq.trans (x18 (h := 29) hT rfl) ?_
          exact x201 (h := 33) hT rfl
      · refine Eq.trans (x0 (h := 11) hT rfl) ?_
        exact x201 (h := 12) hT rfl
/-! WordLinks.phrase(III)I -/
set_option maxRecDepth 100000 in
theorem e_303 {P : zP} {d : zD P} {a0 : Nat} {a1 : Int} {a2 : Int} {a3 : Int} (ha0 : zkd a0 = 11) : MM P 303 [(2, ((a0 : Nat) : Int)), (0, a1), (0, a2), (0, a3)] d = (if wr a3 < wr 10 then zB P 303 8 [(2, ((a0 : Nat) : Int)), (0, a1), (0, a2), (0, a3), (3, 0), (3, 0), (3, 0)] [] d else (if wr 13 ≤ wr a3 then zB P 303 8 [(2, ((a0 : Nat) : Int)), (0, a1), (0, a2), (0, a3), (3, 0), (3, 0), (3, 0)] [] d else (if wr a3 < wr 20 then zB P 303 18 [(2, ((a0 : Nat) : Int)), (0, a1), (0, a2), (0, a3), (0, 1), (3, 0), (3, 0)] [] d else (if wr 23 ≤ wr a3 then zB P 303 18 [(2, ((a0 : Nat) : Int)), (0, a1), (0, a2), (0, a3), (0, 1), (3, 0), (3, 0)] [] d else ((MM P 43 [(0, a1)] d).bind fun q1 => (if wr q1.1 = 0 then zB P 303 34 [(2, ((a0 : Nat) : Int)), (0, a1), (0, a2), (0, a3), (0, 1), (0, 1), (3, 0)] [] q1.2 else (if wr a2 < 0 then zB P 303 34 [(2, ((a0 : Nat) : Int)), (0, a1), (0, a2), (0, a3), (0, 1), (0, 1), (3, 0)] [] q1.2 else (if wr 1 ≠ 0 then zB P 303 36 [(2, ((a0 : Nat) : Int)), (0, a1), (0, a2), (0, a3), (0, 1), (0, 1), (3, 0)] [] q1.2 else (if wr 1 ≠ 0 then zB P 303 36 [(2, ((a0 : Nat) : Int)), (0, a1), (0, a2), (0, a3), (0, 1), (0, 1), (3, 0)] [] q1.2 else (if wr a3 < 0 then zB P 303 34 [(2, ((a0 : Nat) : Int)), (0, a1), (0, a2), (0, a3), (0, 1), (0, 1), (3, 0)] [] q1.2 else (if wr a3 ≤ wr 4 then zB P 303 36 [(2, ((a0 : Nat) : Int)), (0, a1), (0, a2), (0, a3), (0, 1), (0, 1), (3, 0)] [] q1.2 else zB P 303 34 [(2, ((a0 : Nat) : Int)), (0, a1), (0, a2), (0, a3), (0, 1), (0, 1), (3, 0)] [] q1.2))))))))))) := by
  have hT := cT_303
  refine Eq.trans (MM_def sm_303 (Nat.le_of_ble_eq_true rfl)) ?_
  change zB P 303 0 [(2, ((a0 : Nat) : Int)), (0, a1), (0, a2), (0, a3), (3, 0), (3, 0), (3, 0)] [] d = _
  refine Eq.trans (x1 (h := 0) hT rfl rfl (by decide)) ?_
  refine Eq.trans (x0 (h := 1) hT rfl) ?_
  refine Eq.trans (x17_2 (h := 2) hT rfl) ?_
  refine xit (fun _ => ?_) (fun _ => ?_)
  · exact rfl
  · refine Eq.trans (x1 (h := 3) hT rfl rfl (by decide)) ?_
    refine Eq.trans (x0 (h := 4) hT rfl) ?_
    refine Eq.trans (x17_3 (h := 5) hT rfl) ?_
    refine xit (fun _ => ?_) (fun _ => ?_)
    · exact rfl
    · refine Eq.trans (x0 (h := 6) hT rfl) ?_
      refine Eq.trans (x18 (h := 7) hT rfl) ?_
      refine Eq.trans (x2 (ls' := [(2, ((a0 : Nat) : Int)), (0, a1), (0, a2), (0, a3), (0, 1), (3, 0), (3, 0)]) (h := 9) hT rfl (Nat.le_of_ble_eq_true rfl) rfl) ?_
      refine Eq.trans (x1 (h := 10) hT rfl rfl (by decide)) ?_
      refine Eq.trans (x0 (h := 11) hT rfl) ?_
      refine Eq.trans (x17_2 (h := 12) hT rfl) ?_
      refine xit (fun _ => ?_) (fun _ => ?_)
      · exact rfl
      · refine Eq.trans (x1 (h := 13) hT rfl rfl (by decide)) ?_
        refine Eq.trans (x0 (h := 14) hT rfl) ?_
        refine Eq.trans (x17_3 (h := 15) hT rfl) ?_
        refine xit (fun _ => ?_) (fun _ => ?_)
        · exact rfl
        · refine Eq.trans (x0 (h := 16) hT rfl) ?_
          refine Eq.trans (x18 (h := 17) hT rfl) ?_
          refine Eq.trans (x2 (ls' := [(2, ((a0 : Nat) : Int)), (0, a1), (0, a2), (0, a3), (0, 1), (0, 1), (3, 0)]) (h := 19) hT rfl (Nat.le_of_ble_eq_true rfl) rfl) ?_
          refine Eq.trans (x1 (h := 20) hT rfl rfl (by decide)) ?_
          refine Eq.trans (x34 (as := [(0, a1)]) (st' := []) (h := 21) hT rfl sm_43 rfl) ?_
          refine xbd (fun q1 => ?_)
          rw [rv_43]
          change zB P 303 22 [(2, ((a0 : Nat) : Int)), (0, a1), (0, a2), (0, a3), (0, 1), (0, 1), (3, 0)] [(0, q1.1)] q1.2 = _
          refine Eq.trans (x16_0 (h := 22) hT rfl) ?_
          refine xit (fun _ => ?_) (fun _ => ?_)
          · exact rfl
          · refine Eq.trans (x1 (h := 23) hT rfl rfl (by decide)) ?_
            refine Eq.trans (x16_2 (h := 24) hT rfl) ?_
            refine xit (fun _ => ?_) (fun _ => ?_)
            · exact rfl
            · refine Eq.trans (x1 (h := 25) hT rfl rfl (by decide)) ?_
              refine Eq.trans (x16_1 (h := 26) hT rfl) ?_
              refine xit (fun _ => ?_) (fun _ => ?_)
              · exact rfl
              · refine Eq.trans (x1 (h := 27) hT rfl rfl (by decide)) ?_
                refine Eq.trans (x16_1 (h := 28) hT rfl) ?_
                refine xit (fun _ => ?_) (fun _ => ?_)
                · exact rfl
                · refine Eq.trans (x1 (h := 29) hT rfl rfl (by decide)) ?_
                  refine Eq.trans (x16_2 (h := 30) hT rfl) ?_
                  refine xit (fun _ => ?_) (fun _ => ?_)
                  · exact rfl
                  · refine Eq.trans (x1 (h := 31) hT rfl rfl (by decide)) ?_
                    refine Eq.trans (x0 (h := 32) hT rfl) ?_
                    refine Eq.trans (x17_5 (h := 33) hT rfl) ?_
                    refine xit (fun _ => ?_) (fun _ => ?_)
                    · exact rfl
                    · exact rfl
set_option maxRecDepth 100000 in
theorem q_303_8 {P : zP} {d : zD P} {a0 : Nat} {a1 : Int} {a2 : Int} {a3 : Int} {g4 : zV} {g5 : zV} {g6 : zV} (ha0 : zkd a0 = 11) : zB P 303 8 [(2, ((a0 : Nat) : Int)), (0, a1), (0, a2), (0, a3), g4, g5, g6] [] d = (if wr a3 < wr 20 then zB P 303 18 [(2, ((a0 : Nat) : Int)), (0, a1), (0, a2), (0, a3), (0, 0), g5, g6] [] d else (if wr 23 ≤ wr a3 then zB P 303 18 [(2, ((a0 : Nat) : Int)), (0, a1), (0, a2), (0, a3), (0, 0), g5, g6] [] d else ((MM P 43 [(0, a1)] d).bind fun q2 => (if wr q2.1 = 0 then zB P 303 34 [(2, ((a0 : Nat) : Int)), (0, a1), (0, a2), (0, a3), (0, 0), (0, 1), g6] [] q2.2 else (if wr a2 < 0 then zB P 303 34 [(2, ((a0 : Nat) : Int)), (0, a1), (0, a2), (0, a3), (0, 0), (0, 1), g6] [] q2.2 else (if wr 0 ≠ 0 then zB P 303 36 [(2, ((a0 : Nat) : Int)), (0, a1), (0, a2), (0, a3), (0, 0), (0, 1), g6] [] q2.2 else (if wr 1 ≠ 0 then zB P 303 36 [(2, ((a0 : Nat) : Int)), (0, a1), (0, a2), (0, a3), (0, 0), (0, 1), g6] [] q2.2 else (if wr a3 < 0 then zB P 303 34 [(2, ((a0 : Nat) : Int)), (0, a1), (0, a2), (0, a3), (0, 0), (0, 1), g6] [] q2.2 else (if wr a3 ≤ wr 4 then zB P 303 36 [(2, ((a0 : Nat) : Int)), (0, a1), (0, a2), (0, a3), (0, 0), (0, 1), g6] [] q2.2 else zB P 303 34 [(2, ((a0 : Nat) : Int)), (0, a1), (0, a2), (0, a3), (0, 0), (0, 1), g6] [] q2.2))))))))) := by
  have hT := cT_303
  refine Eq.trans (x0 (h := 8) hT rfl) ?_
  refine Eq.trans (x2 (ls' := [(2, ((a0 : Nat) : Int)), (0, a1), (0, a2), (0, a3), (0, 0), g5, g6]) (h := 9) hT rfl (Nat.le_of_ble_eq_true rfl) rfl) ?_
  refine Eq.trans (x1 (h := 10) hT rfl rfl (by decide)) ?_
  refine Eq.trans (x0 (h := 11) hT rfl) ?_
  refine Eq.trans (x17_2 (h := 12) hT rfl) ?_
  refine xit (fun _ => ?_) (fun _ => ?_)
  · exact rfl
  · refine Eq.trans (x1 (h := 13) hT rfl rfl (by decide)) ?_
    refine Eq.trans (x0 (h := 14) hT rfl) ?_
    refine Eq.trans (x17_3 (h := 15) hT rfl) ?_
    refine xit (fun _ => ?_) (fun _ => ?_)
    · exact rfl
    · refine Eq.trans (x0 (h := 16) hT rfl) ?_
      refine Eq.trans (x18 (h := 17) hT rfl) ?_
      refine Eq.trans (x2 (ls' := [(2, ((a0 : Nat) : Int)), (0, a1), (0, a2), (0, a3), (0, 0), (0, 1), g6]) (h := 19) hT rfl (Nat.le_of_ble_eq_true rfl) rfl) ?_
      refine Eq.trans (x1 (h := 20) hT rfl rfl (by decide)) ?_
      refine Eq.trans (x34 (as := [(0, a1)]) (st' := []) (h := 21) hT rfl sm_43 rfl) ?_
      refine xbd (fun q2 => ?_)
      rw [rv_43]
      change zB P 303 22 [(2, ((a0 : Nat) : Int)), (0, a1), (0, a2), (0, a3), (0, 0), (0, 1), g6] [(0, q2.1)] q2.2 = _
      refine Eq.trans (x16_0 (h := 22) hT rfl) ?_
      refine xit (fun _ => ?_) (fun _ => ?_)
      · exact rfl
      · refine Eq.trans (x1 (h := 23) hT rfl rfl (by decide)) ?_
        refine Eq.trans (x16_2 (h := 24) hT rfl) ?_
        refine xit (fun _ => ?_) (fun _ => ?_)
        · exact rfl
        · refine Eq.trans (x1 (h := 25) hT rfl rfl (by decide)) ?_
          refine Eq.trans (x16_1 (h := 26) hT rfl) ?_
          refine xit (fun _ => ?_) (fun _ => ?_)
          · exact rfl
          · refine Eq.trans (x1 (h := 27) hT rfl rfl (by decide)) ?_
            refine Eq.trans (x16_1 (h := 28) hT rfl) ?_
            refine xit (fun _ => ?_) (fun _ => ?_)
            · exact rfl
            · refine Eq.trans (x1 (h := 29) hT rfl rfl (by decide)) ?_
              refine Eq.trans (x16_2 (h := 30) hT rfl) ?_
              refine xit (fun _ => ?_) (fun _ => ?_)
              · exact rfl
              · refine Eq.trans (x1 (h := 31) hT rfl rfl (by decide)) ?_
                refine Eq.trans (x0 (h := 32) hT rfl) ?_
                refine Eq.trans (x17_5 (h := 33) hT rfl) ?_
                refine xit (fun _ => ?_) (fun _ => ?_)
                · exact rfl
                · exact rfl
set_option maxRecDepth 100000 in
theorem q_303_18 {P : zP} {d : zD P} {a0 : Nat} {a1 : Int} {a2 : Int} {a3 : Int} {a4 : Int} {g5 : zV} {g6 : zV} (ha0 : zkd a0 = 11) : zB P 303 18 [(2, ((a0 : Nat) : Int)), (0, a1), (0, a2), (0, a3), (0, a4), g5, g6] [] d = ((MM P 43 [(0, a1)] d).bind fun q3 => (if wr q3.1 = 0 then zB P 303 34 [(2, ((a0 : Nat) : Int)), (0, a1), (0, a2), (0, a3), (0, a4), (0, 0), g6] [] q3.2 else (if wr a2 < 0 then zB P 303 34 [(2, ((a0 : Nat) : Int)), (0, a1), (0, a2), (0, a3), (0, a4), (0, 0), g6] [] q3.2 else (if wr a4 ≠ 0 then zB P 303 36 [(2, ((a0 : Nat) : Int)), (0, a1), (0, a2), (0, a3), (0, a4), (0, 0), g6] [] q3.2 else (if wr 0 ≠ 0 then zB P 303 36 [(2, ((a0 : Nat) : Int)), (0, a1), (0, a2), (0, a3), (0, a4), (0, 0), g6] [] q3.2 else (if wr a3 < 0 then zB P 303 34 [(2, ((a0 : Nat) : Int)), (0, a1), (0, a2), (0, a3), (0, a4), (0, 0), g6] [] q3.2 else (if wr a3 ≤ wr 4 then zB P 303 36 [(2, ((a0 : Nat) : Int)), (0, a1), (0, a2), (0, a3), (0, a4), (0, 0), g6] [] q3.2 else zB P 303 34 [(2, ((a0 : Nat) : Int)), (0, a1), (0, a2), (0, a3), (0, a4), (0, 0), g6] [] q3.2))))))) := by
  have hT := cT_303
  refine Eq.trans (x0 (h := 18) hT rfl) ?_
  refine Eq.trans (x2 (ls' := [(2, ((a0 : Nat) : Int)), (0, a1), (0, a2), (0, a3), (0, a4), (0, 0), g6]) (h := 19) hT rfl (Nat.le_of_ble_eq_true rfl) rfl) ?_
  refine Eq.trans (x1 (h := 20) hT rfl rfl (by decide)) ?_
  refine Eq.trans (x34 (as := [(0, a1)]) (st' := []) (h := 21) hT rfl sm_43 rfl) ?_
  refine xbd (fun q3 => ?_)
  rw [rv_43]
  change zB P 303 22 [(2, ((a0 : Nat) : Int)), (0, a1), (0, a2), (0, a3), (0, a4), (0, 0), g6] [(0, q3.1)] q3.2 = _
  refine Eq.trans (x16_0 (h := 22) hT rfl) ?_
  refine xit (fun _ => ?_) (fun _ => ?_)
  · exact rfl
  · refine Eq.trans (x1 (h := 23) hT rfl rfl (by decide)) ?_
    refine Eq.trans (x16_2 (h := 24) hT rfl) ?_
    refine xit (fun _ => ?_) (fun _ => ?_)
    · exact rfl
    · refine Eq.trans (x1 (h := 25) hT rfl rfl (by decide)) ?_
      refine Eq.trans (x16_1 (h := 26) hT rfl) ?_
      refine xit (fun _ => ?_) (fun _ => ?_)
      · exact rfl
      · refine Eq.trans (x1 (h := 27) hT rfl rfl (by decide)) ?_
        refine Eq.trans (x16_1 (h := 28) hT rfl) ?_
        refine xit (fun _ => ?_) (fun _ => ?_)
        · exact rfl
        · refine Eq.trans (x1 (h := 29) hT rfl rfl (by decide)) ?_
          refine Eq.trans (x16_2 (h := 30) hT rfl) ?_
          refine xit (fun _ => ?_) (fun _ => ?_)
          · exact rfl
          · refine Eq.trans (x1 (h := 31) hT rfl rfl (by decide)) ?_
            refine Eq.trans (x0 (h := 32) hT rfl) ?_
            refine Eq.trans (x17_5 (h := 33) hT rfl) ?_
            refine xit (fun _ => ?_) (fun _ => ?_)
            · exact rfl
            · exact rfl
set_option maxRecDepth 100000 in
theorem q_303_34 {P : zP} {d : zD P} {g0 : zV} {g1 : zV} {g2 : zV} {g3 : zV} {g4 : zV} {g5 : zV} {g6 : zV} : zB P 303 34 [g0, g1, g2, g3, g4, g5, g6] [] d = some ((-1), d) := by
  have hT := cT_303
  refine Eq.trans (x0 (h := 34) hT rfl) ?_
  exact x201 (h := 35) hT rfl
set_option maxRecDepth 100000 in
theorem q_303_36 {P : zP} {d : zD P} {a0 : Nat} {a1 : Int} {a2 : Int} {a3 : Int} {a4 : Int} {a5 : Int} {g6 : zV} (ha0 : zkd a0 = 11) : zB P 303 36 [(2, ((a0 : Nat) : Int)), (0, a1), (0, a2), (0, a3), (0, a4), (0, a5), g6] [] d = ((MM P 269 [(2, (((a0 + 112) : Nat) : Int)), (2, (((a0 + 3) : Nat) : Int)), (2, (((a0 + 105) : Nat) : Int)), (0, a1)] d).bind fun q4 => (if wr a2 < wr ((q4.2.m ((a0 + 112)) 2)) then (if wr a4 ≠ 0 then zB P 303 55 [(2, ((a0 : Nat) : Int)), (0, a1), (0, a2), (0, a3), (0, a4), (0, a5), g6] [] q4.2 else (if wr a5 = 0 then (if wr a3 = 0 then (if zin a2 5400 then some ((q4.2.m (((a0 + 112) + 2)) (zix a2)), q4.2) else none) else (if wr a3 = 1 then ((MM P 108 [(2, (((a0 + 112) : Nat) : Int)), (0, a2), (0, 0)] q4.2).bind fun q6 => some (q6.1, q6.2)) else (if wr a3 = 2 then ((MM P 108 [(2, (((a0 + 112) : Nat) : Int)), (0, a2), (0, 1)] q4.2).bind fun q7 => some (q7.1, q7.2)) else (if wr a3 = 3 then ((MM P 19 [(2, (((a0 + 112) : Nat) : Int)), (0, a2)] q4.2).bind fun q8 => some (q8.1, q8.2)) else ((MM P 105 [(2, (((a0 + 112) : Nat) : Int)), (0, a2)] q4.2).bind fun q9 => some (q9.1, q9.2)))))) else zB P 303 55 [(2, ((a0 : Nat) : Int)), (0, a1), (0, a2), (0, a3), (0, a4), (0, a5), g6] [] q4.2)) else some ((-1), q4.2))) := by
  have hT := cT_303
  refine Eq.trans (x1 (h := 36) hT rfl rfl (by decide)) ?_
  refine Eq.trans (x21r (r := a0) (cl := 11) (o := 112) (h := 37) hT rfl ha0 (by decide) rfl) ?_
  refine Eq.trans (x1 (h := 38) hT rfl rfl (by decide)) ?_
  refine Eq.trans (x21r (r := a0) (cl := 11) (o := 3) (h := 39) hT rfl ha0 (by decide) rfl) ?_
  refine Eq.trans (x1 (h := 40) hT rfl rfl (by decide)) ?_
  refine Eq.trans (x21r (r := a0) (cl := 11) (o := 105) (h := 41) hT rfl ha0 (by decide) rfl) ?_
  refine Eq.trans (x1 (h := 42) hT rfl rfl (by decide)) ?_
  refine Eq.trans (x31 (r := (a0 + 112)) (cl := 4) (as := [(2, (((a0 + 3) : Nat) : Int)), (2, (((a0 + 105) : Nat) : Int)), (0, a1)]) (st' := []) (h := 43) hT rfl sm_269 rfl (kd_11_10 ha0)) ?_
  refine xbd (fun q4 => ?_)
  rw [rv_269]
  change zB P 303 44 [(2, ((a0 : Nat) : Int)), (0, a1), (0, a2), (0, a3), (0, a4), (0, a5), g6] [] q4.2 = _
  refine Eq.trans (x1 (h := 44) hT rfl rfl (by decide)) ?_
  refine Eq.trans (x1 (h := 45) hT rfl rfl (by decide)) ?_
  refine Eq.trans (x21r (r := a0) (cl := 11) (o := 112) (h := 46) hT rfl ha0 (by decide) rfl) ?_
  refine Eq.trans (x21 (r := (a0 + 112)) (cl := 4) (h := 47) hT rfl (kd_11_10 ha0)) ?_
  refine Eq.trans (x17_2 (h := 48) hT rfl) ?_
  refine xit (fun _ => ?_) (fun _ => ?_)
  · refine Eq.trans (x1 (h := 51) hT rfl rfl (by decide)) ?_
    refine Eq.trans (x16_1 (h := 52) hT rfl) ?_
    refine xit (fun _ => ?_) (fun _ => ?_)
    · exact rfl
    · refine Eq.trans (x1 (h := 53) hT rfl rfl (by decide)) ?_
      refine Eq.trans (x16_0 (h := 54) hT rfl) ?_
      refine xit (fun _ => ?_) (fun _ => ?_)
      · refine Eq.trans (x1 (h := 74) hT rfl rfl (by decide)) ?_
        refine Eq.trans (x19 (h := 75) hT rfl) ?_
        refine Eq.trans x19c ?_
        refine xit (fun _ => ?_) (fun _ => ?_)
        · refine Eq.trans (x1 (h := 76) hT rfl rfl (by decide)) ?_
          refine Eq.trans (x21r (r := a0) (cl := 11) (o := 112) (h := 77) hT rfl ha0 (by decide) rfl) ?_
          refine Eq.trans (x21r (r := (a0 + 112)) (cl := 4) (o := 2) (h := 78) hT rfl (kd_11_10 ha0) (by decide) rfl) ?_
          refine Eq.trans (x1 (h := 79) hT rfl rfl (by decide)) ?_
          refine Eq.trans (x24 (r := ((a0 + 112) + 2)) (n := 5400) (h := 80) hT rfl (Or.inl (kd_4_1 (kd_11_10 ha0))) (ln_4_1 (kd_11_10 ha0))) ?_
          refine xig (fun hz5 => ?_)
          exact x201 (h := 81) hT rfl
        refine Eq.trans x19c ?_
        refine xit (fun _ => ?_) (fun _ => ?_)
        · refine Eq.trans (x1 (h := 82) hT rfl rfl (by decide)) ?_
          refine Eq.trans (x21r (r := a0) (cl := 11) (o := 112) (h := 83) hT rfl ha0 (by decide) rfl) ?_
          refine Eq.trans (x1 (h := 84) hT rfl rfl (by decide)) ?_
          refine Eq.trans (x0 (h := 85) hT rfl) ?_
          refine Eq.trans (x31 (r := (a0 + 112)) (cl := 4) (as := [(0, a2), (0, 0)]) (st' := []) (h := 86) hT rfl sm_108 rfl (kd_11_10 ha0)) ?_
          refine xbd (fun q6 => ?_)
          rw [rv_108]
          change zB P 303 87 [(2, ((a0 : Nat) : Int)), (0, a1), (0, a2), (0, a3), (0, a4), (0, a5), g6] [(0, q6.1)] q6.2 = _
          exact x201 (h := 87) hT rfl
        refine Eq.trans x19c ?_
        refine xit (fun _ => ?_) (fun _ => ?_)
        · refine Eq.trans (x1 (h := 88) hT rfl rfl (by decide)) ?_
          refine Eq.trans (x21r (r := a0) (cl := 11) (o := 112) (h := 89) hT rfl ha0 (by decide) rfl) ?_
          refine Eq.trans (x1 (h := 90) hT rfl rfl (by decide)) ?_
          refine Eq.trans (x0 (h := 91) hT rfl) ?_
          refine Eq.trans (x31 (r := (a0 + 112)) (cl := 4) (as := [(0, a2), (0, 1)]) (st' := []) (h := 92) hT rfl sm_108 rfl (kd_11_10 ha0)) ?_
          refine xbd (fun q7 => ?_)
          rw [rv_108]
          change zB P 303 93 [(2, ((a0 : Nat) : Int)), (0, a1), (0, a2), (0, a3), (0, a4), (0, a5), g6] [(0, q7.1)] q7.2 = _
          exact x201 (h := 93) hT rfl
        refine Eq.trans x19c ?_
        refine xit (fun _ => ?_) (fun _ => ?_)
        · refine Eq.trans (x1 (h := 94) hT rfl rfl (by decide)) ?_
          refine Eq.trans (x21r (r := a0) (cl := 11) (o := 112) (h := 95) hT rfl ha0 (by decide) rfl) ?_
          refine Eq.trans (x1 (h := 96) hT rfl rfl (by decide)) ?_
          refine Eq.trans (x31 (r := (a0 + 112)) (cl := 4) (as := [(0, a2)]) (st' := []) (h := 97) hT rfl sm_19 rfl (kd_11_10 ha0)) ?_
          refine xbd (fun q8 => ?_)
          rw [rv_19]
          change zB P 303 98 [(2, ((a0 : Nat) : Int)), (0, a1), (0, a2), (0, a3), (0, a4), (0, a5), g6] [(0, q8.1)] q8.2 = _
          exact x201 (h := 98) hT rfl
        refine Eq.trans (x1 (h := 99) hT rfl rfl (by decide)) ?_
        refine Eq.trans (x21r (r := a0) (cl := 11) (o := 112) (h := 100) hT rfl ha0 (by decide) rfl) ?_
        refine Eq.trans (x1 (h := 101) hT rfl rfl (by decide)) ?_
        refine Eq.trans (x31 (r := (a0 + 112)) (cl := 4) (as := [(0, a2)]) (st' := []) (h := 102) hT rfl sm_105 rfl (kd_11_10 ha0)) ?_
        refine xbd (fun q9 => ?_)
        rw [rv_105]
        change zB P 303 103 [(2, ((a0 : Nat) : Int)), (0, a1), (0, a2), (0, a3), (0, a4), (0, a5), g6] [(0, q9.1)] q9.2 = _
        exact x201 (h := 103) hT rfl
      · exact rfl
  · refine Eq.trans (x0 (h := 49) hT rfl) ?_
    exact x201 (h := 50) hT rfl
set_option maxRecDepth 100000 in
theorem q_303_55 {P : zP} {d : zD P} {a0 : Nat} {g1 : zV} {a2 : Int} {a3 : Int} {a4 : Int} {g5 : zV} {g6 : zV} (ha0 : zkd a0 = 11) : zB P 303 55 [(2, ((a0 : Nat) : Int)), g1, (0, a2), (0, a3), (0, a4), g5, g6] [] d = (if wr a4 = 0 then ((MM P 20 [(2, (((a0 + 112) : Nat) : Int)), (0, a2), (0, 1), (0, (zdiv 1 a3 10))] d).bind fun q10 => (if 0 ≤ wr q10.1 then some (q10.1, q10.2) else some ((-4), q10.2))) else ((MM P 20 [(2, (((a0 + 112) : Nat) : Int)), (0, a2), (0, 0), (0, (zdiv 1 a3 10))] d).bind fun q11 => (if 0 ≤ wr q11.1 then some (q11.1, q11.2) else some ((-4), q11.2)))) := by
  have hT := cT_303
  refine Eq.trans (x1 (h := 55) hT rfl rfl (by decide)) ?_
  refine Eq.trans (x21r (r := a0) (cl := 11) (o := 112) (h := 56) hT rfl ha0 (by decide) rfl) ?_
  refine Eq.trans (x1 (h := 57) hT rfl rfl (by decide)) ?_
  refine Eq.trans (x1 (h := 58) hT rfl rfl (by decide)) ?_
  refine Eq.trans (x16_0 (h := 59) hT rfl) ?_
  refine xit (fun _ => ?_) (fun _ => ?_)
  · refine Eq.trans (x0 (h := 62) hT rfl) ?_
    refine Eq.trans (x1 (h := 63) hT rfl rfl (by decide)) ?_
    refine Eq.trans (x0 (h := 64) hT rfl) ?_
    refine Eq.trans (x6c (h := 65) hT rfl (by decide)) ?_
    refine Eq.trans (x31 (r := (a0 + 112)) (cl := 4) (as := [(0, a2), (0, 1), (0, (zdiv 1 a3 10))]) (st' := []) (h := 66) hT rfl sm_20 rfl (kd_11_10 ha0)) ?_
    refine xbd (fun q10 => ?_)
    rw [rv_20]
    change zB P 303 67 [(2, ((a0 : Nat) : Int)), g1, (0, a2), (0, a3), (0, a4), g5, g6] [(0, q10.1)] q10.2 = _
    refine Eq.trans (x2 (ls' := [(2, ((a0 : Nat) : Int)), g1, (0, a2), (0, a3), (0, a4), (if (g5).1 = 1 then (3, 0) else g5), (0, q10.1)]) (h := 67) hT rfl (Nat.le_of_ble_eq_true rfl) rfl) ?_
    refine Eq.trans (x1 (h := 68) hT rfl rfl (by decide)) ?_
    refine Eq.trans (x16_3 (h := 69) hT rfl) ?_
    refine xit (fun _ => ?_) (fun _ => ?_)
    · refine Eq.trans (x1 (h := 72) hT rfl rfl (by decide)) ?_
      exact x201 (h := 73) hT rfl
    · refine Eq.trans (x0 (h := 70) hT rfl) ?_
      refine Eq.trans (x18 (h := 71) hT rfl) ?_
      exact x201 (h := 73) hT rfl
  · refine Eq.trans (x0 (h := 60) hT rfl) ?_
    refine Eq.trans (x18 (h := 61) hT rfl) ?_
    refine Eq.trans (x1 (h := 63) hT rfl rfl (by decide)) ?_
    refine Eq.trans (x0 (h := 64) hT rfl) ?_
    refine Eq.trans (x6c (h := 65) hT rfl (by decide)) ?_
    refine Eq.trans (x31 (r := (a0 + 112)) (cl := 4) (as := [(0, a2), (0, 0), (0, (zdiv 1 a3 10))]) (st' := []) (h := 66) hT rfl sm_20 rfl (kd_11_10 ha0)) ?_
    refine xbd (fun q11 => ?_)
    rw [rv_20]
    change zB P 303 67 [(2, ((a0 : Nat) : Int)), g1, (0, a2), (0, a3), (0, a4), g5, g6] [(0, q11.1)] q11.2 = _
    refine Eq.trans (x2 (ls' := [(2, ((a0 : Nat) : Int)), g1, (0, a2), (0, a3), (0, a4), (if (g5).1 = 1 then (3, 0) else g5), (0, q11.1)]) (h := 67) hT rfl (Nat.le_of_ble_eq_true rfl) rfl) ?_
    refine Eq.trans (x1 (h := 68) hT rfl rfl (by decide)) ?_
    refine Eq.trans (x16_3 (h := 69) hT rfl) ?_
    refine xit (fun _ => ?_) (fun _ => ?_)
    · refine Eq.trans (x1 (h := 72) hT rfl rfl (by decide)) ?_
      exact x201 (h := 73) hT rfl
    · refine Eq.trans (x0 (h := 70) hT rfl) ?_
      refine Eq.trans (x18 (h := 71) hT rfl) ?_
      exact x201 (h := 73) hT rfl
/-! WordLinks.phrases(I)I -/
set_option maxRecDepth 100000 in
theorem e_304 {P : zP} {d : zD P} {a0 : Nat} {a1 : Int} (ha0 : zkd a0 = 11) : MM P 304 [(2, ((a0 : Nat) : Int)), (0, a1)] d = ((MM P 43 [(0, a1)] d).bind fun q1 => (if wr q1.1 ≠ 0 then ((MM P 269 [(2, (((a0 + 112) : Nat) : Int)), (2, (((a0 + 3) : Nat) : Int)), (2, (((a0 + 105) : Nat) : Int)), (0, a1)] q1.2).bind fun q2 => some ((q2.2.m ((a0 + 112)) 2), q2.2)) else some ((-1), q1.2))) := by
  have hT := cT_304
  refine Eq.trans (MM_def sm_304 (Nat.le_of_ble_eq_true rfl)) ?_
  change zB P 304 0 [(2, ((a0 : Nat) : Int)), (0, a1)] [] d = _
  refine Eq.trans (x1 (h := 0) hT rfl rfl (by decide)) ?_
  refine Eq.trans (x34 (as := [(0, a1)]) (st' := []) (h := 1) hT rfl sm_43 rfl) ?_
  refine xbd (fun q1 => ?_)
  rw [rv_43]
  change zB P 304 2 [(2, ((a0 : Nat) : Int)), (0, a1)] [(0, q1.1)] q1.2 = _
  refine Eq.trans (x16_1 (h := 2) hT rfl) ?_
  refine xit (fun _ => ?_) (fun _ => ?_)
  · refine Eq.trans (x1 (h := 5) hT rfl rfl (by decide)) ?_
    refine Eq.trans (x21r (r := a0) (cl := 11) (o := 112) (h := 6) hT rfl ha0 (by decide) rfl) ?_
    refine Eq.trans (x1 (h := 7) hT rfl rfl (by decide)) ?_
    refine Eq.trans (x21r (r := a0) (cl := 11) (o := 3) (h := 8) hT rfl ha0 (by decide) rfl) ?_
    refine Eq.trans (x1 (h := 9) hT rfl rfl (by decide)) ?_
    refine Eq.trans (x21r (r := a0) (cl := 11) (o := 105) (h := 10) hT rfl ha0 (by decide) rfl) ?_
    refine Eq.trans (x1 (h := 11) hT rfl rfl (by decide)) ?_
    refine Eq.trans (x31 (r := (a0 + 112)) (cl := 4) (as := [(2, (((a0 + 3) : Nat) : Int)), (2, (((a0 + 105) : Nat) : Int)), (0, a1)]) (st' := []) (h := 12) hT rfl sm_269 rfl (kd_11_10 ha0)) ?_
    refine xbd (fun q2 => ?_)
    rw [rv_269]
    change zB P 304 13 [(2, ((a0 : Nat) : Int)), (0, a1)] [] q2.2 = _
    refine Eq.trans (x1 (h := 13) hT rfl rfl (by decide)) ?_
    refine Eq.trans (x21r (r := a0) (cl := 11) (o := 112) (h := 14) hT rfl ha0 (by decide) rfl) ?_
    refine Eq.trans (x21 (r := (a0 + 112)) (cl := 4) (h := 15) hT rfl (kd_11_10 ha0)) ?_
    exact x201 (h := 16) hT rfl
  · refine Eq.trans (x0 (h := 3) hT rfl) ?_
    exact x201 (h := 4) hT rfl
/-! WordLinks.rounds(II)I -/
set_option maxRecDepth 100000 in
theorem e_305 {P : zP} {d : zD P} {a0 : Nat} {a1 : Int} {a2 : Int} (ha0 : zkd a0 = 11) : MM P 305 [(2, ((a0 : Nat) : Int)), (0, a1), (0, a2)] d = ((MM P 45 [(0, a1)] d).bind fun q1 => (if wr q1.1 = 0 then some ((-1), q1.2) else (if wr a2 < wr 1 then some ((-1), q1.2) else (if wr a2 ≤ wr 30 then ((MM P 119 [(2, (((a0 + 59) : Nat) : Int)), (2, (((a0 + 3) : Nat) : Int))] q1.2).bind fun q2 => zB P 305 18 [(2, ((a0 : Nat) : Int)), (0, a1), (0, a2), (0, 0)] [] q2.2) else some ((-1), q1.2))))) := by
  have hT := cT_305
  refine Eq.trans (MM_def sm_305 (Nat.le_of_ble_eq_true rfl)) ?_
  change zB P 305 0 [(2, ((a0 : Nat) : Int)), (0, a1), (0, a2), (3, 0)] [] d = _
  refine Eq.trans (x1 (h := 0) hT rfl rfl (by decide)) ?_
  refine Eq.trans (x34 (as := [(0, a1)]) (st' := []) (h := 1) hT rfl sm_45 rfl) ?_
  refine xbd (fun q1 => ?_)
  rw [rv_45]
  change zB P 305 2 [(2, ((a0 : Nat) : Int)), (0, a1), (0, a2), (3, 0)] [(0, q1.1)] q1.2 = _
  refine Eq.trans (x16_0 (h := 2) hT rfl) ?_
  refine xit (fun _ => ?_) (fun _ => ?_)
  · refine Eq.trans (x0 (h := 9) hT rfl) ?_
    exact x201 (h := 10) hT rfl
  · refine Eq.trans (x1 (h := 3) hT rfl rfl (by decide)) ?_
    refine Eq.trans (x0 (h := 4) hT rfl) ?_
    refine Eq.trans (x17_2 (h := 5) hT rfl) ?_
    refine xit (fun _ => ?_) (fun _ => ?_)
    · refine Eq.trans (x0 (h := 9) hT rfl) ?_
      exact x201 (h := 10) hT rfl
    · refine Eq.trans (x1 (h := 6) hT rfl rfl (by decide)) ?_
      refine Eq.trans (x0 (h := 7) hT rfl) ?_
      refine Eq.trans (x17_5 (h := 8) hT rfl) ?_
      refine xit (fun _ => ?_) (fun _ => ?_)
      · refine Eq.trans (x1 (h := 11) hT rfl rfl (by decide)) ?_
        refine Eq.trans (x21r (r := a0) (cl := 11) (o := 59) (h := 12) hT rfl ha0 (by decide) rfl) ?_
        refine Eq.trans (x1 (h := 13) hT rfl rfl (by decide)) ?_
        refine Eq.trans (x21r (r := a0) (cl := 11) (o := 3) (h := 14) hT rfl ha0 (by decide) rfl) ?_
        refine Eq.trans (x31 (r := (a0 + 59)) (cl := 9) (as := [(2, (((a0 + 3) : Nat) : Int))]) (st' := []) (h := 15) hT rfl sm_119 rfl (kd_11_3 ha0)) ?_
        refine xbd (fun q2 => ?_)
        rw [rv_119]
        change zB P 305 16 [(2, ((a0 : Nat) : Int)), (0, a1), (0, a2), (3, 0)] [] q2.2 = _
        refine Eq.trans (x0 (h := 16) hT rfl) ?_
        refine Eq.trans (x2 (ls' := [(2, ((a0 : Nat) : Int)), (0, a1), (0, a2), (0, 0)]) (h := 17) hT rfl (Nat.le_of_ble_eq_true rfl) rfl) ?_
        exact rfl
      · refine Eq.trans (x0 (h := 9) hT rfl) ?_
        exact x201 (h := 10) hT rfl
set_option maxRecDepth 100000 in
theorem q_305_18 {P : zP} {d : zD P} {a0 : Nat} {a1 : Int} {a2 : Int} {a3 : Int} (ha0 : zkd a0 = 11) : zB P 305 18 [(2, ((a0 : Nat) : Int)), (0, a1), (0, a2), (0, a3)] [] d = (if wr a2 ≤ wr a3 then ((MM P 31 [(2, (((a0 + 3) : Nat) : Int)), (2, (((a0 + 59) : Nat) : Int)), (0, a1)] d).bind fun q3 => some (q3.1, q3.2)) else ((MM P 270 [(2, (((a0 + 98) : Nat) : Int)), (2, (((a0 + 3) : Nat) : Int)), (0, a1)] d).bind fun q4 => zB P 305 18 [(2, ((a0 : Nat) : Int)), (0, a1), (0, a2), (0, (a3 + 1))] [] q4.2)) := by
  have hT := cT_305
  refine Eq.trans (x1 (h := 18) hT rfl rfl (by decide)) ?_
  refine Eq.trans (x1 (h := 19) hT rfl rfl (by decide)) ?_
  refine Eq.trans (x17_3 (h := 20) hT rfl) ?_
  refine xit (fun _ => ?_) (fun _ => ?_)
  · refine Eq.trans (x1 (h := 29) hT rfl rfl (by decide)) ?_
    refine Eq.trans (x21r (r := a0) (cl := 11) (o := 3) (h := 30) hT rfl ha0 (by decide) rfl) ?_
    refine Eq.trans (x1 (h := 31) hT rfl rfl (by decide)) ?_
    refine Eq.trans (x21r (r := a0) (cl := 11) (o := 59) (h := 32) hT rfl ha0 (by decide) rfl) ?_
    refine Eq.trans (x1 (h := 33) hT rfl rfl (by decide)) ?_
    refine Eq.trans (x31 (r := (a0 + 3)) (cl := 9) (as := [(2, (((a0 + 59) : Nat) : Int)), (0, a1)]) (st' := []) (h := 34) hT rfl sm_31 rfl (kd_11_1 ha0)) ?_
    refine xbd (fun q3 => ?_)
    rw [rv_31]
    change zB P 305 35 [(2, ((a0 : Nat) : Int)), (0, a1), (0, a2), (0, a3)] [(0, q3.1)] q3.2 = _
    exact x201 (h := 35) hT rfl
  · refine Eq.trans (x1 (h := 21) hT rfl rfl (by decide)) ?_
    refine Eq.trans (x21r (r := a0) (cl := 11) (o := 98) (h := 22) hT rfl ha0 (by decide) rfl) ?_
    refine Eq.trans (x1 (h := 23) hT rfl rfl (by decide)) ?_
    refine Eq.trans (x21r (r := a0) (cl := 11) (o := 3) (h := 24) hT rfl ha0 (by decide) rfl) ?_
    refine Eq.trans (x1 (h := 25) hT rfl rfl (by decide)) ?_
    refine Eq.trans (x31 (r := (a0 + 98)) (cl := 6) (as := [(2, (((a0 + 3) : Nat) : Int)), (0, a1)]) (st' := []) (h := 26) hT rfl sm_270 rfl (kd_11_7 ha0)) ?_
    refine xbd (fun q4 => ?_)
    rw [rv_270]
    change zB P 305 27 [(2, ((a0 : Nat) : Int)), (0, a1), (0, a2), (0, a3)] [] q4.2 = _
    refine Eq.trans (x4 (ls' := [(2, ((a0 : Nat) : Int)), (0, a1), (0, a2), (0, (a3 + 1))]) (h := 27) hT rfl rfl rfl) ?_
    refine Eq.trans (x18 (h := 28) hT rfl) ?_
    exact rfl
/-! WordLinks.sheets(I)I -/
set_option maxRecDepth 100000 in
theorem e_306 {P : zP} {d : zD P} {a0 : Nat} {a1 : Int} (ha0 : zkd a0 = 11) : MM P 306 [(2, ((a0 : Nat) : Int)), (0, a1)] d = (if wr a1 < wr 1 then some ((-1), d) else (if wr 200 < wr a1 then some ((-1), d) else ((MM P 41 [(2, (((a0 + 1) : Nat) : Int)), (0, a1)] d).bind fun q1 => (if wr q1.1 ≠ 0 then ((MM P 271 [(2, (((a0 + 1) : Nat) : Int)), (0, a1), (2, (((a0 + 87) : Nat) : Int)), (2, (((a0 + 90) : Nat) : Int))] q1.2).bind fun q2 => ((MM P 36 [(2, (((a0 + 1) : Nat) : Int))] q2.2).bind fun q3 => (if wr q2.1 ≠ 0 then ((MM P 188 [(2, (((a0 + 3) : Nat) : Int)), (2, (((a0 + 87) : Nat) : Int)), (2, (((a0 + 90) : Nat) : Int))] q3.2).bind fun q4 => some (((q4.2.m ((a0 + 87)) 2) + (q4.2.m ((a0 + 90)) 2)), q4.2)) else ((MM P 38 [(2, (((a0 + 1) : Nat) : Int))] q3.2).bind fun q5 => some (q5.1, q5.2))))) else some ((-1), q1.2))))) := by
  have hT := cT_306
  refine Eq.trans (MM_def sm_306 (Nat.le_of_ble_eq_true rfl)) ?_
  change zB P 306 0 [(2, ((a0 : Nat) : Int)), (0, a1), (3, 0)] [] d = _
  refine Eq.trans (x1 (h := 0) hT rfl rfl (by decide)) ?_
  refine Eq.trans (x0 (h := 1) hT rfl) ?_
  refine Eq.trans (x17_2 (h := 2) hT rfl) ?_
  refine xit (fun _ => ?_) (fun _ => ?_)
  · refine Eq.trans (x0 (h := 11) hT rfl) ?_
    exact x201 (h := 12) hT rfl
  · refine Eq.trans (x1 (h := 3) hT rfl rfl (by decide)) ?_
    refine Eq.trans (x0 (h := 4) hT rfl) ?_
    refine Eq.trans (x17_4 (h := 5) hT rfl) ?_
    refine xit (fun _ => ?_) (fun _ => ?_)
    · refine Eq.trans (x0 (h := 11) hT rfl) ?_
      exact x201 (h := 12) hT rfl
    · refine Eq.trans (x1 (h := 6) hT rfl rfl (by decide)) ?_
      refine Eq.trans (x21r (r := a0) (cl := 11) (o := 1) (h := 7) hT rfl ha0 (by decide) rfl) ?_
      refine Eq.trans (x1 (h := 8) hT rfl rfl (by decide)) ?_
      refine Eq.trans (x31 (r := (a0 + 1)) (cl := 10) (as := [(0, a1)]) (st' := []) (h := 9) hT rfl sm_41 rfl (kd_11_0 ha0)) ?_
      refine xbd (fun q1 => ?_)
      rw [rv_41]
      change zB P 306 10 [(2, ((a0 : Nat) : Int)), (0, a1), (3, 0)] [(0, q1.1)] q1.2 = _
      refine Eq.trans (x16_1 (h := 10) hT rfl) ?_
      refine xit (fun _ => ?_) (fun _ => ?_)
      · refine Eq.trans (x1 (h := 13) hT rfl rfl (by decide)) ?_
        refine Eq.trans (x21r (r := a0) (cl := 11) (o := 1) (h := 14) hT rfl ha0 (by decide) rfl) ?_
        refine Eq.trans (x1 (h := 15) hT rfl rfl (by decide)) ?_
        refine Eq.trans (x1 (h := 16) hT rfl rfl (by decide)) ?_
        refine Eq.trans (x21r (r := a0) (cl := 11) (o := 87) (h := 17) hT rfl ha0 (by decide) rfl) ?_
        refine Eq.trans (x1 (h := 18) hT rfl rfl (by decide)) ?_
        refine Eq.trans (x21r (r := a0) (cl := 11) (o := 90) (h := 19) hT rfl ha0 (by decide) rfl) ?_
        refine Eq.trans (x31 (r := (a0 + 1)) (cl := 10) (as := [(0, a1), (2, (((a0 + 87) : Nat) : Int)), (2, (((a0 + 90) : Nat) : Int))]) (st' := []) (h := 20) hT rfl sm_271 rfl (kd_11_0 ha0)) ?_
        refine xbd (fun q2 => ?_)
        rw [rv_271]
        change zB P 306 21 [(2, ((a0 : Nat) : Int)), (0, a1), (3, 0)] [(0, q2.1)] q2.2 = _
        refine Eq.trans (x2 (ls' := [(2, ((a0 : Nat) : Int)), (0, a1), (0, q2.1)]) (h := 21) hT rfl (Nat.le_of_ble_eq_true rfl) rfl) ?_
        refine Eq.trans (x1 (h := 22) hT rfl rfl (by decide)) ?_
        refine Eq.trans (x21r (r := a0) (cl := 11) (o := 1) (h := 23) hT rfl ha0 (by decide) rfl) ?_
        refine Eq.trans (x31 (r := (a0 + 1)) (cl := 10) (as := []) (st' := []) (h := 24) hT rfl sm_36 rfl (kd_11_0 ha0)) ?_
        refine xbd (fun q3 => ?_)
        rw [rv_36]
        change zB P 306 25 [(2, ((a0 : Nat) : Int)), (0, a1), (0, q2.1)] [] q3.2 = _
        refine Eq.trans (x1 (h := 25) hT rfl rfl (by decide)) ?_
        refine Eq.trans (x16_1 (h := 26) hT rfl) ?_
        refine xit (fun _ => ?_) (fun _ => ?_)
        · refine Eq.trans (x1 (h := 31) hT rfl rfl (by decide)) ?_
          refine Eq.trans (x21r (r := a0) (cl := 11) (o := 3) (h := 32) hT rfl ha0 (by decide) rfl) ?_
          refine Eq.trans (x1 (h := 33) hT rfl rfl (by decide)) ?_
          refine Eq.trans (x21r (r := a0) (cl := 11) (o := 87) (h := 34) hT rfl ha0 (by decide) rfl) ?_
          refine Eq.trans (x1 (h := 35) hT rfl rfl (by decide)) ?_
          refine Eq.trans (x21r (r := a0) (cl := 11) (o := 90) (h := 36) hT rfl ha0 (by decide) rfl) ?_
          refine Eq.trans (x31 (r := (a0 + 3)) (cl := 9) (as := [(2, (((a0 + 87) : Nat) : Int)), (2, (((a0 + 90) : Nat) : Int))]) (st' := []) (h := 37) hT rfl sm_188 rfl (kd_11_1 ha0)) ?_
          refine xbd (fun q4 => ?_)
          rw [rv_188]
          change zB P 306 38 [(2, ((a0 : Nat) : Int)), (0, a1), (0, q2.1)] [] q4.2 = _
          refine Eq.trans (x1 (h := 38) hT rfl rfl (by decide)) ?_
          refine Eq.trans (x21r (r := a0) (cl := 11) (o := 87) (h := 39) hT rfl ha0 (by decide) rfl) ?_
          refine Eq.trans (x21 (r := (a0 + 87)) (cl := 7) (h := 40) hT rfl (kd_11_4 ha0)) ?_
          refine Eq.trans (x1 (h := 41) hT rfl rfl (by decide)) ?_
          refine Eq.trans (x21r (r := a0) (cl := 11) (o := 90) (h := 42) hT rfl ha0 (by decide) rfl) ?_
          refine Eq.trans (x21 (r := (a0 + 90)) (cl := 7) (h := 43) hT rfl (kd_11_5 ha0)) ?_
          refine Eq.trans (x5_0 (h := 44) hT rfl) ?_
          exact x201 (h := 45) hT rfl
        · refine Eq.trans (x1 (h := 27) hT rfl rfl (by decide)) ?_
          refine Eq.trans (x21r (r := a0) (cl := 11) (o := 1) (h := 28) hT rfl ha0 (by decide) rfl) ?_
          refine Eq.trans (x31 (r := (a0 + 1)) (cl := 10) (as := []) (st' := []) (h := 29) hT rfl sm_38 rfl (kd_11_0 ha0)) ?_
          refine xbd (fun q5 => ?_)
          rw [rv_38]
          change zB P 306 30 [(2, ((a0 : Nat) : Int)), (0, a1), (0, q2.1)] [(0, q5.1)] q5.2 = _
          exact x201 (h := 30) hT rfl
      · refine Eq.trans (x0 (h := 11) hT rfl) ?_
        exact x201 (h := 12) hT rfl
/-! WordLinks.tried(II)I -/
set_option maxRecDepth 100000 in
theorem e_307 {P : zP} {d : zD P} {a0 : Nat} {a1 : Int} {a2 : Int} (ha0 : zkd a0 = 11) : MM P 307 [(2, ((a0 : Nat) : Int)), (0, a1), (0, a2)] d = (if wr a1 < wr 1 then some ((-1), d) else (if wr 30 < wr a1 then some ((-1), d) else (if wr a2 < 0 then some ((-1), d) else (if wr a2 ≤ wr 4 then ((MM P 119 [(2, (((a0 + 59) : Nat) : Int)), (2, (((a0 + 3) : Nat) : Int))] d).bind fun q1 => zB P 307 20 [(2, ((a0 : Nat) : Int)), (0, a1), (0, a2), (0, 0)] [] q1.2) else some ((-1), d))))) := by
  have hT := cT_307
  refine Eq.trans (MM_def sm_307 (Nat.le_of_ble_eq_true rfl)) ?_
  change zB P 307 0 [(2, ((a0 : Nat) : Int)), (0, a1), (0, a2), (3, 0)] [] d = _
  refine Eq.trans (x1 (h := 0) hT rfl rfl (by decide)) ?_
  refine Eq.trans (x0 (h := 1) hT rfl) ?_
  refine Eq.trans (x17_2 (h := 2) hT rfl) ?_
  refine xit (fun _ => ?_) (fun _ => ?_)
  · refine Eq.trans (x0 (h := 11) hT rfl) ?_
    exact x201 (h := 12) hT rfl
  · refine Eq.trans (x1 (h := 3) hT rfl rfl (by decide)) ?_
    refine Eq.trans (x0 (h := 4) hT rfl) ?_
    refine Eq.trans (x17_4 (h := 5) hT rfl) ?_
    refine xit (fun _ => ?_) (fun _ => ?_)
    · refine Eq.trans (x0 (h := 11) hT rfl) ?_
      exact x201 (h := 12) hT rfl
    · refine Eq.trans (x1 (h := 6) hT rfl rfl (by decide)) ?_
      refine Eq.trans (x16_2 (h := 7) hT rfl) ?_
      refine xit (fun _ => ?_) (fun _ => ?_)
      · refine Eq.trans (x0 (h := 11) hT rfl) ?_
        exact x201 (h := 12) hT rfl
      · refine Eq.trans (x1 (h := 8) hT rfl rfl (by decide)) ?_
        refine Eq.trans (x0 (h := 9) hT rfl) ?_
        refine Eq.trans (x17_5 (h := 10) hT rfl) ?_
        refine xit (fun _ => ?_) (fun _ => ?_)
        · refine Eq.trans (x1 (h := 13) hT rfl rfl (by decide)) ?_
          refine Eq.trans (x21r (r := a0) (cl := 11) (o := 59) (h := 14) hT rfl ha0 (by decide) rfl) ?_
          refine Eq.trans (x1 (h := 15) hT rfl rfl (by decide)) ?_
          refine Eq.trans (x21r (r := a0) (cl := 11) (o := 3) (h := 16) hT rfl ha0 (by decide) rfl) ?_
          refine Eq.trans (x31 (r := (a0 + 59)) (cl := 9) (as := [(2, (((a0 + 3) : Nat) : Int))]) (st' := []) (h := 17) hT rfl sm_119 rfl (kd_11_3 ha0)) ?_
          refine xbd (fun q1 => ?_)
          rw [rv_119]
          change zB P 307 18 [(2, ((a0 : Nat) : Int)), (0, a1), (0, a2), (3, 0)] [] q1.2 = _
          refine Eq.trans (x0 (h := 18) hT rfl) ?_
          refine Eq.trans (x2 (ls' := [(2, ((a0 : Nat) : Int)), (0, a1), (0, a2), (0, 0)]) (h := 19) hT rfl (Nat.le_of_ble_eq_true rfl) rfl) ?_
          exact rfl
        · refine Eq.trans (x0 (h := 11) hT rfl) ?_
          exact x201 (h := 12) hT rfl
set_option maxRecDepth 100000 in
theorem q_307_20 {P : zP} {d : zD P} {a0 : Nat} {a1 : Int} {a2 : Int} {a3 : Int} (ha0 : zkd a0 = 11) : zB P 307 20 [(2, ((a0 : Nat) : Int)), (0, a1), (0, a2), (0, a3)] [] d = (if wr a1 ≤ wr a3 then ((MM P 29 [(2, (((a0 + 3) : Nat) : Int)), (0, 0)] d).bind fun q2 => ((MM P 29 [(2, (((a0 + 3) : Nat) : Int)), (0, 1)] q2.2).bind fun q3 => (if wr a2 = 0 then ((MM P 273 [(2, ((a0 : Nat) : Int)), (0, 2)] q3.2).bind fun q4 => ((MM P 119 [(2, (((a0 + 3) : Nat) : Int)), (2, (((a0 + 59) : Nat) : Int))] q4.2).bind fun q5 => some (q4.1, q5.2))) else (if wr a2 = 1 then ((MM P 273 [(2, ((a0 : Nat) : Int)), (0, 3)] q3.2).bind fun q6 => ((MM P 119 [(2, (((a0 + 3) : Nat) : Int)), (2, (((a0 + 59) : Nat) : Int))] q6.2).bind fun q7 => some (q6.1, q7.2))) else (if wr a2 = 2 then ((MM P 255 [(2, ((a0 : Nat) : Int))] q3.2).bind fun q8 => ((MM P 119 [(2, (((a0 + 3) : Nat) : Int)), (2, (((a0 + 59) : Nat) : Int))] q8.2).bind fun q9 => some (q8.1, q9.2))) else (if wr a2 = 3 then ((MM P 272 [(2, ((a0 : Nat) : Int)), (0, 4)] q3.2).bind fun q10 => ((MM P 119 [(2, (((a0 + 3) : Nat) : Int)), (2, (((a0 + 59) : Nat) : Int))] q10.2).bind fun q11 => some (q10.1, q11.2))) else ((MM P 119 [(2, (((a0 + 3) : Nat) : Int)), (2, (((a0 + 59) : Nat) : Int))] q3.2).bind fun q12 => some ((q2.1 + q3.1), q12.2)))))))) else ((MM P 270 [(2, (((a0 + 98) : Nat) : Int)), (2, (((a0 + 3) : Nat) : Int)), (0, 0)] d).bind fun q13 => ((MM P 270 [(2, (((a0 + 98) : Nat) : Int)), (2, (((a0 + 3) : Nat) : Int)), (0, 1)] q13.2).bind fun q14 => zB P 307 20 [(2, ((a0 : Nat) : Int)), (0, a1), (0, a2), (0, (a3 + 1))] [] q14.2))) := by
  have hT := cT_307
  refine Eq.trans (x1 (h := 20) hT rfl rfl (by decide)) ?_
  refine Eq.trans (x1 (h := 21) hT rfl rfl (by decide)) ?_
  refine Eq.trans (x17_3 (h := 22) hT rfl) ?_
  refine xit (fun _ => ?_) (fun _ => ?_)
  · refine Eq.trans (x1 (h := 37) hT rfl rfl (by decide)) ?_
    refine Eq.trans (x21r (r := a0) (cl := 11) (o := 3) (h := 38) hT rfl ha0 (by decide) rfl) ?_
    refine Eq.trans (x0 (h := 39) hT rfl) ?_
    refine Eq.trans (x31 (r := (a0 + 3)) (cl := 9) (as := [(0, 0)]) (st' := []) (h := 40) hT rfl sm_29 rfl (kd_11_1 ha0)) ?_
    refine xbd (fun q2 => ?_)
    rw [rv_29]
    change zB P 307 41 [(2, ((a0 : Nat) : Int)), (0, a1), (0, a2), (0, a3)] [(0, q2.1)] q2.2 = _
    refine Eq.trans (x1 (h := 41) hT rfl rfl (by decide)) ?_
    refine Eq.trans (x21r (r := a0) (cl := 11) (o := 3) (h := 42) hT rfl ha0 (by decide) rfl) ?_
    refine Eq.trans (x0 (h := 43) hT rfl) ?_
    refine Eq.trans (x31 (r := (a0 + 3)) (cl := 9) (as := [(0, 1)]) (st' := [(0, q2.1)]) (h := 44) hT rfl sm_29 rfl (kd_11_1 ha0)) ?_
    refine xbd (fun q3 => ?_)
    rw [rv_29]
    change zB P 307 45 [(2, ((a0 : Nat) : Int)), (0, a1), (0, a2), (0, a3)] [(0, q3.1), (0, q2.1)] q3.2 = _
    refine Eq.trans (x5_0 (h := 45) hT rfl) ?_
    refine Eq.trans (x2 (ls' := [(2, ((a0 : Nat) : Int)), (0, a1), (0, a2), (0, (q2.1 + q3.1))]) (h := 46) hT rfl (Nat.le_of_ble_eq_true rfl) rfl) ?_
    refine Eq.trans (x1 (h := 47) hT rfl rfl (by decide)) ?_
    refine Eq.trans (x19 (h := 48) hT rfl) ?_
    refine Eq.trans x19c ?_
    refine xit (fun _ => ?_) (fun _ => ?_)
    · refine Eq.trans (x1 (h := 49) hT rfl rfl (by decide)) ?_
      refine Eq.trans (x0 (h := 50) hT rfl) ?_
      refine Eq.trans (x31 (r := a0) (cl := 11) (as := [(0, 2)]) (st' := []) (h := 51) hT rfl sm_273 rfl ha0) ?_
      refine xbd (fun q4 => ?_)
      rw [rv_273]
      change zB P 307 52 [(2, ((a0 : Nat) : Int)), (0, a1), (0, a2), (0, (q2.1 + q3.1))] [(0, q4.1)] q4.2 = _
      refine Eq.trans (x2 (ls' := [(2, ((a0 : Nat) : Int)), (0, a1), (0, a2), (0, q4.1)]) (h := 52) hT rfl (Nat.le_of_ble_eq_true rfl) rfl) ?_
      refine Eq.trans (x18 (h := 53) hT rfl) ?_
      refine Eq.trans (x1 (h := 68) hT rfl rfl (by decide)) ?_
      refine Eq.trans (x21r (r := a0) (cl := 11) (o := 3) (h := 69) hT rfl ha0 (by decide) rfl) ?_
      refine Eq.trans (x1 (h := 70) hT rfl rfl (by decide)) ?_
      refine Eq.trans (x21r (r := a0) (cl := 11) (o := 59) (h := 71) hT rfl ha0 (by decide) rfl) ?_
      refine Eq.trans (x31 (r := (a0 + 3)) (cl := 9) (as := [(2, (((a0 + 59) : Nat) : Int))]) (st' := []) (h := 72) hT rfl sm_119 rfl (kd_11_1 ha0)) ?_
      refine xbd (fun q5 => ?_)
      rw [rv_119]
      change zB P 307 73 [(2, ((a0 : Nat) : Int)), (0, a1), (0, a2), (0, q4.1)] [] q5.2 = _
      refine Eq.trans (x1 (h := 73) hT rfl rfl (by decide)) ?_
      exact x201 (h := 74) hT rfl
    refine Eq.trans x19c ?_
    refine xit (fun _ => ?_) (fun _ => ?_)
    · refine Eq.trans (x1 (h := 54) hT rfl rfl (by decide)) ?_
      refine Eq.trans (x0 (h := 55) hT rfl) ?_
      refine Eq.trans (x31 (r := a0) (cl := 11) (as := [(0, 3)]) (st' := []) (h := 56) hT rfl sm_273 rfl ha0) ?_
      refine xbd (fun q6 => ?_)
      rw [rv_273]
      change zB P 307 57 [(2, ((a0 : Nat) : Int)), (0, a1), (0, a2), (0, (q2.1 + q3.1))] [(0, q6.1)] q6.2 = _
      refine Eq.trans (x2 (ls' := [(2, ((a0 : Nat) : Int)), (0, a1), (0, a2), (0, q6.1)]) (h := 57) hT rfl (Nat.le_of_ble_eq_true rfl) rfl) ?_
      refine Eq.trans (x18 (h := 58) hT rfl) ?_
      refine Eq.trans (x1 (h := 68) hT rfl rfl (by decide)) ?_
      refine Eq.trans (x21r (r := a0) (cl := 11) (o := 3) (h := 69) hT rfl ha0 (by decide) rfl) ?_
      refine Eq.trans (x1 (h := 70) hT rfl rfl (by decide)) ?_
      refine Eq.trans (x21r (r := a0) (cl := 11) (o := 59) (h := 71) hT rfl ha0 (by decide) rfl) ?_
      refine Eq.trans (x31 (r := (a0 + 3)) (cl := 9) (as := [(2, (((a0 + 59) : Nat) : Int))]) (st' := []) (h := 72) hT rfl sm_119 rfl (kd_11_1 ha0)) ?_
      refine xbd (fun q7 => ?_)
      rw [rv_119]
      change zB P 307 73 [(2, ((a0 : Nat) : Int)), (0, a1), (0, a2), (0, q6.1)] [] q7.2 = _
      refine Eq.trans (x1 (h := 73) hT rfl rfl (by decide)) ?_
      exact x201 (h := 74) hT rfl
    refine Eq.trans x19c ?_
    refine xit (fun _ => ?_) (fun _ => ?_)
    · refine Eq.trans (x1 (h := 59) hT rfl rfl (by decide)) ?_
      refine Eq.trans (x31 (r := a0) (cl := 11) (as := []) (st' := []) (h := 60) hT rfl sm_255 rfl ha0) ?_
      refine xbd (fun q8 => ?_)
      rw [rv_255]
      change zB P 307 61 [(2, ((a0 : Nat) : Int)), (0, a1), (0, a2), (0, (q2.1 + q3.1))] [(0, q8.1)] q8.2 = _
      refine Eq.trans (x2 (ls' := [(2, ((a0 : Nat) : Int)), (0, a1), (0, a2), (0, q8.1)]) (h := 61) hT rfl (Nat.le_of_ble_eq_true rfl) rfl) ?_
      refine Eq.trans (x18 (h := 62) hT rfl) ?_
      refine Eq.trans (x1 (h := 68) hT rfl rfl (by decide)) ?_
      refine Eq.trans (x21r (r := a0) (cl := 11) (o := 3) (h := 69) hT rfl ha0 (by decide) rfl) ?_
      refine Eq.trans (x1 (h := 70) hT rfl rfl (by decide)) ?_
      refine Eq.trans (x21r (r := a0) (cl := 11) (o := 59) (h := 71) hT rfl ha0 (by decide) rfl) ?_
      refine Eq.trans (x31 (r := (a0 + 3)) (cl := 9) (as := [(2, (((a0 + 59) : Nat) : Int))]) (st' := []) (h := 72) hT rfl sm_119 rfl (kd_11_1 ha0)) ?_
      refine xbd (fun q9 => ?_)
      rw [rv_119]
      change zB P 307 73 [(2, ((a0 : Nat) : Int)), (0, a1), (0, a2), (0, q8.1)] [] q9.2 = _
      refine Eq.trans (x1 (h := 73) hT rfl rfl (by decide)) ?_
      exact x201 (h := 74) hT rfl
    refine Eq.trans x19c ?_
    refine xit (fun _ => ?_) (fun _ => ?_)
    · refine Eq.trans (x1 (h := 63) hT rfl rfl (by decide)) ?_
      refine Eq.trans (x0 (h := 64) hT rfl) ?_
      refine Eq.trans (x31 (r := a0) (cl := 11) (as := [(0, 4)]) (st' := []) (h := 65) hT rfl sm_272 rfl ha0) ?_
      refine xbd (fun q10 => ?_)
      rw [rv_272]
      change zB P 307 66 [(2, ((a0 : Nat) : Int)), (0, a1), (0, a2), (0, (q2.1 + q3.1))] [(0, q10.1)] q10.2 = _
      refine Eq.trans (x2 (ls' := [(2, ((a0 : Nat) : Int)), (0, a1), (0, a2), (0, q10.1)]) (h := 66) hT rfl (Nat.le_of_ble_eq_true rfl) rfl) ?_
      refine Eq.trans (x18 (h := 67) hT rfl) ?_
      refine Eq.trans (x1 (h := 68) hT rfl rfl (by decide)) ?_
      refine Eq.trans (x21r (r := a0) (cl := 11) (o := 3) (h := 69) hT rfl ha0 (by decide) rfl) ?_
      refine Eq.trans (x1 (h := 70) hT rfl rfl (by decide)) ?_
      refine Eq.trans (x21r (r := a0) (cl := 11) (o := 59) (h := 71) hT rfl ha0 (by decide) rfl) ?_
      refine Eq.trans (x31 (r := (a0 + 3)) (cl := 9) (as := [(2, (((a0 + 59) : Nat) : Int))]) (st' := []) (h := 72) hT rfl sm_119 rfl (kd_11_1 ha0)) ?_
      refine xbd (fun q11 => ?_)
      rw [rv_119]
      change zB P 307 73 [(2, ((a0 : Nat) : Int)), (0, a1), (0, a2), (0, q10.1)] [] q11.2 = _
      refine Eq.trans (x1 (h := 73) hT rfl rfl (by decide)) ?_
      exact x201 (h := 74) hT rfl
    refine Eq.trans (x1 (h := 68) hT rfl rfl (by decide)) ?_
    refine Eq.trans (x21r (r := a0) (cl := 11) (o := 3) (h := 69) hT rfl ha0 (by decide) rfl) ?_
    refine Eq.trans (x1 (h := 70) hT rfl rfl (by decide)) ?_
    refine Eq.trans (x21r (r := a0) (cl := 11) (o := 59) (h := 71) hT rfl ha0 (by decide) rfl) ?_
    refine Eq.trans (x31 (r := (a0 + 3)) (cl := 9) (as := [(2, (((a0 + 59) : Nat) : Int))]) (st' := []) (h := 72) hT rfl sm_119 rfl (kd_11_1 ha0)) ?_
    refine xbd (fun q12 => ?_)
    rw [rv_119]
    change zB P 307 73 [(2, ((a0 : Nat) : Int)), (0, a1), (0, a2), (0, (q2.1 + q3.1))] [] q12.2 = _
    refine Eq.trans (x1 (h := 73) hT rfl rfl (by decide)) ?_
    exact x201 (h := 74) hT rfl
  · refine Eq.trans (x1 (h := 23) hT rfl rfl (by decide)) ?_
    refine Eq.trans (x21r (r := a0) (cl := 11) (o := 98) (h := 24) hT rfl ha0 (by decide) rfl) ?_
    refine Eq.trans (x1 (h := 25) hT rfl rfl (by decide)) ?_
    refine Eq.trans (x21r (r := a0) (cl := 11) (o := 3) (h := 26) hT rfl ha0 (by decide) rfl) ?_
    refine Eq.trans (x0 (h := 27) hT rfl) ?_
    refine Eq.trans (x31 (r := (a0 + 98)) (cl := 6) (as := [(2, (((a0 + 3) : Nat) : Int)), (0, 0)]) (st' := []) (h := 28) hT rfl sm_270 rfl (kd_11_7 ha0)) ?_
    refine xbd (fun q13 => ?_)
    rw [rv_270]
    change zB P 307 29 [(2, ((a0 : Nat) : Int)), (0, a1), (0, a2), (0, a3)] [] q13.2 = _
    refine Eq.trans (x1 (h := 29) hT rfl rfl (by decide)) ?_
    refine Eq.trans (x21r (r := a0) (cl := 11) (o := 98) (h := 30) hT rfl ha0 (by decide) rfl) ?_
    refine Eq.trans (x1 (h := 31) hT rfl rfl (by decide)) ?_
    refine Eq.trans (x21r (r := a0) (cl := 11) (o := 3) (h := 32) hT rfl ha0 (by decide) rfl) ?_
    refine Eq.trans (x0 (h := 33) hT rfl) ?_
    refine Eq.trans (x31 (r := (a0 + 98)) (cl := 6) (as := [(2, (((a0 + 3) : Nat) : Int)), (0, 1)]) (st' := []) (h := 34) hT rfl sm_270 rfl (kd_11_7 ha0)) ?_
    refine xbd (fun q14 => ?_)
    rw [rv_270]
    change zB P 307 35 [(2, ((a0 : Nat) : Int)), (0, a1), (0, a2), (0, a3)] [] q14.2 = _
    refine Eq.trans (x4 (ls' := [(2, ((a0 : Nat) : Int)), (0, a1), (0, a2), (0, (a3 + 1))]) (h := 35) hT rfl rfl rfl) ?_
    refine Eq.trans (x18 (h := 36) hT rfl) ?_
    exact rfl
/-! WordLinksModel.agreeOf(I)I -/
set_option maxRecDepth 100000 in
theorem e_308 {P : zP} {d : zD P} {a0 : Nat} {a1 : Int} (ha0 : zkd a0 = 12) : MM P 308 [(2, ((a0 : Nat) : Int)), (0, a1)] d = zB P 308 6 [(2, ((a0 : Nat) : Int)), (0, a1), (0, 0), (0, 0), (0, 0), (3, 0)] [] d := by
  have hT := cT_308
  refine Eq.trans (MM_def sm_308 (Nat.le_of_ble_eq_true rfl)) ?_
  change zB P 308 0 [(2, ((a0 : Nat) : Int)), (0, a1), (3, 0), (3, 0), (3, 0), (3, 0)] [] d = _
  refine Eq.trans (x0 (h := 0) hT rfl) ?_
  refine Eq.trans (x2 (ls' := [(2, ((a0 : Nat) : Int)), (0, a1), (0, 0), (3, 0), (3, 0), (3, 0)]) (h := 1) hT rfl (Nat.le_of_ble_eq_true rfl) rfl) ?_
  refine Eq.trans (x0 (h := 2) hT rfl) ?_
  refine Eq.trans (x2 (ls' := [(2, ((a0 : Nat) : Int)), (0, a1), (0, 0), (0, 0), (3, 0), (3, 0)]) (h := 3) hT rfl (Nat.le_of_ble_eq_true rfl) rfl) ?_
  refine Eq.trans (x0 (h := 4) hT rfl) ?_
  refine Eq.trans (x2 (ls' := [(2, ((a0 : Nat) : Int)), (0, a1), (0, 0), (0, 0), (0, 0), (3, 0)]) (h := 5) hT rfl (Nat.le_of_ble_eq_true rfl) rfl) ?_
  exact rfl
set_option maxRecDepth 100000 in
theorem q_308_6 {P : zP} {d : zD P} {a0 : Nat} {a1 : Int} {a2 : Int} {a3 : Int} {a4 : Int} {g5 : zV} (ha0 : zkd a0 = 12) : zB P 308 6 [(2, ((a0 : Nat) : Int)), (0, a1), (0, a2), (0, a3), (0, a4), g5] [] d = (if zin 0 18180 then (if wr ((d.m ((a0 + 1)) (zix 0))) ≤ wr a4 then (if wr a3 ≠ 0 then (if wr a3 ≠ 0 then some ((zdiv 0 ((a2 * 20000)) a3), d) else none) else some (0, d)) else ((MM P 162 [(2, ((a0 : Nat) : Int)), (0, a4)] d).bind fun q3 => (if wr q3.1 ≠ 0 then ((MM P 291 [(2, ((a0 : Nat) : Int)), (0, a1), (0, a4)] q3.2).bind fun q4 => ((MM P 154 [(2, ((a0 : Nat) : Int))] q4.2).bind fun q5 => ((MM P 162 [(2, ((a0 : Nat) : Int)), (0, a4)] q5.2).bind fun q6 => zB P 308 32 [(2, ((a0 : Nat) : Int)), (0, a1), (0, a2), (0, ((a3 + q5.1) + q6.1)), (0, a4), (0, 0)] [] q6.2))) else zB P 308 6 [(2, ((a0 : Nat) : Int)), (0, a1), (0, a2), (0, a3), (0, (a4 + 1)), g5] [] q3.2))) else none) := by
  have hT := cT_308
  refine Eq.trans (x1 (h := 6) hT rfl rfl (by decide)) ?_
  refine Eq.trans (x1 (h := 7) hT rfl rfl (by decide)) ?_
  refine Eq.trans (x21r (r := a0) (cl := 12) (o := 1) (h := 8) hT rfl ha0 (by decide) rfl) ?_
  refine Eq.trans (x0 (h := 9) hT rfl) ?_
  refine Eq.trans (x24 (r := (a0 + 1)) (n := 18180) (h := 10) hT rfl (Or.inl (kd_12_0 ha0)) (ln_12_0 ha0)) ?_
  refine xig (fun hz1 => ?_)
  refine Eq.trans (x17_3 (h := 11) hT rfl) ?_
  refine xit (fun _ => ?_) (fun _ => ?_)
  · refine Eq.trans (x1 (h := 52) hT rfl rfl (by decide)) ?_
    refine Eq.trans (x16_1 (h := 53) hT rfl) ?_
    refine xit (fun _ => ?_) (fun _ => ?_)
    · refine Eq.trans (x1 (h := 56) hT rfl rfl (by decide)) ?_
      refine Eq.trans (x0 (h := 57) hT rfl) ?_
      refine Eq.trans (x5_2 (h := 58) hT rfl) ?_
      refine Eq.trans (x1 (h := 59) hT rfl rfl (by decide)) ?_
      refine Eq.trans (x6 (h := 60) hT rfl) ?_
      refine xig (fun hz2 => ?_)
      exact x201 (h := 61) hT rfl
    · refine Eq.trans (x0 (h := 54) hT rfl) ?_
      refine Eq.trans (x18 (h := 55) hT rfl) ?_
      exact x201 (h := 61) hT rfl
  · refine Eq.trans (x1 (h := 12) hT rfl rfl (by decide)) ?_
    refine Eq.trans (x1 (h := 13) hT rfl rfl (by decide)) ?_
    refine Eq.trans (x31 (r := a0) (cl := 12) (as := [(0, a4)]) (st' := []) (h := 14) hT rfl sm_162 rfl ha0) ?_
    refine xbd (fun q3 => ?_)
    rw [rv_162]
    change zB P 308 15 [(2, ((a0 : Nat) : Int)), (0, a1), (0, a2), (0, a3), (0, a4), g5] [(0, q3.1)] q3.2 = _
    refine Eq.trans (x16_1 (h := 15) hT rfl) ?_
    refine xit (fun _ => ?_) (fun _ => ?_)
    · refine Eq.trans (x1 (h := 17) hT rfl rfl (by decide)) ?_
      refine Eq.trans (x1 (h := 18) hT rfl rfl (by decide)) ?_
      refine Eq.trans (x1 (h := 19) hT rfl rfl (by decide)) ?_
      refine Eq.trans (x31 (r := a0) (cl := 12) (as := [(0, a1), (0, a4)]) (st' := []) (h := 20) hT rfl sm_291 rfl ha0) ?_
      refine xbd (fun q4 => ?_)
      rw [rv_291]
      change zB P 308 21 [(2, ((a0 : Nat) : Int)), (0, a1), (0, a2), (0, a3), (0, a4), g5] [] q4.2 = _
      refine Eq.trans (x1 (h := 21) hT rfl rfl (by decide)) ?_
      refine Eq.trans (x1 (h := 22) hT rfl rfl (by decide)) ?_
      refine Eq.trans (x31 (r := a0) (cl := 12) (as := []) (st' := [(0, a3)]) (h := 23) hT rfl sm_154 rfl ha0) ?_
      refine xbd (fun q5 => ?_)
      rw [rv_154]
      change zB P 308 24 [(2, ((a0 : Nat) : Int)), (0, a1), (0, a2), (0, a3), (0, a4), g5] [(0, q5.1), (0, a3)] q5.2 = _
      refine Eq.trans (x5_0 (h := 24) hT rfl) ?_
      refine Eq.trans (x1 (h := 25) hT rfl rfl (by decide)) ?_
      refine Eq.trans (x1 (h := 26) hT rfl rfl (by decide)) ?_
      refine Eq.trans (x31 (r := a0) (cl := 12) (as := [(0, a4)]) (st' := [(0, (a3 + q5.1))]) (h := 27) hT rfl sm_162 rfl ha0) ?_
      refine xbd (fun q6 => ?_)
      rw [rv_162]
      change zB P 308 28 [(2, ((a0 : Nat) : Int)), (0, a1), (0, a2), (0, a3), (0, a4), g5] [(0, q6.1), (0, (a3 + q5.1))] q6.2 = _
      refine Eq.trans (x5_0 (h := 28) hT rfl) ?_
      refine Eq.trans (x2 (ls' := [(2, ((a0 : Nat) : Int)), (0, a1), (0, a2), (0, ((a3 + q5.1) + q6.1)), (0, a4), g5]) (h := 29) hT rfl (Nat.le_of_ble_eq_true rfl) rfl) ?_
      refine Eq.trans (x0 (h := 30) hT rfl) ?_
      refine Eq.trans (x2 (ls' := [(2, ((a0 : Nat) : Int)), (0, a1), (0, a2), (0, ((a3 + q5.1) + q6.1)), (0, a4), (0, 0)]) (h := 31) hT rfl (Nat.le_of_ble_eq_true rfl) rfl) ?_
      exact rfl
    · refine Eq.trans (x18 (h := 16) hT rfl) ?_
      refine Eq.trans (x4 (ls' := [(2, ((a0 : Nat) : Int)), (0, a1), (0, a2), (0, a3), (0, (a4 + 1)), g5]) (h := 50) hT rfl rfl rfl) ?_
      refine Eq.trans (x18 (h := 51) hT rfl) ?_
      exact rfl
set_option maxRecDepth 100000 in
theorem q_308_32 {P : zP} {d : zD P} {a0 : Nat} {a1 : Int} {a2 : Int} {a3 : Int} {a4 : Int} {a5 : Int} (ha0 : zkd a0 = 12) : zB P 308 32 [(2, ((a0 : Nat) : Int)), (0, a1), (0, a2), (0, a3), (0, a4), (0, a5)] [] d = (if wr 6 ≤ wr a5 then zB P 308 6 [(2, ((a0 : Nat) : Int)), (0, a1), (0, a2), (0, a3), (0, (a4 + 1)), (0, a5)] [] d else (if zin a5 6 then ((MM P 77 [(2, ((a0 : Nat) : Int)), (0, a4), (0, a5)] d).bind fun q8 => ((MM P 73 [(0, (zbin 3 ((d.m ((a0 + 17)) (zix a5))) q8.1))] q8.2).bind fun q9 => zB P 308 32 [(2, ((a0 : Nat) : Int)), (0, a1), (0, (a2 + q9.1)), (0, a3), (0, a4), (0, (a5 + 1))] [] q9.2)) else none)) := by
  have hT := cT_308
  refine Eq.trans (x1 (h := 32) hT rfl rfl (by decide)) ?_
  refine Eq.trans (x0 (h := 33) hT rfl) ?_
  refine Eq.trans (x17_3 (h := 34) hT rfl) ?_
  refine xit (fun _ => ?_) (fun _ => ?_)
  · refine Eq.trans (x4 (ls' := [(2, ((a0 : Nat) : Int)), (0, a1), (0, a2), (0, a3), (0, (a4 + 1)), (0, a5)]) (h := 50) hT rfl rfl rfl) ?_
    refine Eq.trans (x18 (h := 51) hT rfl) ?_
    exact rfl
  · refine Eq.trans (x1 (h := 35) hT rfl rfl (by decide)) ?_
    refine Eq.trans (x1 (h := 36) hT rfl rfl (by decide)) ?_
    refine Eq.trans (x21r (r := a0) (cl := 12) (o := 17) (h := 37) hT rfl ha0 (by decide) rfl) ?_
    refine Eq.trans (x1 (h := 38) hT rfl rfl (by decide)) ?_
    refine Eq.trans (x24 (r := (a0 + 17)) (n := 6) (h := 39) hT rfl (Or.inl (kd_12_24 ha0)) (ln_12_24 ha0)) ?_
    refine xig (fun hz7 => ?_)
    refine Eq.trans (x1 (h := 40) hT rfl rfl (by decide)) ?_
    refine Eq.trans (x1 (h := 41) hT rfl rfl (by decide)) ?_
    refine Eq.trans (x1 (h := 42) hT rfl rfl (by decide)) ?_
    refine Eq.trans (x31 (r := a0) (cl := 12) (as := [(0, a4), (0, a5)]) (st' := [(0, (d.m ((a0 + 17)) (zix a5))), (0, a2)]) (h := 43) hT rfl sm_77 rfl ha0) ?_
    refine xbd (fun q8 => ?_)
    rw [rv_77]
    change zB P 308 44 [(2, ((a0 : Nat) : Int)), (0, a1), (0, a2), (0, a3), (0, a4), (0, a5)] [(0, q8.1), (0, (d.m ((a0 + 17)) (zix a5))), (0, a2)] q8.2 = _
    refine Eq.trans (x5n (h := 44) hT rfl) ?_
    refine Eq.trans (x34 (as := [(0, (zbin 3 ((d.m ((a0 + 17)) (zix a5))) q8.1))]) (st' := [(0, a2)]) (h := 45) hT rfl sm_73 rfl) ?_
    refine xbd (fun q9 => ?_)
    rw [rv_73]
    change zB P 308 46 [(2, ((a0 : Nat) : Int)), (0, a1), (0, a2), (0, a3), (0, a4), (0, a5)] [(0, q9.1), (0, a2)] q9.2 = _
    refine Eq.trans (x5_0 (h := 46) hT rfl) ?_
    refine Eq.trans (x2 (ls' := [(2, ((a0 : Nat) : Int)), (0, a1), (0, (a2 + q9.1)), (0, a3), (0, a4), (0, a5)]) (h := 47) hT rfl (Nat.le_of_ble_eq_true rfl) rfl) ?_
    refine Eq.trans (x4 (ls' := [(2, ((a0 : Nat) : Int)), (0, a1), (0, (a2 + q9.1)), (0, a3), (0, a4), (0, (a5 + 1))]) (h := 48) hT rfl rfl rfl) ?_
    refine Eq.trans (x18 (h := 49) hT rfl) ?_
    exact rfl
/-! WordLinksModel.allLinks(I)I -/
set_option maxRecDepth 100000 in
theorem e_309 {P : zP} {d : zD P} {a0 : Nat} {a1 : Int} (ha0 : zkd a0 = 12) : MM P 309 [(2, ((a0 : Nat) : Int)), (0, a1)] d = zB P 309 4 [(2, ((a0 : Nat) : Int)), (0, a1), (0, 0), (0, 0)] [] d := by
  have hT := cT_309
  refine Eq.trans (MM_def sm_309 (Nat.le_of_ble_eq_true rfl)) ?_
  change zB P 309 0 [(2, ((a0 : Nat) : Int)), (0, a1), (3, 0), (3, 0)] [] d = _
  refine Eq.trans (x0 (h := 0) hT rfl) ?_
  refine Eq.trans (x2 (ls' := [(2, ((a0 : Nat) : Int)), (0, a1), (0, 0), (3, 0)]) (h := 1) hT rfl (Nat.le_of_ble_eq_true rfl) rfl) ?_
  refine Eq.trans (x0 (h := 2) hT rfl) ?_
  refine Eq.trans (x2 (ls' := [(2, ((a0 : Nat) : Int)), (0, a1), (0, 0), (0, 0)]) (h := 3) hT rfl (Nat.le_of_ble_eq_true rfl) rfl) ?_
  exact rfl
set_option maxRecDepth 100000 in
theorem q_309_4 {P : zP} {d : zD P} {a0 : Nat} {a1 : Int} {a2 : Int} {a3 : Int} (ha0 : zkd a0 = 12) : zB P 309 4 [(2, ((a0 : Nat) : Int)), (0, a1), (0, a2), (0, a3)] [] d = (if zin 0 18180 then (if wr ((d.m ((a0 + 1)) (zix 0))) ≤ wr a3 then some (a2, d) else ((MM P 291 [(2, ((a0 : Nat) : Int)), (0, a1), (0, a3)] d).bind fun q2 => ((MM P 154 [(2, ((a0 : Nat) : Int))] q2.2).bind fun q3 => zB P 309 4 [(2, ((a0 : Nat) : Int)), (0, a1), (0, (a2 + q3.1)), (0, (a3 + 1))] [] q3.2))) else none) := by
  have hT := cT_309
  refine Eq.trans (x1 (h := 4) hT rfl rfl (by decide)) ?_
  refine Eq.trans (x1 (h := 5) hT rfl rfl (by decide)) ?_
  refine Eq.trans (x21r (r := a0) (cl := 12) (o := 1) (h := 6) hT rfl ha0 (by decide) rfl) ?_
  refine Eq.trans (x0 (h := 7) hT rfl) ?_
  refine Eq.trans (x24 (r := (a0 + 1)) (n := 18180) (h := 8) hT rfl (Or.inl (kd_12_0 ha0)) (ln_12_0 ha0)) ?_
  refine xig (fun hz1 => ?_)
  refine Eq.trans (x17_3 (h := 9) hT rfl) ?_
  refine xit (fun _ => ?_) (fun _ => ?_)
  · refine Eq.trans (x1 (h := 21) hT rfl rfl (by decide)) ?_
    exact x201 (h := 22) hT rfl
  · refine Eq.trans (x1 (h := 10) hT rfl rfl (by decide)) ?_
    refine Eq.trans (x1 (h := 11) hT rfl rfl (by decide)) ?_
    refine Eq.trans (x1 (h := 12) hT rfl rfl (by decide)) ?_
    refine Eq.trans (x31 (r := a0) (cl := 12) (as := [(0, a1), (0, a3)]) (st' := []) (h := 13) hT rfl sm_291 rfl ha0) ?_
    refine xbd (fun q2 => ?_)
    rw [rv_291]
    change zB P 309 14 [(2, ((a0 : Nat) : Int)), (0, a1), (0, a2), (0, a3)] [] q2.2 = _
    refine Eq.trans (x1 (h := 14) hT rfl rfl (by decide)) ?_
    refine Eq.trans (x1 (h := 15) hT rfl rfl (by decide)) ?_
    refine Eq.trans (x31 (r := a0) (cl := 12) (as := []) (st' := [(0, a2)]) (h := 16) hT rfl sm_154 rfl ha0) ?_
    refine xbd (fun q3 => ?_)
    rw [rv_154]
    change zB P 309 17 [(2, ((a0 : Nat) : Int)), (0, a1), (0, a2), (0, a3)] [(0, q3.1), (0, a2)] q3.2 = _
    refine Eq.trans (x5_0 (h := 17) hT rfl) ?_
    refine Eq.trans (x2 (ls' := [(2, ((a0 : Nat) : Int)), (0, a1), (0, (a2 + q3.1)), (0, a3)]) (h := 18) hT rfl (Nat.le_of_ble_eq_true rfl) rfl) ?_
    refine Eq.trans (x4 (ls' := [(2, ((a0 : Nat) : Int)), (0, a1), (0, (a2 + q3.1)), (0, (a3 + 1))]) (h := 19) hT rfl rfl rfl) ?_
    refine Eq.trans (x18 (h := 20) hT rfl) ?_
    exact rfl
/-! WordLinksModel.check(I)I -/
set_option maxRecDepth 100000 in
theorem e_310 {P : zP} {d : zD P} {a0 : Nat} {a1 : Int} (ha0 : zkd a0 = 12) : MM P 310 [(2, ((a0 : Nat) : Int)), (0, a1)] d = ((MM P 55 [(0, a1), (0, 0), (0, 6)] d).bind fun q1 => (if wr q1.1 = 0 then some ((-2), q1.2) else (if wr a1 ≤ wr ((q1.2.m a0 3)) then (if zin 0 18180 then (if wr ((q1.2.m ((a0 + 1)) (zix 0))) ≠ 0 then ((MM P 60 [(2, ((a0 : Nat) : Int)), (0, 0), (0, 1)] q1.2).bind fun q3 => (if wr q3.1 ≤ 0 then zB P 310 35 [(2, ((a0 : Nat) : Int)), (0, a1), (0, q3.1), (0, (-1)), (0, (a1 - 1))] [] q3.2 else ((MM P 291 [(2, ((a0 : Nat) : Int)), (0, 0), (0, 0)] q3.2).bind fun q4 => zB P 310 35 [(2, ((a0 : Nat) : Int)), (0, a1), (0, q3.1), (0, (-1)), (0, (a1 - 1))] [] q4.2))) else (if wr 0 ≤ 0 then zB P 310 35 [(2, ((a0 : Nat) : Int)), (0, a1), (0, 0), (0, (-1)), (0, (a1 - 1))] [] q1.2 else ((MM P 291 [(2, ((a0 : Nat) : Int)), (0, 0), (0, 0)] q1.2).bind fun q5 => zB P 310 35 [(2, ((a0 : Nat) : Int)), (0, a1), (0, 0), (0, (-1)), (0, (a1 - 1))] [] q5.2))) else none) else some ((-2), q1.2)))) := by
  have hT := cT_310
  refine Eq.trans (MM_def sm_310 (Nat.le_of_ble_eq_true rfl)) ?_
  change zB P 310 0 [(2, ((a0 : Nat) : Int)), (0, a1), (3, 0), (3, 0), (3, 0)] [] d = _
  refine Eq.trans (x1 (h := 0) hT rfl rfl (by decide)) ?_
  refine Eq.trans (x0 (h := 1) hT rfl) ?_
  refine Eq.trans (x0 (h := 2) hT rfl) ?_
  refine Eq.trans (x34 (as := [(0, a1), (0, 0), (0, 6)]) (st' := []) (h := 3) hT rfl sm_55 rfl) ?_
  refine xbd (fun q1 => ?_)
  rw [rv_55]
  change zB P 310 4 [(2, ((a0 : Nat) : Int)), (0, a1), (3, 0), (3, 0), (3, 0)] [(0, q1.1)] q1.2 = _
  refine Eq.trans (x16_0 (h := 4) hT rfl) ?_
  refine xit (fun _ => ?_) (fun _ => ?_)
  · refine Eq.trans (x0 (h := 9) hT rfl) ?_
    exact x201 (h := 10) hT rfl
  · refine Eq.trans (x1 (h := 5) hT rfl rfl (by decide)) ?_
    refine Eq.trans (x1 (h := 6) hT rfl rfl (by decide)) ?_
    refine Eq.trans (x21 (r := a0) (cl := 12) (h := 7) hT rfl ha0) ?_
    refine Eq.trans (x17_5 (h := 8) hT rfl) ?_
    refine xit (fun _ => ?_) (fun _ => ?_)
    · refine Eq.trans (x1 (h := 11) hT rfl rfl (by decide)) ?_
      refine Eq.trans (x21r (r := a0) (cl := 12) (o := 1) (h := 12) hT rfl ha0 (by decide) rfl) ?_
      refine Eq.trans (x0 (h := 13) hT rfl) ?_
      refine Eq.trans (x24 (r := (a0 + 1)) (n := 18180) (h := 14) hT rfl (Or.inl (kd_12_0 ha0)) (ln_12_0 ha0)) ?_
      refine xig (fun hz2 => ?_)
      refine Eq.trans (x16_1 (h := 15) hT rfl) ?_
      refine xit (fun _ => ?_) (fun _ => ?_)
      · refine Eq.trans (x1 (h := 18) hT rfl rfl (by decide)) ?_
        refine Eq.trans (x0 (h := 19) hT rfl) ?_
        refine Eq.trans (x0 (h := 20) hT rfl) ?_
        refine Eq.trans (x31 (r := a0) (cl := 12) (as := [(0, 0), (0, 1)]) (st' := []) (h := 21) hT rfl sm_60 rfl ha0) ?_
        refine xbd (fun q3 => ?_)
        rw [rv_60]
        change zB P 310 22 [(2, ((a0 : Nat) : Int)), (0, a1), (3, 0), (3, 0), (3, 0)] [(0, q3.1)] q3.2 = _
        refine Eq.trans (x2 (ls' := [(2, ((a0 : Nat) : Int)), (0, a1), (0, q3.1), (3, 0), (3, 0)]) (h := 22) hT rfl (Nat.le_of_ble_eq_true rfl) rfl) ?_
        refine Eq.trans (x1 (h := 23) hT rfl rfl (by decide)) ?_
        refine Eq.trans (x16_5 (h := 24) hT rfl) ?_
        refine xit (fun _ => ?_) (fun _ => ?_)
        · refine Eq.trans (x0 (h := 29) hT rfl) ?_
          refine Eq.trans (x2 (ls' := [(2, ((a0 : Nat) : Int)), (0, a1), (0, q3.1), (0, (-1)), (3, 0)]) (h := 30) hT rfl (Nat.le_of_ble_eq_true rfl) rfl) ?_
          refine Eq.trans (x1 (h := 31) hT rfl rfl (by decide)) ?_
          refine Eq.trans (x0 (h := 32) hT rfl) ?_
          refine Eq.trans (x5_1 (h := 33) hT rfl) ?_
          refine Eq.trans (x2 (ls' := [(2, ((a0 : Nat) : Int)), (0, a1), (0, q3.1), (0, (-1)), (0, (a1 - 1))]) (h := 34) hT rfl (Nat.le_of_ble_eq_true rfl) rfl) ?_
          exact rfl
        · refine Eq.trans (x1 (h := 25) hT rfl rfl (by decide)) ?_
          refine Eq.trans (x0 (h := 26) hT rfl) ?_
          refine Eq.trans (x0 (h := 27) hT rfl) ?_
          refine Eq.trans (x31 (r := a0) (cl := 12) (as := [(0, 0), (0, 0)]) (st' := []) (h := 28) hT rfl sm_291 rfl ha0) ?_
          refine xbd (fun q4 => ?_)
          rw [rv_291]
          change zB P 310 29 [(2, ((a0 : Nat) : Int)), (0, a1), (0, q3.1), (3, 0), (3, 0)] [] q4.2 = _
          refine Eq.trans (x0 (h := 29) hT rfl) ?_
          refine Eq.trans (x2 (ls' := [(2, ((a0 : Nat) : Int)), (0, a1), (0, q3.1), (0, (-1)), (3, 0)]) (h := 30) hT rfl (Nat.le_of_ble_eq_true rfl) rfl) ?_
          refine Eq.trans (x1 (h := 31) hT rfl rfl (by decide)) ?_
          refine Eq.trans (x0 (h := 32) hT rfl) ?_
          refine Eq.trans (x5_1 (h := 33) hT rfl) ?_
          refine Eq.trans (x2 (ls' := [(2, ((a0 : Nat) : Int)), (0, a1), (0, q3.1), (0, (-1)), (0, (a1 - 1))]) (h := 34) hT rfl (Nat.le_of_ble_eq_true rfl) rfl) ?_
          exact rfl
      · refine Eq.trans (x0 (h := 16) hT rfl) ?_
        refine Eq.trans (x18 (h := 17) hT rfl) ?_
        refine Eq.trans (x2 (ls' := [(2, ((a0 : Nat) : Int)), (0, a1), (0, 0), (3, 0), (3, 0)]) (h := 22) hT rfl (Nat.le_of_ble_eq_true rfl) rfl) ?_
        refine Eq.trans (x1 (h := 23) hT rfl rfl (by decide)) ?_
        refine Eq.trans (x16_5 (h := 24) hT rfl) ?_
        refine xit (fun _ => ?_) (fun _ => ?_)
        · refine Eq.trans (x0 (h := 29) hT rfl) ?_
          refine Eq.trans (x2 (ls' := [(2, ((a0 : Nat) : Int)), (0, a1), (0, 0), (0, (-1)), (3, 0)]) (h := 30) hT rfl (Nat.le_of_ble_eq_true rfl) rfl) ?_
          refine Eq.trans (x1 (h := 31) hT rfl rfl (by decide)) ?_
          refine Eq.trans (x0 (h := 32) hT rfl) ?_
          refine Eq.trans (x5_1 (h := 33) hT rfl) ?_
          refine Eq.trans (x2 (ls' := [(2, ((a0 : Nat) : Int)), (0, a1), (0, 0), (0, (-1)), (0, (a1 - 1))]) (h := 34) hT rfl (Nat.le_of_ble_eq_true rfl) rfl) ?_
          exact rfl
        · refine Eq.trans (x1 (h := 25) hT rfl rfl (by decide)) ?_
          refine Eq.trans (x0 (h := 26) hT rfl) ?_
          refine Eq.trans (x0 (h := 27) hT rfl) ?_
          refine Eq.trans (x31 (r := a0) (cl := 12) (as := [(0, 0), (0, 0)]) (st' := []) (h := 28) hT rfl sm_291 rfl ha0) ?_
          refine xbd (fun q5 => ?_)
          rw [rv_291]
          change zB P 310 29 [(2, ((a0 : Nat) : Int)), (0, a1), (0, 0), (3, 0), (3, 0)] [] q5.2 = _
          refine Eq.trans (x0 (h := 29) hT rfl) ?_
          refine Eq.trans (x2 (ls' := [(2, ((a0 : Nat) : Int)), (0, a1), (0, 0), (0, (-1)), (3, 0)]) (h := 30) hT rfl (Nat.le_of_ble_eq_true rfl) rfl) ?_
          refine Eq.trans (x1 (h := 31) hT rfl rfl (by decide)) ?_
          refine Eq.trans (x0 (h := 32) hT rfl) ?_
          refine Eq.trans (x5_1 (h := 33) hT rfl) ?_
          refine Eq.trans (x2 (ls' := [(2, ((a0 : Nat) : Int)), (0, a1), (0, 0), (0, (-1)), (0, (a1 - 1))]) (h := 34) hT rfl (Nat.le_of_ble_eq_true rfl) rfl) ?_
          exact rfl
    · refine Eq.trans (x0 (h := 9) hT rfl) ?_
      exact x201 (h := 10) hT rfl
set_option maxRecDepth 100000 in
theorem q_310_35 {P : zP} {d : zD P} {a0 : Nat} {g1 : zV} {a2 : Int} {a3 : Int} {a4 : Int} (ha0 : zkd a0 = 12) : zB P 310 35 [(2, ((a0 : Nat) : Int)), g1, (0, a2), (0, a3), (0, a4)] [] d = (if wr a4 < 0 then some (a3, (d.up a0 3 0)) else (if wr a2 ≤ wr a4 then zB P 310 35 [(2, ((a0 : Nat) : Int)), g1, (0, a2), (0, a4), (0, (a4 + (-1)))] [] d else (if zin a4 240 then ((MM P 153 [(2, ((a0 : Nat) : Int)), (0, a4)] d).bind fun q7 => (if wr ((zbin 3 ((d.m ((a0 + 2)) (zix a4))) 255)) = wr q7.1 then zB P 310 35 [(2, ((a0 : Nat) : Int)), g1, (0, a2), (0, a3), (0, (a4 + (-1)))] [] q7.2 else zB P 310 35 [(2, ((a0 : Nat) : Int)), g1, (0, a2), (0, a4), (0, (a4 + (-1)))] [] q7.2)) else none))) := by
  have hT := cT_310
  refine Eq.trans (x1 (h := 35) hT rfl rfl (by decide)) ?_
  refine Eq.trans (x16_2 (h := 36) hT rfl) ?_
  refine xit (fun _ => ?_) (fun _ => ?_)
  · refine Eq.trans (x1 (h := 54) hT rfl rfl (by decide)) ?_
    refine Eq.trans (x0 (h := 55) hT rfl) ?_
    refine Eq.trans (x22 (r := a0) (cl := 12) (h := 56) hT rfl ha0 (by decide) rfl (by decide)) ?_
    refine Eq.trans (x1 (h := 57) hT rfl rfl (by decide)) ?_
    exact x201 (h := 58) hT rfl
  · refine Eq.trans (x1 (h := 37) hT rfl rfl (by decide)) ?_
    refine Eq.trans (x1 (h := 38) hT rfl rfl (by decide)) ?_
    refine Eq.trans (x17_3 (h := 39) hT rfl) ?_
    refine xit (fun _ => ?_) (fun _ => ?_)
    · refine Eq.trans (x1 (h := 50) hT rfl rfl (by decide)) ?_
      refine Eq.trans (x2 (ls' := [(2, ((a0 : Nat) : Int)), g1, (0, a2), (0, a4), (0, a4)]) (h := 51) hT rfl (Nat.le_of_ble_eq_true rfl) rfl) ?_
      refine Eq.trans (x4 (ls' := [(2, ((a0 : Nat) : Int)), g1, (0, a2), (0, a4), (0, (a4 + (-1)))]) (h := 52) hT rfl rfl rfl) ?_
      refine Eq.trans (x18 (h := 53) hT rfl) ?_
      exact rfl
    · refine Eq.trans (x1 (h := 40) hT rfl rfl (by decide)) ?_
      refine Eq.trans (x21r (r := a0) (cl := 12) (o := 2) (h := 41) hT rfl ha0 (by decide) rfl) ?_
      refine Eq.trans (x1 (h := 42) hT rfl rfl (by decide)) ?_
      refine Eq.trans (x24 (r := (a0 + 2)) (n := 240) (h := 43) hT rfl (Or.inl (kd_12_2 ha0)) (ln_12_2 ha0)) ?_
      refine xig (fun hz6 => ?_)
      refine Eq.trans (x0 (h := 44) hT rfl) ?_
      refine Eq.trans (x5n (h := 45) hT rfl) ?_
      refine Eq.trans (x1 (h := 46) hT rfl rfl (by decide)) ?_
      refine Eq.trans (x1 (h := 47) hT rfl rfl (by decide)) ?_
      refine Eq.trans (x31 (r := a0) (cl := 12) (as := [(0, a4)]) (st' := [(0, (zbin 3 ((d.m ((a0 + 2)) (zix a4))) 255))]) (h := 48) hT rfl sm_153 rfl ha0) ?_
      refine xbd (fun q7 => ?_)
      rw [rv_153]
      change zB P 310 49 [(2, ((a0 : Nat) : Int)), g1, (0, a2), (0, a3), (0, a4)] [(0, q7.1), (0, (zbin 3 ((d.m ((a0 + 2)) (zix a4))) 255))] q7.2 = _
      refine Eq.trans (x17_0 (h := 49) hT rfl) ?_
      refine xit (fun _ => ?_) (fun _ => ?_)
      · refine Eq.trans (x4 (ls' := [(2, ((a0 : Nat) : Int)), g1, (0, a2), (0, a3), (0, (a4 + (-1)))]) (h := 52) hT rfl rfl rfl) ?_
        refine Eq.trans (x18 (h := 53) hT rfl) ?_
        exact rfl
      · refine Eq.trans (x1 (h := 50) hT rfl rfl (by decide)) ?_
        refine Eq.trans (x2 (ls' := [(2, ((a0 : Nat) : Int)), g1, (0, a2), (0, a4), (0, a4)]) (h := 51) hT rfl (Nat.le_of_ble_eq_true rfl) rfl) ?_
        refine Eq.trans (x4 (ls' := [(2, ((a0 : Nat) : Int)), g1, (0, a2), (0, a4), (0, (a4 + (-1)))]) (h := 52) hT rfl rfl rfl) ?_
        refine Eq.trans (x18 (h := 53) hT rfl) ?_
        exact rfl
/-! WordLinksModel.cut(III)I -/
set_option maxRecDepth 100000 in
theorem e_311 {P : zP} {d : zD P} {a0 : Nat} {a1 : Int} {a2 : Int} {a3 : Int} (ha0 : zkd a0 = 12) : MM P 311 [(2, ((a0 : Nat) : Int)), (0, a1), (0, a2), (0, a3)] d = ((MM P 143 [(0, a1)] d).bind fun q1 => (if wr q1.1 = 0 then some ((-1), q1.2) else ((MM P 145 [(2, ((a0 : Nat) : Int)), (0, a2)] q1.2).bind fun q2 => (if wr q2.1 = 0 then some ((-1), q2.2) else ((MM P 55 [(0, a3), (0, 0), (0, 2)] q2.2).bind fun q3 => (if wr q3.1 ≠ 0 then ((MM P 60 [(2, ((a0 : Nat) : Int)), (0, a2), (0, 0)] q3.2).bind fun q4 => ((MM P 60 [(2, ((a0 : Nat) : Int)), (0, a2), (0, 1)] q4.2).bind fun q5 => (if wr q4.1 = wr 1 then some ((-2), q5.2) else (if wr q5.1 ≠ wr 1 then ((MM P 291 [(2, ((a0 : Nat) : Int)), (0, a1), (0, a2)] q5.2).bind fun q6 => zB P 311 44 [(2, ((a0 : Nat) : Int)), (0, a1), (0, a2), (0, a3), (0, q4.1), (0, q5.1), (0, 0), (0, 0), (0, 1000000000), (0, 1), (3, 0), (3, 0)] [] q6.2) else some ((-2), q5.2))))) else some ((-1), q3.2))))))) := by
  have hT := cT_311
  refine Eq.trans (MM_def sm_311 (Nat.le_of_ble_eq_true rfl)) ?_
  change zB P 311 0 [(2, ((a0 : Nat) : Int)), (0, a1), (0, a2), (0, a3), (3, 0), (3, 0), (3, 0), (3, 0), (3, 0), (3, 0), (3, 0), (3, 0)] [] d = _
  refine Eq.trans (x1 (h := 0) hT rfl rfl (by decide)) ?_
  refine Eq.trans (x34 (as := [(0, a1)]) (st' := []) (h := 1) hT rfl sm_143 rfl) ?_
  refine xbd (fun q1 => ?_)
  rw [rv_143]
  change zB P 311 2 [(2, ((a0 : Nat) : Int)), (0, a1), (0, a2), (0, a3), (3, 0), (3, 0), (3, 0), (3, 0), (3, 0), (3, 0), (3, 0), (3, 0)] [(0, q1.1)] q1.2 = _
  refine Eq.trans (x16_0 (h := 2) hT rfl) ?_
  refine xit (fun _ => ?_) (fun _ => ?_)
  · refine Eq.trans (x0 (h := 12) hT rfl) ?_
    exact x201 (h := 13) hT rfl
  · refine Eq.trans (x1 (h := 3) hT rfl rfl (by decide)) ?_
    refine Eq.trans (x1 (h := 4) hT rfl rfl (by decide)) ?_
    refine Eq.trans (x31 (r := a0) (cl := 12) (as := [(0, a2)]) (st' := []) (h := 5) hT rfl sm_145 rfl ha0) ?_
    refine xbd (fun q2 => ?_)
    rw [rv_145]
    change zB P 311 6 [(2, ((a0 : Nat) : Int)), (0, a1), (0, a2), (0, a3), (3, 0), (3, 0), (3, 0), (3, 0), (3, 0), (3, 0), (3, 0), (3, 0)] [(0, q2.1)] q2.2 = _
    refine Eq.trans (x16_0 (h := 6) hT rfl) ?_
    refine xit (fun _ => ?_) (fun _ => ?_)
    · refine Eq.trans (x0 (h := 12) hT rfl) ?_
      exact x201 (h := 13) hT rfl
    · refine Eq.trans (x1 (h := 7) hT rfl rfl (by decide)) ?_
      refine Eq.trans (x0 (h := 8) hT rfl) ?_
      refine Eq.trans (x0 (h := 9) hT rfl) ?_
      refine Eq.trans (x34 (as := [(0, a3), (0, 0), (0, 2)]) (st' := []) (h := 10) hT rfl sm_55 rfl) ?_
      refine xbd (fun q3 => ?_)
      rw [rv_55]
      change zB P 311 11 [(2, ((a0 : Nat) : Int)), (0, a1), (0, a2), (0, a3), (3, 0), (3, 0), (3, 0), (3, 0), (3, 0), (3, 0), (3, 0), (3, 0)] [(0, q3.1)] q3.2 = _
      refine Eq.trans (x16_1 (h := 11) hT rfl) ?_
      refine xit (fun _ => ?_) (fun _ => ?_)
      · refine Eq.trans (x1 (h := 14) hT rfl rfl (by decide)) ?_
        refine Eq.trans (x1 (h := 15) hT rfl rfl (by decide)) ?_
        refine Eq.trans (x0 (h := 16) hT rfl) ?_
        refine Eq.trans (x31 (r := a0) (cl := 12) (as := [(0, a2), (0, 0)]) (st' := []) (h := 17) hT rfl sm_60 rfl ha0) ?_
        refine xbd (fun q4 => ?_)
        rw [rv_60]
        change zB P 311 18 [(2, ((a0 : Nat) : Int)), (0, a1), (0, a2), (0, a3), (3, 0), (3, 0), (3, 0), (3, 0), (3, 0), (3, 0), (3, 0), (3, 0)] [(0, q4.1)] q4.2 = _
        refine Eq.trans (x2 (ls' := [(2, ((a0 : Nat) : Int)), (0, a1), (0, a2), (0, a3), (0, q4.1), (3, 0), (3, 0), (3, 0), (3, 0), (3, 0), (3, 0), (3, 0)]) (h := 18) hT rfl (Nat.le_of_ble_eq_true rfl) rfl) ?_
        refine Eq.trans (x1 (h := 19) hT rfl rfl (by decide)) ?_
        refine Eq.trans (x1 (h := 20) hT rfl rfl (by decide)) ?_
        refine Eq.trans (x0 (h := 21) hT rfl) ?_
        refine Eq.trans (x31 (r := a0) (cl := 12) (as := [(0, a2), (0, 1)]) (st' := []) (h := 22) hT rfl sm_60 rfl ha0) ?_
        refine xbd (fun q5 => ?_)
        rw [rv_60]
        change zB P 311 23 [(2, ((a0 : Nat) : Int)), (0, a1), (0, a2), (0, a3), (0, q4.1), (3, 0), (3, 0), (3, 0), (3, 0), (3, 0), (3, 0), (3, 0)] [(0, q5.1)] q5.2 = _
        refine Eq.trans (x2 (ls' := [(2, ((a0 : Nat) : Int)), (0, a1), (0, a2), (0, a3), (0, q4.1), (0, q5.1), (3, 0), (3, 0), (3, 0), (3, 0), (3, 0), (3, 0)]) (h := 23) hT rfl (Nat.le_of_ble_eq_true rfl) rfl) ?_
        refine Eq.trans (x1 (h := 24) hT rfl rfl (by decide)) ?_
        refine Eq.trans (x0 (h := 25) hT rfl) ?_
        refine Eq.trans (x17_0 (h := 26) hT rfl) ?_
        refine xit (fun _ => ?_) (fun _ => ?_)
        · refine Eq.trans (x0 (h := 30) hT rfl) ?_
          exact x201 (h := 31) hT rfl
        · refine Eq.trans (x1 (h := 27) hT rfl rfl (by decide)) ?_
          refine Eq.trans (x0 (h := 28) hT rfl) ?_
          refine Eq.trans (x17_1 (h := 29) hT rfl) ?_
          refine xit (fun _ => ?_) (fun _ => ?_)
          · refine Eq.trans (x1 (h := 32) hT rfl rfl (by decide)) ?_
            refine Eq.trans (x1 (h := 33) hT rfl rfl (by decide)) ?_
            refine Eq.trans (x1 (h := 34) hT rfl rfl (by decide)) ?_
            refine Eq.trans (x31 (r := a0) (cl := 12) (as := [(0, a1), (0, a2)]) (st' := []) (h := 35) hT rfl sm_291 rfl ha0) ?_
            refine xbd (fun q6 => ?_)
            rw [rv_291]
            change zB P 311 36 [(2, ((a0 : Nat) : Int)), (0, a1), (0, a2), (0, a3), (0, q4.1), (0, q5.1), (3, 0), (3, 0), (3, 0), (3, 0), (3, 0), (3, 0)] [] q6.2 = _
            refine Eq.trans (x0 (h := 36) hT rfl) ?_
            refine Eq.trans (x2 (ls' := [(2, ((a0 : Nat) : Int)), (0, a1), (0, a2), (0, a3), (0, q4.1), (0, q5.1), (0, 0), (3, 0), (3, 0), (3, 0), (3, 0), (3, 0)]) (h := 37) hT rfl (Nat.le_of_ble_eq_true rfl) rfl) ?_
            refine Eq.trans (x0 (h := 38) hT rfl) ?_
            refine Eq.trans (x2 (ls' := [(2, ((a0 : Nat) : Int)), (0, a1), (0, a2), (0, a3), (0, q4.1), (0, q5.1), (0, 0), (0, 0), (3, 0), (3, 0), (3, 0), (3, 0)]) (h := 39) hT rfl (Nat.le_of_ble_eq_true rfl) rfl) ?_
            refine Eq.trans (x0 (h := 40) hT rfl) ?_
            refine Eq.trans (x2 (ls' := [(2, ((a0 : Nat) : Int)), (0, a1), (0, a2), (0, a3), (0, q4.1), (0, q5.1), (0, 0), (0, 0), (0, 1000000000), (3, 0), (3, 0), (3, 0)]) (h := 41) hT rfl (Nat.le_of_ble_eq_true rfl) rfl) ?_
            refine Eq.trans (x0 (h := 42) hT rfl) ?_
            refine Eq.trans (x2 (ls' := [(2, ((a0 : Nat) : Int)), (0, a1), (0, a2), (0, a3), (0, q4.1), (0, q5.1), (0, 0), (0, 0), (0, 1000000000), (0, 1), (3, 0), (3, 0)]) (h := 43) hT rfl (Nat.le_of_ble_eq_true rfl) rfl) ?_
            exact rfl
          · refine Eq.trans (x0 (h := 30) hT rfl) ?_
            exact x201 (h := 31) hT rfl
      · refine Eq.trans (x0 (h := 12) hT rfl) ?_
        exact x201 (h := 13) hT rfl
set_option maxRecDepth 100000 in
theorem q_311_44 {P : zP} {d : zD P} {a0 : Nat} {g1 : zV} {g2 : zV} {a3 : Int} {a4 : Int} {a5 : Int} {a6 : Int} {a7 : Int} {a8 : Int} {a9 : Int} {g10 : zV} {g11 : zV} (ha0 : zkd a0 = 12) : zB P 311 44 [(2, ((a0 : Nat) : Int)), g1, g2, (0, a3), (0, a4), (0, a5), (0, a6), (0, a7), (0, a8), (0, a9), g10, g11] [] d = (if wr a4 ≤ wr a9 then (if wr a3 ≠ 0 then (if wr a3 ≠ wr 1 then some (a8, d) else some (a7, d)) else some (a6, d)) else zB P 311 49 [(2, ((a0 : Nat) : Int)), g1, g2, (0, a3), (0, a4), (0, a5), (0, a6), (0, a7), (0, a8), (0, a9), (0, 1), g11] [] d) := by
  have hT := cT_311
  refine Eq.trans (x1 (h := 44) hT rfl rfl (by decide)) ?_
  refine Eq.trans (x1 (h := 45) hT rfl rfl (by decide)) ?_
  refine Eq.trans (x17_3 (h := 46) hT rfl) ?_
  refine xit (fun _ => ?_) (fun _ => ?_)
  · refine Eq.trans (x1 (h := 80) hT rfl rfl (by decide)) ?_
    refine Eq.trans (x16_1 (h := 81) hT rfl) ?_
    refine xit (fun _ => ?_) (fun _ => ?_)
    · refine Eq.trans (x1 (h := 84) hT rfl rfl (by decide)) ?_
      refine Eq.trans (x0 (h := 85) hT rfl) ?_
      refine Eq.trans (x17_1 (h := 86) hT rfl) ?_
      refine xit (fun _ => ?_) (fun _ => ?_)
      · refine Eq.trans (x1 (h := 89) hT rfl rfl (by decide)) ?_
        exact x201 (h := 90) hT rfl
      · refine Eq.trans (x1 (h := 87) hT rfl rfl (by decide)) ?_
        refine Eq.trans (x18 (h := 88) hT rfl) ?_
        exact x201 (h := 90) hT rfl
    · refine Eq.trans (x1 (h := 82) hT rfl rfl (by decide)) ?_
      refine Eq.trans (x18 (h := 83) hT rfl) ?_
      exact x201 (h := 90) hT rfl
  · refine Eq.trans (x0 (h := 47) hT rfl) ?_
    refine Eq.trans (x2 (ls' := [(2, ((a0 : Nat) : Int)), g1, g2, (0, a3), (0, a4), (0, a5), (0, a6), (0, a7), (0, a8), (0, a9), (0, 1), g11]) (h := 48) hT rfl (Nat.le_of_ble_eq_true rfl) rfl) ?_
    exact rfl
set_option maxRecDepth 100000 in
theorem q_311_49 {P : zP} {d : zD P} {a0 : Nat} {g1 : zV} {g2 : zV} {a3 : Int} {a4 : Int} {a5 : Int} {a6 : Int} {a7 : Int} {a8 : Int} {a9 : Int} {a10 : Int} {g11 : zV} (ha0 : zkd a0 = 12) : zB P 311 49 [(2, ((a0 : Nat) : Int)), g1, g2, (0, a3), (0, a4), (0, a5), (0, a6), (0, a7), (0, a8), (0, a9), (0, a10), g11] [] d = (if wr a5 ≤ wr a10 then zB P 311 44 [(2, ((a0 : Nat) : Int)), g1, g2, (0, a3), (0, a4), (0, a5), (0, a6), (0, a7), (0, a8), (0, (a9 + 1)), (0, a10), g11] [] d else ((MM P 138 [(2, ((a0 : Nat) : Int)), (0, 0), (0, (a4 - 1)), (0, 0), (0, (a5 - 1)), (0, a9), (0, a10), (0, 0)] d).bind fun q7 => (if wr q7.1 < wr a8 then zB P 311 49 [(2, ((a0 : Nat) : Int)), g1, g2, (0, a3), (0, a4), (0, a5), (0, a9), (0, a10), (0, q7.1), (0, a9), (0, (a10 + 1)), (0, q7.1)] [] q7.2 else zB P 311 49 [(2, ((a0 : Nat) : Int)), g1, g2, (0, a3), (0, a4), (0, a5), (0, a6), (0, a7), (0, a8), (0, a9), (0, (a10 + 1)), (0, q7.1)] [] q7.2))) := by
  have hT := cT_311
  refine Eq.trans (x1 (h := 49) hT rfl rfl (by decide)) ?_
  refine Eq.trans (x1 (h := 50) hT rfl rfl (by decide)) ?_
  refine Eq.trans (x17_3 (h := 51) hT rfl) ?_
  refine xit (fun _ => ?_) (fun _ => ?_)
  · refine Eq.trans (x4 (ls' := [(2, ((a0 : Nat) : Int)), g1, g2, (0, a3), (0, a4), (0, a5), (0, a6), (0, a7), (0, a8), (0, (a9 + 1)), (0, a10), g11]) (h := 78) hT rfl rfl rfl) ?_
    refine Eq.trans (x18 (h := 79) hT rfl) ?_
    exact rfl
  · refine Eq.trans (x1 (h := 52) hT rfl rfl (by decide)) ?_
    refine Eq.trans (x0 (h := 53) hT rfl) ?_
    refine Eq.trans (x1 (h := 54) hT rfl rfl (by decide)) ?_
    refine Eq.trans (x0 (h := 55) hT rfl) ?_
    refine Eq.trans (x5_1 (h := 56) hT rfl) ?_
    refine Eq.trans (x0 (h := 57) hT rfl) ?_
    refine Eq.trans (x1 (h := 58) hT rfl rfl (by decide)) ?_
    refine Eq.trans (x0 (h := 59) hT rfl) ?_
    refine Eq.trans (x5_1 (h := 60) hT rfl) ?_
    refine Eq.trans (x1 (h := 61) hT rfl rfl (by decide)) ?_
    refine Eq.trans (x1 (h := 62) hT rfl rfl (by decide)) ?_
    refine Eq.trans (x0 (h := 63) hT rfl) ?_
    refine Eq.trans (x31 (r := a0) (cl := 12) (as := [(0, 0), (0, (a4 - 1)), (0, 0), (0, (a5 - 1)), (0, a9), (0, a10), (0, 0)]) (st' := []) (h := 64) hT rfl sm_138 rfl ha0) ?_
    refine xbd (fun q7 => ?_)
    rw [rv_138]
    change zB P 311 65 [(2, ((a0 : Nat) : Int)), g1, g2, (0, a3), (0, a4), (0, a5), (0, a6), (0, a7), (0, a8), (0, a9), (0, a10), g11] [(0, q7.1)] q7.2 = _
    refine Eq.trans (x2 (ls' := [(2, ((a0 : Nat) : Int)), g1, g2, (0, a3), (0, a4), (0, a5), (0, a6), (0, a7), (0, a8), (0, a9), (0, a10), (0, q7.1)]) (h := 65) hT rfl (Nat.le_of_ble_eq_true rfl) rfl) ?_
    refine Eq.trans (x1 (h := 66) hT rfl rfl (by decide)) ?_
    refine Eq.trans (x1 (h := 67) hT rfl rfl (by decide)) ?_
    refine Eq.trans (x17_2 (h := 68) hT rfl) ?_
    refine xit (fun _ => ?_) (fun _ => ?_)
    · refine Eq.trans (x1 (h := 70) hT rfl rfl (by decide)) ?_
      refine Eq.trans (x2 (ls' := [(2, ((a0 : Nat) : Int)), g1, g2, (0, a3), (0, a4), (0, a5), (0, a6), (0, a7), (0, q7.1), (0, a9), (0, a10), (0, q7.1)]) (h := 71) hT rfl (Nat.le_of_ble_eq_true rfl) rfl) ?_
      refine Eq.trans (x1 (h := 72) hT rfl rfl (by decide)) ?_
      refine Eq.trans (x2 (ls' := [(2, ((a0 : Nat) : Int)), g1, g2, (0, a3), (0, a4), (0, a5), (0, a9), (0, a7), (0, q7.1), (0, a9), (0, a10), (0, q7.1)]) (h := 73) hT rfl (Nat.le_of_ble_eq_true rfl) rfl) ?_
      refine Eq.trans (x1 (h := 74) hT rfl rfl (by decide)) ?_
      refine Eq.trans (x2 (ls' := [(2, ((a0 : Nat) : Int)), g1, g2, (0, a3), (0, a4), (0, a5), (0, a9), (0, a10), (0, q7.1), (0, a9), (0, a10), (0, q7.1)]) (h := 75) hT rfl (Nat.le_of_ble_eq_true rfl) rfl) ?_
      refine Eq.trans (x4 (ls' := [(2, ((a0 : Nat) : Int)), g1, g2, (0, a3), (0, a4), (0, a5), (0, a9), (0, a10), (0, q7.1), (0, a9), (0, (a10 + 1)), (0, q7.1)]) (h := 76) hT rfl rfl rfl) ?_
      refine Eq.trans (x18 (h := 77) hT rfl) ?_
      exact rfl
    · refine Eq.trans (x18 (h := 69) hT rfl) ?_
      refine Eq.trans (x4 (ls' := [(2, ((a0 : Nat) : Int)), g1, g2, (0, a3), (0, a4), (0, a5), (0, a6), (0, a7), (0, a8), (0, a9), (0, (a10 + 1)), (0, q7.1)]) (h := 76) hT rfl rfl rfl) ?_
      refine Eq.trans (x18 (h := 77) hT rfl) ?_
      exact rfl
/-! WordLinksModel.findsPhrases(I)V -/
set_option maxRecDepth 100000 in
theorem e_312 {P : zP} {d : zD P} {a0 : Nat} {a1 : Int} (ha0 : zkd a0 = 12) : MM P 312 [(2, ((a0 : Nat) : Int)), (0, a1)] d = zB P 312 5 [(2, ((a0 : Nat) : Int)), (0, a1), (0, 0), (3, 0), (3, 0), (3, 0), (3, 0)] [] ((d.up a0 30 0)) := by
  have hT := cT_312
  refine Eq.trans (MM_def sm_312 (Nat.le_of_ble_eq_true rfl)) ?_
  change zB P 312 0 [(2, ((a0 : Nat) : Int)), (0, a1), (3, 0), (3, 0), (3, 0), (3, 0), (3, 0)] [] d = _
  refine Eq.trans (x1 (h := 0) hT rfl rfl (by decide)) ?_
  refine Eq.trans (x0 (h := 1) hT rfl) ?_
  refine Eq.trans (x22 (r := a0) (cl := 12) (h := 2) hT rfl ha0 (by decide) rfl (by decide)) ?_
  refine Eq.trans (x0 (h := 3) hT rfl) ?_
  refine Eq.trans (x2 (ls' := [(2, ((a0 : Nat) : Int)), (0, a1), (0, 0), (3, 0), (3, 0), (3, 0), (3, 0)]) (h := 4) hT rfl (Nat.le_of_ble_eq_true rfl) rfl) ?_
  exact rfl
set_option maxRecDepth 100000 in
theorem q_312_5 {P : zP} {d : zD P} {a0 : Nat} {a1 : Int} {a2 : Int} {g3 : zV} {g4 : zV} {g5 : zV} {g6 : zV} (ha0 : zkd a0 = 12) : zB P 312 5 [(2, ((a0 : Nat) : Int)), (0, a1), (0, a2), g3, g4, g5, g6] [] d = (if zin 0 18180 then (if wr ((d.m ((a0 + 1)) (zix 0))) ≤ wr a2 then ((MM P 74 [(2, ((a0 : Nat) : Int))] d).bind fun q2 => zB P 312 98 [(2, ((a0 : Nat) : Int)), (0, a1), (0, 0), (0, 0), g4, g5, g6] [] q2.2) else ((MM P 291 [(2, ((a0 : Nat) : Int)), (0, a1), (0, a2)] d).bind fun q3 => zB P 312 17 [(2, ((a0 : Nat) : Int)), (0, a1), (0, a2), (0, 0), g4, g5, g6] [] q3.2)) else none) := by
  have hT := cT_312
  refine Eq.trans (x1 (h := 5) hT rfl rfl (by decide)) ?_
  refine Eq.trans (x1 (h := 6) hT rfl rfl (by decide)) ?_
  refine Eq.trans (x21r (r := a0) (cl := 12) (o := 1) (h := 7) hT rfl ha0 (by decide) rfl) ?_
  refine Eq.trans (x0 (h := 8) hT rfl) ?_
  refine Eq.trans (x24 (r := (a0 + 1)) (n := 18180) (h := 9) hT rfl (Or.inl (kd_12_0 ha0)) (ln_12_0 ha0)) ?_
  refine xig (fun hz1 => ?_)
  refine Eq.trans (x17_3 (h := 10) hT rfl) ?_
  refine xit (fun _ => ?_) (fun _ => ?_)
  · refine Eq.trans (x1 (h := 92) hT rfl rfl (by decide)) ?_
    refine Eq.trans (x31 (r := a0) (cl := 12) (as := []) (st' := []) (h := 93) hT rfl sm_74 rfl ha0) ?_
    refine xbd (fun q2 => ?_)
    rw [rv_74]
    change zB P 312 94 [(2, ((a0 : Nat) : Int)), (0, a1), (0, a2), g3, g4, g5, g6] [] q2.2 = _
    refine Eq.trans (x0 (h := 94) hT rfl) ?_
    refine Eq.trans (x2 (ls' := [(2, ((a0 : Nat) : Int)), (0, a1), (0, 0), g3, g4, g5, g6]) (h := 95) hT rfl (Nat.le_of_ble_eq_true rfl) rfl) ?_
    refine Eq.trans (x0 (h := 96) hT rfl) ?_
    refine Eq.trans (x2 (ls' := [(2, ((a0 : Nat) : Int)), (0, a1), (0, 0), (0, 0), g4, g5, g6]) (h := 97) hT rfl (Nat.le_of_ble_eq_true rfl) rfl) ?_
    exact rfl
  · refine Eq.trans (x1 (h := 11) hT rfl rfl (by decide)) ?_
    refine Eq.trans (x1 (h := 12) hT rfl rfl (by decide)) ?_
    refine Eq.trans (x1 (h := 13) hT rfl rfl (by decide)) ?_
    refine Eq.trans (x31 (r := a0) (cl := 12) (as := [(0, a1), (0, a2)]) (st' := []) (h := 14) hT rfl sm_291 rfl ha0) ?_
    refine xbd (fun q3 => ?_)
    rw [rv_291]
    change zB P 312 15 [(2, ((a0 : Nat) : Int)), (0, a1), (0, a2), g3, g4, g5, g6] [] q3.2 = _
    refine Eq.trans (x0 (h := 15) hT rfl) ?_
    refine Eq.trans (x2 (ls' := [(2, ((a0 : Nat) : Int)), (0, a1), (0, a2), (0, 0), g4, g5, g6]) (h := 16) hT rfl (Nat.le_of_ble_eq_true rfl) rfl) ?_
    exact rfl
set_option maxRecDepth 100000 in
theorem q_312_98 {P : zP} {d : zD P} {a0 : Nat} {g1 : zV} {a2 : Int} {a3 : Int} {g4 : zV} {g5 : zV} {g6 : zV} (ha0 : zkd a0 = 12) : zB P 312 98 [(2, ((a0 : Nat) : Int)), g1, (0, a2), (0, a3), g4, g5, g6] [] d = (if wr ((d.m a0 30)) ≤ wr a3 then some (0, (d.up a0 30 a2)) else (if wr a2 ≤ 0 then (if zin a3 5400 then (if zin a2 5400 then (if zin a2 5400 then zB P 312 98 [(2, ((a0 : Nat) : Int)), (if (g1).1 = 1 then (3, 0) else g1), (0, (a2 + 1)), (0, (a3 + 1)), g4, g5, g6] [] ((((d.up ((a0 + 21)) (zix a2) ((d.m ((a0 + 21)) (zix a3))))).up ((a0 + 22)) (zix a2) 1)) else none) else none) else none) else (if zin ((a2 - 1)) 5400 then (if zin a3 5400 then (if wrl ((d.m ((a0 + 21)) (zix ((a2 - 1))))) ≠ wrl ((d.m ((a0 + 21)) (zix a3))) then (if zin a3 5400 then (if zin a2 5400 then (if zin a2 5400 then zB P 312 98 [(2, ((a0 : Nat) : Int)), (if (g1).1 = 1 then (3, 0) else g1), (0, (a2 + 1)), (0, (a3 + 1)), g4, g5, g6] [] ((((d.up ((a0 + 21)) (zix a2) ((d.m ((a0 + 21)) (zix a3))))).up ((a0 + 22)) (zix a2) 1)) else none) else none) else none) else (if zin ((a2 - 1)) 5400 then (if zin ((a2 - 1)) 5400 then zB P 312 98 [(2, ((a0 : Nat) : Int)), g1, (0, a2), (0, (a3 + 1)), g4, g5, g6] [] ((d.up ((a0 + 22)) (zix ((a2 - 1))) (((d.m ((a0 + 22)) (zix ((a2 - 1)))) + 1)))) else none) else none)) else none) else none))) := by
  have hT := cT_312
  refine Eq.trans (x1 (h := 98) hT rfl rfl (by decide)) ?_
  refine Eq.trans (x1 (h := 99) hT rfl rfl (by decide)) ?_
  refine Eq.trans (x21 (r := a0) (cl := 12) (h := 100) hT rfl ha0) ?_
  refine Eq.trans (x17_3 (h := 101) hT rfl) ?_
  refine xit (fun _ => ?_) (fun _ => ?_)
  · refine Eq.trans (x1 (h := 150) hT rfl rfl (by decide)) ?_
    refine Eq.trans (x1 (h := 151) hT rfl rfl (by decide)) ?_
    refine Eq.trans (x22 (r := a0) (cl := 12) (h := 152) hT rfl ha0 (by decide) rfl (by decide)) ?_
    exact x20 (h := 153) hT rfl
  · refine Eq.trans (x1 (h := 102) hT rfl rfl (by decide)) ?_
    refine Eq.trans (x16_5 (h := 103) hT rfl) ?_
    refine xit (fun _ => ?_) (fun _ => ?_)
    · refine Eq.trans (x1 (h := 131) hT rfl rfl (by decide)) ?_
      refine Eq.trans (x21r (r := a0) (cl := 12) (o := 21) (h := 132) hT rfl ha0 (by decide) rfl) ?_
      refine Eq.trans (x1 (h := 133) hT rfl rfl (by decide)) ?_
      refine Eq.trans (x1 (h := 134) hT rfl rfl (by decide)) ?_
      refine Eq.trans (x21r (r := a0) (cl := 12) (o := 21) (h := 135) hT rfl ha0 (by decide) rfl) ?_
      refine Eq.trans (x1 (h := 136) hT rfl rfl (by decide)) ?_
      refine Eq.trans (x24 (r := (a0 + 21)) (n := 5400) (h := 137) hT rfl (Or.inl (kd_12_28 ha0)) (ln_12_28 ha0)) ?_
      refine xig (fun hz4 => ?_)
      refine Eq.trans (x25a (r := (a0 + 21)) (n := 5400) (h := 138) hT rfl (kd_12_28 ha0) (ln_12_28 ha0) (by decide) rfl) ?_
      refine xig (fun hz5 => ?_)
      refine Eq.trans (x1 (h := 139) hT rfl rfl (by decide)) ?_
      refine Eq.trans (x21r (r := a0) (cl := 12) (o := 22) (h := 140) hT rfl ha0 (by decide) rfl) ?_
      refine Eq.trans (x1 (h := 141) hT rfl rfl (by decide)) ?_
      refine Eq.trans (x0 (h := 142) hT rfl) ?_
      refine Eq.trans (x25a (r := (a0 + 22)) (n := 5400) (h := 143) hT rfl (kd_12_29 ha0) (ln_12_29 ha0) (by decide) rfl) ?_
      refine xig (fun hz6 => ?_)
      refine Eq.trans (x1 (h := 144) hT rfl rfl (by decide)) ?_
      refine Eq.trans (x0 (h := 145) hT rfl) ?_
      refine Eq.trans (x5_0 (h := 146) hT rfl) ?_
      refine Eq.trans (x2 (ls' := [(2, ((a0 : Nat) : Int)), (if (g1).1 = 1 then (3, 0) else g1), (0, (a2 + 1)), (0, a3), g4, g5, g6]) (h := 147) hT rfl (Nat.le_of_ble_eq_true rfl) rfl) ?_
      refine Eq.trans (x4 (ls' := [(2, ((a0 : Nat) : Int)), (if (g1).1 = 1 then (3, 0) else g1), (0, (a2 + 1)), (0, (a3 + 1)), g4, g5, g6]) (h := 148) hT rfl rfl rfl) ?_
      refine Eq.trans (x18 (h := 149) hT rfl) ?_
      exact rfl
    · refine Eq.trans (x1 (h := 104) hT rfl rfl (by decide)) ?_
      refine Eq.trans (x21r (r := a0) (cl := 12) (o := 21) (h := 105) hT rfl ha0 (by decide) rfl) ?_
      refine Eq.trans (x1 (h := 106) hT rfl rfl (by decide)) ?_
      refine Eq.trans (x0 (h := 107) hT rfl) ?_
      refine Eq.trans (x5_1 (h := 108) hT rfl) ?_
      refine Eq.trans (x24 (r := (a0 + 21)) (n := 5400) (h := 109) hT rfl (Or.inl (kd_12_28 ha0)) (ln_12_28 ha0)) ?_
      refine xig (fun hz7 => ?_)
      refine Eq.trans (x1 (h := 110) hT rfl rfl (by decide)) ?_
      refine Eq.trans (x21r (r := a0) (cl := 12) (o := 21) (h := 111) hT rfl ha0 (by decide) rfl) ?_
      refine Eq.trans (x1 (h := 112) hT rfl rfl (by decide)) ?_
      refine Eq.trans (x24 (r := (a0 + 21)) (n := 5400) (h := 113) hT rfl (Or.inl (kd_12_28 ha0)) (ln_12_28 ha0)) ?_
      refine xig (fun hz8 => ?_)
      refine Eq.trans (x116_1 (h := 114) hT rfl rfl) ?_
      refine xit (fun _ => ?_) (fun _ => ?_)
      · refine Eq.trans (x1 (h := 131) hT rfl rfl (by decide)) ?_
        refine Eq.trans (x21r (r := a0) (cl := 12) (o := 21) (h := 132) hT rfl ha0 (by decide) rfl) ?_
        refine Eq.trans (x1 (h := 133) hT rfl rfl (by decide)) ?_
        refine Eq.trans (x1 (h := 134) hT rfl rfl (by decide)) ?_
        refine Eq.trans (x21r (r := a0) (cl := 12) (o := 21) (h := 135) hT rfl ha0 (by decide) rfl) ?_
        refine Eq.trans (x1 (h := 136) hT rfl rfl (by decide)) ?_
        refine Eq.trans (x24 (r := (a0 + 21)) (n := 5400) (h := 137) hT rfl (Or.inl (kd_12_28 ha0)) (ln_12_28 ha0)) ?_
        refine xig (fun hz9 => ?_)
        refine Eq.trans (x25a (r := (a0 + 21)) (n := 5400) (h := 138) hT rfl (kd_12_28 ha0) (ln_12_28 ha0) (by decide) rfl) ?_
        refine xig (fun hz10 => ?_)
        refine Eq.trans (x1 (h := 139) hT rfl rfl (by decide)) ?_
        refine Eq.trans (x21r (r := a0) (cl := 12) (o := 22) (h := 140) hT rfl ha0 (by decide) rfl) ?_
        refine Eq.trans (x1 (h := 141) hT rfl rfl (by decide)) ?_
        refine Eq.trans (x0 (h := 142) hT rfl) ?_
        refine Eq.trans (x25a (r := (a0 + 22)) (n := 5400) (h := 143) hT rfl (kd_12_29 ha0) (ln_12_29 ha0) (by decide) rfl) ?_
        refine xig (fun hz11 => ?_)
        refine Eq.trans (x1 (h := 144) hT rfl rfl (by decide)) ?_
        refine Eq.trans (x0 (h := 145) hT rfl) ?_
        refine Eq.trans (x5_0 (h := 146) hT rfl) ?_
        refine Eq.trans (x2 (ls' := [(2, ((a0 : Nat) : Int)), (if (g1).1 = 1 then (3, 0) else g1), (0, (a2 + 1)), (0, a3), g4, g5, g6]) (h := 147) hT rfl (Nat.le_of_ble_eq_true rfl) rfl) ?_
        refine Eq.trans (x4 (ls' := [(2, ((a0 : Nat) : Int)), (if (g1).1 = 1 then (3, 0) else g1), (0, (a2 + 1)), (0, (a3 + 1)), g4, g5, g6]) (h := 148) hT rfl rfl rfl) ?_
        refine Eq.trans (x18 (h := 149) hT rfl) ?_
        exact rfl
      · refine Eq.trans (x1 (h := 116) hT rfl rfl (by decide)) ?_
        refine Eq.trans (x21r (r := a0) (cl := 12) (o := 22) (h := 117) hT rfl ha0 (by decide) rfl) ?_
        refine Eq.trans (x1 (h := 118) hT rfl rfl (by decide)) ?_
        refine Eq.trans (x0 (h := 119) hT rfl) ?_
        refine Eq.trans (x5_1 (h := 120) hT rfl) ?_
        refine Eq.trans (x1 (h := 121) hT rfl rfl (by decide)) ?_
        refine Eq.trans (x21r (r := a0) (cl := 12) (o := 22) (h := 122) hT rfl ha0 (by decide) rfl) ?_
        refine Eq.trans (x1 (h := 123) hT rfl rfl (by decide)) ?_
        refine Eq.trans (x0 (h := 124) hT rfl) ?_
        refine Eq.trans (x5_1 (h := 125) hT rfl) ?_
        refine Eq.trans (x24 (r := (a0 + 22)) (n := 5400) (h := 126) hT rfl (Or.inl (kd_12_29 ha0)) (ln_12_29 ha0)) ?_
        refine xig (fun hz12 => ?_)
        refine Eq.trans (x0 (h := 127) hT rfl) ?_
        refine Eq.trans (x5_0 (h := 128) hT rfl) ?_
        refine Eq.trans (x25a (r := (a0 + 22)) (n := 5400) (h := 129) hT rfl (kd_12_29 ha0) (ln_12_29 ha0) (by decide) rfl) ?_
        refine xig (fun hz13 => ?_)
        refine Eq.trans (x18 (h := 130) hT rfl) ?_
        refine Eq.trans (x4 (ls' := [(2, ((a0 : Nat) : Int)), g1, (0, a2), (0, (a3 + 1)), g4, g5, g6]) (h := 148) hT rfl rfl rfl) ?_
        refine Eq.trans (x18 (h := 149) hT rfl) ?_
        exact rfl
set_option maxRecDepth 100000 in
theorem q_312_17 {P : zP} {d : zD P} {a0 : Nat} {a1 : Int} {a2 : Int} {a3 : Int} {g4 : zV} {g5 : zV} {g6 : zV} (ha0 : zkd a0 = 12) : zB P 312 17 [(2, ((a0 : Nat) : Int)), (0, a1), (0, a2), (0, a3), g4, g5, g6] [] d = ((MM P 60 [(2, ((a0 : Nat) : Int)), (0, a2), (0, 0)] d).bind fun q14 => (if wr q14.1 ≤ wr a3 then zB P 312 5 [(2, ((a0 : Nat) : Int)), (0, a1), (0, (a2 + 1)), (0, a3), g4, g5, g6] [] q14.2 else zB P 312 25 [(2, ((a0 : Nat) : Int)), (0, a1), (0, a2), (0, a3), (0, a3), g5, g6] [] q14.2)) := by
  have hT := cT_312
  refine Eq.trans (x1 (h := 17) hT rfl rfl (by decide)) ?_
  refine Eq.trans (x1 (h := 18) hT rfl rfl (by decide)) ?_
  refine Eq.trans (x1 (h := 19) hT rfl rfl (by decide)) ?_
  refine Eq.trans (x0 (h := 20) hT rfl) ?_
  refine Eq.trans (x31 (r := a0) (cl := 12) (as := [(0, a2), (0, 0)]) (st' := [(0, a3)]) (h := 21) hT rfl sm_60 rfl ha0) ?_
  refine xbd (fun q14 => ?_)
  rw [rv_60]
  change zB P 312 22 [(2, ((a0 : Nat) : Int)), (0, a1), (0, a2), (0, a3), g4, g5, g6] [(0, q14.1), (0, a3)] q14.2 = _
  refine Eq.trans (x17_3 (h := 22) hT rfl) ?_
  refine xit (fun _ => ?_) (fun _ => ?_)
  · refine Eq.trans (x4 (ls' := [(2, ((a0 : Nat) : Int)), (0, a1), (0, (a2 + 1)), (0, a3), g4, g5, g6]) (h := 90) hT rfl rfl rfl) ?_
    refine Eq.trans (x18 (h := 91) hT rfl) ?_
    exact rfl
  · refine Eq.trans (x1 (h := 23) hT rfl rfl (by decide)) ?_
    refine Eq.trans (x2 (ls' := [(2, ((a0 : Nat) : Int)), (0, a1), (0, a2), (0, a3), (0, a3), g5, g6]) (h := 24) hT rfl (Nat.le_of_ble_eq_true rfl) rfl) ?_
    exact rfl
set_option maxRecDepth 100000 in
theorem q_312_25 {P : zP} {d : zD P} {a0 : Nat} {a1 : Int} {a2 : Int} {a3 : Int} {a4 : Int} {g5 : zV} {g6 : zV} (ha0 : zkd a0 = 12) : zB P 312 25 [(2, ((a0 : Nat) : Int)), (0, a1), (0, a2), (0, a3), (0, a4), g5, g6] [] d = ((MM P 60 [(2, ((a0 : Nat) : Int)), (0, a2), (0, 0)] d).bind fun q15 => ((MM P 62 [(0, (a3 + 3)), (0, q15.1)] q15.2).bind fun q16 => (if wr q16.1 ≤ wr a4 then zB P 312 17 [(2, ((a0 : Nat) : Int)), (0, a1), (0, a2), (0, (a3 + 1)), (0, a4), g5, g6] [] q16.2 else zB P 312 37 [(2, ((a0 : Nat) : Int)), (0, a1), (0, a2), (0, a3), (0, a4), (0, 0), g6] [] q16.2))) := by
  have hT := cT_312
  refine Eq.trans (x1 (h := 25) hT rfl rfl (by decide)) ?_
  refine Eq.trans (x1 (h := 26) hT rfl rfl (by decide)) ?_
  refine Eq.trans (x0 (h := 27) hT rfl) ?_
  refine Eq.trans (x5_0 (h := 28) hT rfl) ?_
  refine Eq.trans (x1 (h := 29) hT rfl rfl (by decide)) ?_
  refine Eq.trans (x1 (h := 30) hT rfl rfl (by decide)) ?_
  refine Eq.trans (x0 (h := 31) hT rfl) ?_
  refine Eq.trans (x31 (r := a0) (cl := 12) (as := [(0, a2), (0, 0)]) (st' := [(0, (a3 + 3)), (0, a4)]) (h := 32) hT rfl sm_60 rfl ha0) ?_
  refine xbd (fun q15 => ?_)
  rw [rv_60]
  change zB P 312 33 [(2, ((a0 : Nat) : Int)), (0, a1), (0, a2), (0, a3), (0, a4), g5, g6] [(0, q15.1), (0, (a3 + 3)), (0, a4)] q15.2 = _
  refine Eq.trans (x34 (as := [(0, (a3 + 3)), (0, q15.1)]) (st' := [(0, a4)]) (h := 33) hT rfl sm_62 rfl) ?_
  refine xbd (fun q16 => ?_)
  rw [rv_62]
  change zB P 312 34 [(2, ((a0 : Nat) : Int)), (0, a1), (0, a2), (0, a3), (0, a4), g5, g6] [(0, q16.1), (0, a4)] q16.2 = _
  refine Eq.trans (x17_3 (h := 34) hT rfl) ?_
  refine xit (fun _ => ?_) (fun _ => ?_)
  · refine Eq.trans (x4 (ls' := [(2, ((a0 : Nat) : Int)), (0, a1), (0, a2), (0, (a3 + 1)), (0, a4), g5, g6]) (h := 88) hT rfl rfl rfl) ?_
    refine Eq.trans (x18 (h := 89) hT rfl) ?_
    exact rfl
  · refine Eq.trans (x0 (h := 35) hT rfl) ?_
    refine Eq.trans (x2 (ls' := [(2, ((a0 : Nat) : Int)), (0, a1), (0, a2), (0, a3), (0, a4), (0, 0), g6]) (h := 36) hT rfl (Nat.le_of_ble_eq_true rfl) rfl) ?_
    exact rfl
set_option maxRecDepth 100000 in
theorem q_312_37 {P : zP} {d : zD P} {a0 : Nat} {a1 : Int} {a2 : Int} {a3 : Int} {a4 : Int} {a5 : Int} {g6 : zV} (ha0 : zkd a0 = 12) : zB P 312 37 [(2, ((a0 : Nat) : Int)), (0, a1), (0, a2), (0, a3), (0, a4), (0, a5), g6] [] d = ((MM P 60 [(2, ((a0 : Nat) : Int)), (0, a2), (0, 1)] d).bind fun q17 => (if wr q17.1 ≤ wr a5 then zB P 312 25 [(2, ((a0 : Nat) : Int)), (0, a1), (0, a2), (0, a3), (0, (a4 + 1)), (0, a5), g6] [] q17.2 else zB P 312 45 [(2, ((a0 : Nat) : Int)), (0, a1), (0, a2), (0, a3), (0, a4), (0, a5), (0, a5)] [] q17.2)) := by
  have hT := cT_312
  refine Eq.trans (x1 (h := 37) hT rfl rfl (by decide)) ?_
  refine Eq.trans (x1 (h := 38) hT rfl rfl (by decide)) ?_
  refine Eq.trans (x1 (h := 39) hT rfl rfl (by decide)) ?_
  refine Eq.trans (x0 (h := 40) hT rfl) ?_
  refine Eq.trans (x31 (r := a0) (cl := 12) (as := [(0, a2), (0, 1)]) (st' := [(0, a5)]) (h := 41) hT rfl sm_60 rfl ha0) ?_
  refine xbd (fun q17 => ?_)
  rw [rv_60]
  change zB P 312 42 [(2, ((a0 : Nat) : Int)), (0, a1), (0, a2), (0, a3), (0, a4), (0, a5), g6] [(0, q17.1), (0, a5)] q17.2 = _
  refine Eq.trans (x17_3 (h := 42) hT rfl) ?_
  refine xit (fun _ => ?_) (fun _ => ?_)
  · refine Eq.trans (x4 (ls' := [(2, ((a0 : Nat) : Int)), (0, a1), (0, a2), (0, a3), (0, (a4 + 1)), (0, a5), g6]) (h := 86) hT rfl rfl rfl) ?_
    refine Eq.trans (x18 (h := 87) hT rfl) ?_
    exact rfl
  · refine Eq.trans (x1 (h := 43) hT rfl rfl (by decide)) ?_
    refine Eq.trans (x2 (ls' := [(2, ((a0 : Nat) : Int)), (0, a1), (0, a2), (0, a3), (0, a4), (0, a5), (0, a5)]) (h := 44) hT rfl (Nat.le_of_ble_eq_true rfl) rfl) ?_
    exact rfl
set_option maxRecDepth 100000 in
theorem q_312_45 {P : zP} {d : zD P} {a0 : Nat} {a1 : Int} {a2 : Int} {a3 : Int} {a4 : Int} {a5 : Int} {a6 : Int} (ha0 : zkd a0 = 12) : zB P 312 45 [(2, ((a0 : Nat) : Int)), (0, a1), (0, a2), (0, a3), (0, a4), (0, a5), (0, a6)] [] d = ((MM P 60 [(2, ((a0 : Nat) : Int)), (0, a2), (0, 1)] d).bind fun q18 => ((MM P 62 [(0, (a5 + 3)), (0, q18.1)] q18.2).bind fun q19 => (if wr q19.1 ≤ wr a6 then zB P 312 37 [(2, ((a0 : Nat) : Int)), (0, a1), (0, a2), (0, a3), (0, a4), (0, (a5 + 1)), (0, a6)] [] q19.2 else ((MM P 140 [(2, ((a0 : Nat) : Int)), (0, a2), (0, a3), (0, a4), (0, a5), (0, a6)] q19.2).bind fun q20 => (if wr q20.1 = 0 then zB P 312 45 [(2, ((a0 : Nat) : Int)), (0, a1), (0, a2), (0, a3), (0, a4), (0, a5), (0, (a6 + 1))] [] q20.2 else ((MM P 159 [(2, ((a0 : Nat) : Int)), (0, a2), (0, 0), (0, a3), (0, a4)] q20.2).bind fun q21 => ((MM P 159 [(2, ((a0 : Nat) : Int)), (0, a2), (0, 1), (0, a5), (0, a6)] q21.2).bind fun q22 => ((MM P 56 [(2, ((a0 : Nat) : Int)), (1, ((68921 * (wr q21.1)) + (wr q22.1)))] q22.2).bind fun q23 => zB P 312 45 [(2, ((a0 : Nat) : Int)), (0, a1), (0, a2), (0, a3), (0, a4), (0, a5), (0, (a6 + 1))] [] q23.2)))))))) := by
  have hT := cT_312
  refine Eq.trans (x1 (h := 45) hT rfl rfl (by decide)) ?_
  refine Eq.trans (x1 (h := 46) hT rfl rfl (by decide)) ?_
  refine Eq.trans (x0 (h := 47) hT rfl) ?_
  refine Eq.trans (x5_0 (h := 48) hT rfl) ?_
  refine Eq.trans (x1 (h := 49) hT rfl rfl (by decide)) ?_
  refine Eq.trans (x1 (h := 50) hT rfl rfl (by decide)) ?_
  refine Eq.trans (x0 (h := 51) hT rfl) ?_
  refine Eq.trans (x31 (r := a0) (cl := 12) (as := [(0, a2), (0, 1)]) (st' := [(0, (a5 + 3)), (0, a6)]) (h := 52) hT rfl sm_60 rfl ha0) ?_
  refine xbd (fun q18 => ?_)
  rw [rv_60]
  change zB P 312 53 [(2, ((a0 : Nat) : Int)), (0, a1), (0, a2), (0, a3), (0, a4), (0, a5), (0, a6)] [(0, q18.1), (0, (a5 + 3)), (0, a6)] q18.2 = _
  refine Eq.trans (x34 (as := [(0, (a5 + 3)), (0, q18.1)]) (st' := [(0, a6)]) (h := 53) hT rfl sm_62 rfl) ?_
  refine xbd (fun q19 => ?_)
  rw [rv_62]
  change zB P 312 54 [(2, ((a0 : Nat) : Int)), (0, a1), (0, a2), (0, a3), (0, a4), (0, a5), (0, a6)] [(0, q19.1), (0, a6)] q19.2 = _
  refine Eq.trans (x17_3 (h := 54) hT rfl) ?_
  refine xit (fun _ => ?_) (fun _ => ?_)
  · refine Eq.trans (x4 (ls' := [(2, ((a0 : Nat) : Int)), (0, a1), (0, a2), (0, a3), (0, a4), (0, (a5 + 1)), (0, a6)]) (h := 84) hT rfl rfl rfl) ?_
    refine Eq.trans (x18 (h := 85) hT rfl) ?_
    exact rfl
  · refine Eq.trans (x1 (h := 55) hT rfl rfl (by decide)) ?_
    refine Eq.trans (x1 (h := 56) hT rfl rfl (by decide)) ?_
    refine Eq.trans (x1 (h := 57) hT rfl rfl (by decide)) ?_
    refine Eq.trans (x1 (h := 58) hT rfl rfl (by decide)) ?_
    refine Eq.trans (x1 (h := 59) hT rfl rfl (by decide)) ?_
    refine Eq.trans (x1 (h := 60) hT rfl rfl (by decide)) ?_
    refine Eq.trans (x31 (r := a0) (cl := 12) (as := [(0, a2), (0, a3), (0, a4), (0, a5), (0, a6)]) (st' := []) (h := 61) hT rfl sm_140 rfl ha0) ?_
    refine xbd (fun q20 => ?_)
    rw [rv_140]
    change zB P 312 62 [(2, ((a0 : Nat) : Int)), (0, a1), (0, a2), (0, a3), (0, a4), (0, a5), (0, a6)] [(0, q20.1)] q20.2 = _
    refine Eq.trans (x16_0 (h := 62) hT rfl) ?_
    refine xit (fun _ => ?_) (fun _ => ?_)
    · refine Eq.trans (x4 (ls' := [(2, ((a0 : Nat) : Int)), (0, a1), (0, a2), (0, a3), (0, a4), (0, a5), (0, (a6 + 1))]) (h := 82) hT rfl rfl rfl) ?_
      refine Eq.trans (x18 (h := 83) hT rfl) ?_
      exact rfl
    · refine Eq.trans (x1 (h := 63) hT rfl rfl (by decide)) ?_
      refine Eq.trans (x0 (h := 64) hT rfl) ?_
      refine Eq.trans (x1 (h := 65) hT rfl rfl (by decide)) ?_
      refine Eq.trans (x1 (h := 66) hT rfl rfl (by decide)) ?_
      refine Eq.trans (x0 (h := 67) hT rfl) ?_
      refine Eq.trans (x1 (h := 68) hT rfl rfl (by decide)) ?_
      refine Eq.trans (x1 (h := 69) hT rfl rfl (by decide)) ?_
      refine Eq.trans (x31 (r := a0) (cl := 12) (as := [(0, a2), (0, 0), (0, a3), (0, a4)]) (st' := [(1, 68921), (2, ((a0 : Nat) : Int))]) (h := 70) hT rfl sm_159 rfl ha0) ?_
      refine xbd (fun q21 => ?_)
      rw [rv_159]
      change zB P 312 71 [(2, ((a0 : Nat) : Int)), (0, a1), (0, a2), (0, a3), (0, a4), (0, a5), (0, a6)] [(0, q21.1), (1, 68921), (2, ((a0 : Nat) : Int))] q21.2 = _
      refine Eq.trans (x12 (h := 71) hT rfl) ?_
      refine Eq.trans (x8_2 (h := 72) hT rfl) ?_
      refine Eq.trans (x1 (h := 73) hT rfl rfl (by decide)) ?_
      refine Eq.trans (x1 (h := 74) hT rfl rfl (by decide)) ?_
      refine Eq.trans (x0 (h := 75) hT rfl) ?_
      refine Eq.trans (x1 (h := 76) hT rfl rfl (by decide)) ?_
      refine Eq.trans (x1 (h := 77) hT rfl rfl (by decide)) ?_
      refine Eq.trans (x31 (r := a0) (cl := 12) (as := [(0, a2), (0, 1), (0, a5), (0, a6)]) (st' := [(1, (68921 * (wr q21.1))), (2, ((a0 : Nat) : Int))]) (h := 78) hT rfl sm_159 rfl ha0) ?_
      refine xbd (fun q22 => ?_)
      rw [rv_159]
      change zB P 312 79 [(2, ((a0 : Nat) : Int)), (0, a1), (0, a2), (0, a3), (0, a4), (0, a5), (0, a6)] [(0, q22.1), (1, (68921 * (wr q21.1))), (2, ((a0 : Nat) : Int))] q22.2 = _
      refine Eq.trans (x12 (h := 79) hT rfl) ?_
      refine Eq.trans (x8_0 (h := 80) hT rfl) ?_
      refine Eq.trans (x31 (r := a0) (cl := 12) (as := [(1, ((68921 * (wr q21.1)) + (wr q22.1)))]) (st' := []) (h := 81) hT rfl sm_56 rfl ha0) ?_
      refine xbd (fun q23 => ?_)
      rw [rv_56]
      change zB P 312 82 [(2, ((a0 : Nat) : Int)), (0, a1), (0, a2), (0, a3), (0, a4), (0, a5), (0, a6)] [] q23.2 = _
      refine Eq.trans (x4 (ls' := [(2, ((a0 : Nat) : Int)), (0, a1), (0, a2), (0, a3), (0, a4), (0, a5), (0, (a6 + 1))]) (h := 82) hT rfl rfl rfl) ?_
      refine Eq.trans (x18 (h := 83) hT rfl) ?_
      exact rfl
/-! WordLinksModel.joinsAll(Z)I -/
set_option maxRecDepth 100000 in
theorem e_313 {P : zP} {d : zD P} {a0 : Nat} {a1 : Int} (ha0 : zkd a0 = 12) : MM P 313 [(2, ((a0 : Nat) : Int)), (0, a1)] d = zB P 313 8 [(2, ((a0 : Nat) : Int)), (0, a1), (0, 0), (0, 0), (0, 0), (0, 0), (3, 0), (3, 0), (3, 0)] [] d := by
  have hT := cT_313
  refine Eq.trans (MM_def sm_313 (Nat.le_of_ble_eq_true rfl)) ?_
  change zB P 313 0 [(2, ((a0 : Nat) : Int)), (0, a1), (3, 0), (3, 0), (3, 0), (3, 0), (3, 0), (3, 0), (3, 0)] [] d = _
  refine Eq.trans (x0 (h := 0) hT rfl) ?_
  refine Eq.trans (x2 (ls' := [(2, ((a0 : Nat) : Int)), (0, a1), (0, 0), (3, 0), (3, 0), (3, 0), (3, 0), (3, 0), (3, 0)]) (h := 1) hT rfl (Nat.le_of_ble_eq_true rfl) rfl) ?_
  refine Eq.trans (x0 (h := 2) hT rfl) ?_
  refine Eq.trans (x2 (ls' := [(2, ((a0 : Nat) : Int)), (0, a1), (0, 0), (0, 0), (3, 0), (3, 0), (3, 0), (3, 0), (3, 0)]) (h := 3) hT rfl (Nat.le_of_ble_eq_true rfl) rfl) ?_
  refine Eq.trans (x0 (h := 4) hT rfl) ?_
  refine Eq.trans (x2 (ls' := [(2, ((a0 : Nat) : Int)), (0, a1), (0, 0), (0, 0), (0, 0), (3, 0), (3, 0), (3, 0), (3, 0)]) (h := 5) hT rfl (Nat.le_of_ble_eq_true rfl) rfl) ?_
  refine Eq.trans (x0 (h := 6) hT rfl) ?_
  refine Eq.trans (x2 (ls' := [(2, ((a0 : Nat) : Int)), (0, a1), (0, 0), (0, 0), (0, 0), (0, 0), (3, 0), (3, 0), (3, 0)]) (h := 7) hT rfl (Nat.le_of_ble_eq_true rfl) rfl) ?_
  exact rfl
set_option maxRecDepth 100000 in
theorem q_313_8 {P : zP} {d : zD P} {a0 : Nat} {a1 : Int} {a2 : Int} {a3 : Int} {a4 : Int} {a5 : Int} {g6 : zV} {g7 : zV} {g8 : zV} (ha0 : zkd a0 = 12) : zB P 313 8 [(2, ((a0 : Nat) : Int)), (0, a1), (0, a2), (0, a3), (0, a4), (0, a5), g6, g7, g8] [] d = (if zin 0 2 then (if wr a2 < wr ((d.m ((a0 + 8)) (zix 0))) then (if zin (((9 * a2) + a3)) 81 then ((MM P 76 [(0, (d.m ((a0 + 10)) (zix (((9 * a2) + a3))))), (0, 0)] d).bind fun q3 => ((MM P 76 [(0, (d.m ((a0 + 10)) (zix (((9 * a2) + a3))))), (0, 1)] q3.2).bind fun q4 => (if wr ((d.m ((a0 + 10)) (zix (((9 * a2) + a3))))) = wr 1 then zB P 313 8 [(2, ((a0 : Nat) : Int)), (0, a1), (0, (a2 + q3.1)), (0, (a3 + q4.1)), (0, a4), (0, a5), (0, (d.m ((a0 + 10)) (zix (((9 * a2) + a3))))), (0, q3.1), (0, q4.1)] [] q4.2 else (if wr ((d.m ((a0 + 10)) (zix (((9 * a2) + a3))))) = wr 2 then zB P 313 8 [(2, ((a0 : Nat) : Int)), (0, a1), (0, (a2 + q3.1)), (0, (a3 + q4.1)), (0, a4), (0, a5), (0, (d.m ((a0 + 10)) (zix (((9 * a2) + a3))))), (0, q3.1), (0, q4.1)] [] q4.2 else ((MM P 82 [(2, ((a0 : Nat) : Int)), (0, a2), (0, q3.1)] q4.2).bind fun q5 => (if wr 6 < wr q5.1 then (if wr a1 = 0 then zB P 313 8 [(2, ((a0 : Nat) : Int)), (0, a1), (0, (a2 + q3.1)), (0, (a3 + q4.1)), (0, (a4 + 1)), (0, (-5)), (0, (d.m ((a0 + 10)) (zix (((9 * a2) + a3))))), (0, q3.1), (0, q4.1)] [] q5.2 else ((MM P 293 [(2, ((a0 : Nat) : Int)), (0, a2), (0, q3.1), (0, a3), (0, q4.1)] q5.2).bind fun q6 => zB P 313 8 [(2, ((a0 : Nat) : Int)), (0, a1), (0, (a2 + q3.1)), (0, (a3 + q4.1)), (0, (a4 + 1)), (0, (-5)), (0, (d.m ((a0 + 10)) (zix (((9 * a2) + a3))))), (0, q3.1), (0, q4.1)] [] q6.2)) else ((MM P 82 [(2, ((a0 : Nat) : Int)), (0, (8 + a3)), (0, q4.1)] q5.2).bind fun q7 => (if wr q7.1 ≤ wr 6 then (if wr a1 = 0 then zB P 313 8 [(2, ((a0 : Nat) : Int)), (0, a1), (0, (a2 + q3.1)), (0, (a3 + q4.1)), (0, (a4 + 1)), (0, a5), (0, (d.m ((a0 + 10)) (zix (((9 * a2) + a3))))), (0, q3.1), (0, q4.1)] [] q7.2 else ((MM P 293 [(2, ((a0 : Nat) : Int)), (0, a2), (0, q3.1), (0, a3), (0, q4.1)] q7.2).bind fun q8 => zB P 313 8 [(2, ((a0 : Nat) : Int)), (0, a1), (0, (a2 + q3.1)), (0, (a3 + q4.1)), (0, (a4 + 1)), (0, a5), (0, (d.m ((a0 + 10)) (zix (((9 * a2) + a3))))), (0, q3.1), (0, q4.1)] [] q8.2)) else (if wr a1 = 0 then zB P 313 8 [(2, ((a0 : Nat) : Int)), (0, a1), (0, (a2 + q3.1)), (0, (a3 + q4.1)), (0, (a4 + 1)), (0, (-5)), (0, (d.m ((a0 + 10)) (zix (((9 * a2) + a3))))), (0, q3.1), (0, q4.1)] [] q7.2 else ((MM P 293 [(2, ((a0 : Nat) : Int)), (0, a2), (0, q3.1), (0, a3), (0, q4.1)] q7.2).bind fun q9 => zB P 313 8 [(2, ((a0 : Nat) : Int)), (0, a1), (0, (a2 + q3.1)), (0, (a3 + q4.1)), (0, (a4 + 1)), (0, (-5)), (0, (d.m ((a0 + 10)) (zix (((9 * a2) + a3))))), (0, q3.1), (0, q4.1)] [] q9.2)))))))))) else none) else (if zin 1 2 then (if wr ((d.m ((a0 + 8)) (zix 1))) ≤ wr a3 then (if 0 ≤ wr a5 then some (a4, d) else some (a5, d)) else (if zin (((9 * a2) + a3)) 81 then ((MM P 76 [(0, (d.m ((a0 + 10)) (zix (((9 * a2) + a3))))), (0, 0)] d).bind fun q12 => ((MM P 76 [(0, (d.m ((a0 + 10)) (zix (((9 * a2) + a3))))), (0, 1)] q12.2).bind fun q13 => (if wr ((d.m ((a0 + 10)) (zix (((9 * a2) + a3))))) = wr 1 then zB P 313 8 [(2, ((a0 : Nat) : Int)), (0, a1), (0, (a2 + q12.1)), (0, (a3 + q13.1)), (0, a4), (0, a5), (0, (d.m ((a0 + 10)) (zix (((9 * a2) + a3))))), (0, q12.1), (0, q13.1)] [] q13.2 else (if wr ((d.m ((a0 + 10)) (zix (((9 * a2) + a3))))) = wr 2 then zB P 313 8 [(2, ((a0 : Nat) : Int)), (0, a1), (0, (a2 + q12.1)), (0, (a3 + q13.1)), (0, a4), (0, a5), (0, (d.m ((a0 + 10)) (zix (((9 * a2) + a3))))), (0, q12.1), (0, q13.1)] [] q13.2 else ((MM P 82 [(2, ((a0 : Nat) : Int)), (0, a2), (0, q12.1)] q13.2).bind fun q14 => (if wr 6 < wr q14.1 then (if wr a1 = 0 then zB P 313 8 [(2, ((a0 : Nat) : Int)), (0, a1), (0, (a2 + q12.1)), (0, (a3 + q13.1)), (0, (a4 + 1)), (0, (-5)), (0, (d.m ((a0 + 10)) (zix (((9 * a2) + a3))))), (0, q12.1), (0, q13.1)] [] q14.2 else ((MM P 293 [(2, ((a0 : Nat) : Int)), (0, a2), (0, q12.1), (0, a3), (0, q13.1)] q14.2).bind fun q15 => zB P 313 8 [(2, ((a0 : Nat) : Int)), (0, a1), (0, (a2 + q12.1)), (0, (a3 + q13.1)), (0, (a4 + 1)), (0, (-5)), (0, (d.m ((a0 + 10)) (zix (((9 * a2) + a3))))), (0, q12.1), (0, q13.1)] [] q15.2)) else ((MM P 82 [(2, ((a0 : Nat) : Int)), (0, (8 + a3)), (0, q13.1)] q14.2).bind fun q16 => (if wr q16.1 ≤ wr 6 then (if wr a1 = 0 then zB P 313 8 [(2, ((a0 : Nat) : Int)), (0, a1), (0, (a2 + q12.1)), (0, (a3 + q13.1)), (0, (a4 + 1)), (0, a5), (0, (d.m ((a0 + 10)) (zix (((9 * a2) + a3))))), (0, q12.1), (0, q13.1)] [] q16.2 else ((MM P 293 [(2, ((a0 : Nat) : Int)), (0, a2), (0, q12.1), (0, a3), (0, q13.1)] q16.2).bind fun q17 => zB P 313 8 [(2, ((a0 : Nat) : Int)), (0, a1), (0, (a2 + q12.1)), (0, (a3 + q13.1)), (0, (a4 + 1)), (0, a5), (0, (d.m ((a0 + 10)) (zix (((9 * a2) + a3))))), (0, q12.1), (0, q13.1)] [] q17.2)) else (if wr a1 = 0 then zB P 313 8 [(2, ((a0 : Nat) : Int)), (0, a1), (0, (a2 + q12.1)), (0, (a3 + q13.1)), (0, (a4 + 1)), (0, (-5)), (0, (d.m ((a0 + 10)) (zix (((9 * a2) + a3))))), (0, q12.1), (0, q13.1)] [] q16.2 else ((MM P 293 [(2, ((a0 : Nat) : Int)), (0, a2), (0, q12.1), (0, a3), (0, q13.1)] q16.2).bind fun q18 => zB P 313 8 [(2, ((a0 : Nat) : Int)), (0, a1), (0, (a2 + q12.1)), (0, (a3 + q13.1)), (0, (a4 + 1)), (0, (-5)), (0, (d.m ((a0 + 10)) (zix (((9 * a2) + a3))))), (0, q12.1), (0, q13.1)] [] q18.2)))))))))) else none)) else none)) else none) := by
  have hT := cT_313
  refine Eq.trans (x1 (h := 8) hT rfl rfl (by decide)) ?_
  refine Eq.trans (x1 (h := 9) hT rfl rfl (by decide)) ?_
  refine Eq.trans (x21r (r := a0) (cl := 12) (o := 8) (h := 10) hT rfl ha0 (by decide) rfl) ?_
  refine Eq.trans (x0 (h := 11) hT rfl) ?_
  refine Eq.trans (x24 (r := (a0 + 8)) (n := 2) (h := 12) hT rfl (Or.inl (kd_12_15 ha0)) (ln_12_15 ha0)) ?_
  refine xig (fun hz1 => ?_)
  refine Eq.trans (x17_2 (h := 13) hT rfl) ?_
  refine xit (fun _ => ?_) (fun _ => ?_)
  · refine Eq.trans (x1 (h := 20) hT rfl rfl (by decide)) ?_
    refine Eq.trans (x21r (r := a0) (cl := 12) (o := 10) (h := 21) hT rfl ha0 (by decide) rfl) ?_
    refine Eq.trans (x0 (h := 22) hT rfl) ?_
    refine Eq.trans (x1 (h := 23) hT rfl rfl (by decide)) ?_
    refine Eq.trans (x5_2 (h := 24) hT rfl) ?_
    refine Eq.trans (x1 (h := 25) hT rfl rfl (by decide)) ?_
    refine Eq.trans (x5_0 (h := 26) hT rfl) ?_
    refine Eq.trans (x24 (r := (a0 + 10)) (n := 81) (h := 27) hT rfl (Or.inl (kd_12_17 ha0)) (ln_12_17 ha0)) ?_
    refine xig (fun hz2 => ?_)
    refine Eq.trans (x2 (ls' := [(2, ((a0 : Nat) : Int)), (0, a1), (0, a2), (0, a3), (0, a4), (0, a5), (0, (d.m ((a0 + 10)) (zix (((9 * a2) + a3))))), g7, g8]) (h := 28) hT rfl (Nat.le_of_ble_eq_true rfl) rfl) ?_
    refine Eq.trans (x1 (h := 29) hT rfl rfl (by decide)) ?_
    refine Eq.trans (x0 (h := 30) hT rfl) ?_
    refine Eq.trans (x34 (as := [(0, (d.m ((a0 + 10)) (zix (((9 * a2) + a3))))), (0, 0)]) (st' := []) (h := 31) hT rfl sm_76 rfl) ?_
    refine xbd (fun q3 => ?_)
    rw [rv_76]
    change zB P 313 32 [(2, ((a0 : Nat) : Int)), (0, a1), (0, a2), (0, a3), (0, a4), (0, a5), (0, (d.m ((a0 + 10)) (zix (((9 * a2) + a3))))), g7, g8] [(0, q3.1)] q3.2 = _
    refine Eq.trans (x2 (ls' := [(2, ((a0 : Nat) : Int)), (0, a1), (0, a2), (0, a3), (0, a4), (0, a5), (0, (d.m ((a0 + 10)) (zix (((9 * a2) + a3))))), (0, q3.1), g8]) (h := 32) hT rfl (Nat.le_of_ble_eq_true rfl) rfl) ?_
    refine Eq.trans (x1 (h := 33) hT rfl rfl (by decide)) ?_
    refine Eq.trans (x0 (h := 34) hT rfl) ?_
    refine Eq.trans (x34 (as := [(0, (d.m ((a0 + 10)) (zix (((9 * a2) + a3))))), (0, 1)]) (st' := []) (h := 35) hT rfl sm_76 rfl) ?_
    refine xbd (fun q4 => ?_)
    rw [rv_76]
    change zB P 313 36 [(2, ((a0 : Nat) : Int)), (0, a1), (0, a2), (0, a3), (0, a4), (0, a5), (0, (d.m ((a0 + 10)) (zix (((9 * a2) + a3))))), (0, q3.1), g8] [(0, q4.1)] q4.2 = _
    refine Eq.trans (x2 (ls' := [(2, ((a0 : Nat) : Int)), (0, a1), (0, a2), (0, a3), (0, a4), (0, a5), (0, (d.m ((a0 + 10)) (zix (((9 * a2) + a3))))), (0, q3.1), (0, q4.1)]) (h := 36) hT rfl (Nat.le_of_ble_eq_true rfl) rfl) ?_
    refine Eq.trans (x1 (h := 37) hT rfl rfl (by decide)) ?_
    refine Eq.trans (x0 (h := 38) hT rfl) ?_
    refine Eq.trans (x17_0 (h := 39) hT rfl) ?_
    refine xit (fun _ => ?_) (fun _ => ?_)
    · refine Eq.trans (x1 (h := 71) hT rfl rfl (by decide)) ?_
      refine Eq.trans (x1 (h := 72) hT rfl rfl (by decide)) ?_
      refine Eq.trans (x5_0 (h := 73) hT rfl) ?_
      refine Eq.trans (x2 (ls' := [(2, ((a0 : Nat) : Int)), (0, a1), (0, (a2 + q3.1)), (0, a3), (0, a4), (0, a5), (0, (d.m ((a0 + 10)) (zix (((9 * a2) + a3))))), (0, q3.1), (0, q4.1)]) (h := 74) hT rfl (Nat.le_of_ble_eq_true rfl) rfl) ?_
      refine Eq.trans (x1 (h := 75) hT rfl rfl (by decide)) ?_
      refine Eq.trans (x1 (h := 76) hT rfl rfl (by decide)) ?_
      refine Eq.trans (x5_0 (h := 77) hT rfl) ?_
      refine Eq.trans (x2 (ls' := [(2, ((a0 : Nat) : Int)), (0, a1), (0, (a2 + q3.1)), (0, (a3 + q4.1)), (0, a4), (0, a5), (0, (d.m ((a0 + 10)) (zix (((9 * a2) + a3))))), (0, q3.1), (0, q4.1)]) (h := 78) hT rfl (Nat.le_of_ble_eq_true rfl) rfl) ?_
      refine Eq.trans (x18 (h := 79) hT rfl) ?_
      exact rfl
    · refine Eq.trans (x1 (h := 40) hT rfl rfl (by decide)) ?_
      refine Eq.trans (x0 (h := 41) hT rfl) ?_
      refine Eq.trans (x17_0 (h := 42) hT rfl) ?_
      refine xit (fun _ => ?_) (fun _ => ?_)
      · refine Eq.trans (x1 (h := 71) hT rfl rfl (by decide)) ?_
        refine Eq.trans (x1 (h := 72) hT rfl rfl (by decide)) ?_
        refine Eq.trans (x5_0 (h := 73) hT rfl) ?_
        refine Eq.trans (x2 (ls' := [(2, ((a0 : Nat) : Int)), (0, a1), (0, (a2 + q3.1)), (0, a3), (0, a4), (0, a5), (0, (d.m ((a0 + 10)) (zix (((9 * a2) + a3))))), (0, q3.1), (0, q4.1)]) (h := 74) hT rfl (Nat.le_of_ble_eq_true rfl) rfl) ?_
        refine Eq.trans (x1 (h := 75) hT rfl rfl (by decide)) ?_
        refine Eq.trans (x1 (h := 76) hT rfl rfl (by decide)) ?_
        refine Eq.trans (x5_0 (h := 77) hT rfl) ?_
        refine Eq.trans (x2 (ls' := [(2, ((a0 : Nat) : Int)), (0, a1), (0, (a2 + q3.1)), (0, (a3 + q4.1)), (0, a4), (0, a5), (0, (d.m ((a0 + 10)) (zix (((9 * a2) + a3))))), (0, q3.1), (0, q4.1)]) (h := 78) hT rfl (Nat.le_of_ble_eq_true rfl) rfl) ?_
        refine Eq.trans (x18 (h := 79) hT rfl) ?_
        exact rfl
      · refine Eq.trans (x1 (h := 43) hT rfl rfl (by decide)) ?_
        refine Eq.trans (x1 (h := 44) hT rfl rfl (by decide)) ?_
        refine Eq.trans (x1 (h := 45) hT rfl rfl (by decide)) ?_
        refine Eq.trans (x31 (r := a0) (cl := 12) (as := [(0, a2), (0, q3.1)]) (st' := []) (h := 46) hT rfl sm_82 rfl ha0) ?_
        refine xbd (fun q5 => ?_)
        rw [rv_82]
        change zB P 313 47 [(2, ((a0 : Nat) : Int)), (0, a1), (0, a2), (0, a3), (0, a4), (0, a5), (0, (d.m ((a0 + 10)) (zix (((9 * a2) + a3))))), (0, q3.1), (0, q4.1)] [(0, q5.1)] q5.2 = _
        refine Eq.trans (x0 (h := 47) hT rfl) ?_
        refine Eq.trans (x17_4 (h := 48) hT rfl) ?_
        refine xit (fun _ => ?_) (fun _ => ?_)
        · refine Eq.trans (x0 (h := 57) hT rfl) ?_
          refine Eq.trans (x2 (ls' := [(2, ((a0 : Nat) : Int)), (0, a1), (0, a2), (0, a3), (0, a4), (0, (-5)), (0, (d.m ((a0 + 10)) (zix (((9 * a2) + a3))))), (0, q3.1), (0, q4.1)]) (h := 58) hT rfl (Nat.le_of_ble_eq_true rfl) rfl) ?_
          refine Eq.trans (x1 (h := 59) hT rfl rfl (by decide)) ?_
          refine Eq.trans (x0 (h := 60) hT rfl) ?_
          refine Eq.trans (x5_0 (h := 61) hT rfl) ?_
          refine Eq.trans (x2 (ls' := [(2, ((a0 : Nat) : Int)), (0, a1), (0, a2), (0, a3), (0, (a4 + 1)), (0, (-5)), (0, (d.m ((a0 + 10)) (zix (((9 * a2) + a3))))), (0, q3.1), (0, q4.1)]) (h := 62) hT rfl (Nat.le_of_ble_eq_true rfl) rfl) ?_
          refine Eq.trans (x1 (h := 63) hT rfl rfl (by decide)) ?_
          refine Eq.trans (x16_0 (h := 64) hT rfl) ?_
          refine xit (fun _ => ?_) (fun _ => ?_)
          · refine Eq.trans (x1 (h := 71) hT rfl rfl (by decide)) ?_
            refine Eq.trans (x1 (h := 72) hT rfl rfl (by decide)) ?_
            refine Eq.trans (x5_0 (h := 73) hT rfl) ?_
            refine Eq.trans (x2 (ls' := [(2, ((a0 : Nat) : Int)), (0, a1), (0, (a2 + q3.1)), (0, a3), (0, (a4 + 1)), (0, (-5)), (0, (d.m ((a0 + 10)) (zix (((9 * a2) + a3))))), (0, q3.1), (0, q4.1)]) (h := 74) hT rfl (Nat.le_of_ble_eq_true rfl) rfl) ?_
            refine Eq.trans (x1 (h := 75) hT rfl rfl (by decide)) ?_
            refine Eq.trans (x1 (h := 76) hT rfl rfl (by decide)) ?_
            refine Eq.trans (x5_0 (h := 77) hT rfl) ?_
            refine Eq.trans (x2 (ls' := [(2, ((a0 : Nat) : Int)), (0, a1), (0, (a2 + q3.1)), (0, (a3 + q4.1)), (0, (a4 + 1)), (0, (-5)), (0, (d.m ((a0 + 10)) (zix (((9 * a2) + a3))))), (0, q3.1), (0, q4.1)]) (h := 78) hT rfl (Nat.le_of_ble_eq_true rfl) rfl) ?_
            refine Eq.trans (x18 (h := 79) hT rfl) ?_
            exact rfl
          · refine Eq.trans (x1 (h := 65) hT rfl rfl (by decide)) ?_
            refine Eq.trans (x1 (h := 66) hT rfl rfl (by decide)) ?_
            refine Eq.trans (x1 (h := 67) hT rfl rfl (by decide)) ?_
            refine Eq.trans (x1 (h := 68) hT rfl rfl (by decide)) ?_
            refine Eq.trans (x1 (h := 69) hT rfl rfl (by decide)) ?_
            refine Eq.trans (x31 (r := a0) (cl := 12) (as := [(0, a2), (0, q3.1), (0, a3), (0, q4.1)]) (st' := []) (h := 70) hT rfl sm_293 rfl ha0) ?_
            refine xbd (fun q6 => ?_)
            rw [rv_293]
            change zB P 313 71 [(2, ((a0 : Nat) : Int)), (0, a1), (0, a2), (0, a3), (0, (a4 + 1)), (0, (-5)), (0, (d.m ((a0 + 10)) (zix (((9 * a2) + a3))))), (0, q3.1), (0, q4.1)] [] q6.2 = _
            refine Eq.trans (x1 (h := 71) hT rfl rfl (by decide)) ?_
            refine Eq.trans (x1 (h := 72) hT rfl rfl (by decide)) ?_
            refine Eq.trans (x5_0 (h := 73) hT rfl) ?_
            refine Eq.trans (x2 (ls' := [(2, ((a0 : Nat) : Int)), (0, a1), (0, (a2 + q3.1)), (0, a3), (0, (a4 + 1)), (0, (-5)), (0, (d.m ((a0 + 10)) (zix (((9 * a2) + a3))))), (0, q3.1), (0, q4.1)]) (h := 74) hT rfl (Nat.le_of_ble_eq_true rfl) rfl) ?_
            refine Eq.trans (x1 (h := 75) hT rfl rfl (by decide)) ?_
            refine Eq.trans (x1 (h := 76) hT rfl rfl (by decide)) ?_
            refine Eq.trans (x5_0 (h := 77) hT rfl) ?_
            refine Eq.trans (x2 (ls' := [(2, ((a0 : Nat) : Int)), (0, a1), (0, (a2 + q3.1)), (0, (a3 + q4.1)), (0, (a4 + 1)), (0, (-5)), (0, (d.m ((a0 + 10)) (zix (((9 * a2) + a3))))), (0, q3.1), (0, q4.1)]) (h := 78) hT rfl (Nat.le_of_ble_eq_true rfl) rfl) ?_
            refine Eq.trans (x18 (h := 79) hT rfl) ?_
            exact rfl
        · refine Eq.trans (x1 (h := 49) hT rfl rfl (by decide)) ?_
          refine Eq.trans (x0 (h := 50) hT rfl) ?_
          refine Eq.trans (x1 (h := 51) hT rfl rfl (by decide)) ?_
          refine Eq.trans (x5_0 (h := 52) hT rfl) ?_
          refine Eq.trans (x1 (h := 53) hT rfl rfl (by decide)) ?_
          refine Eq.trans (x31 (r := a0) (cl := 12) (as := [(0, (8 + a3)), (0, q4.1)]) (st' := []) (h := 54) hT rfl sm_82 rfl ha0) ?_
          refine xbd (fun q7 => ?_)
          rw [rv_82]
          change zB P 313 55 [(2, ((a0 : Nat) : Int)), (0, a1), (0, a2), (0, a3), (0, a4), (0, a5), (0, (d.m ((a0 + 10)) (zix (((9 * a2) + a3))))), (0, q3.1), (0, q4.1)] [(0, q7.1)] q7.2 = _
          refine Eq.trans (x0 (h := 55) hT rfl) ?_
          refine Eq.trans (x17_5 (h := 56) hT rfl) ?_
          refine xit (fun _ => ?_) (fun _ => ?_)
          · refine Eq.trans (x1 (h := 59) hT rfl rfl (by decide)) ?_
            refine Eq.trans (x0 (h := 60) hT rfl) ?_
            refine Eq.trans (x5_0 (h := 61) hT rfl) ?_
            refine Eq.trans (x2 (ls' := [(2, ((a0 : Nat) : Int)), (0, a1), (0, a2), (0, a3), (0, (a4 + 1)), (0, a5), (0, (d.m ((a0 + 10)) (zix (((9 * a2) + a3))))), (0, q3.1), (0, q4.1)]) (h := 62) hT rfl (Nat.le_of_ble_eq_true rfl) rfl) ?_
            refine Eq.trans (x1 (h := 63) hT rfl rfl (by decide)) ?_
            refine Eq.trans (x16_0 (h := 64) hT rfl) ?_
            refine xit (fun _ => ?_) (fun _ => ?_)
            · refine Eq.trans (x1 (h := 71) hT rfl rfl (by decide)) ?_
              refine Eq.trans (x1 (h := 72) hT rfl rfl (by decide)) ?_
              refine Eq.trans (x5_0 (h := 73) hT rfl) ?_
              refine Eq.trans (x2 (ls' := [(2, ((a0 : Nat) : Int)), (0, a1), (0, (a2 + q3.1)), (0, a3), (0, (a4 + 1)), (0, a5), (0, (d.m ((a0 + 10)) (zix (((9 * a2) + a3))))), (0, q3.1), (0, q4.1)]) (h := 74) hT rfl (Nat.le_of_ble_eq_true rfl) rfl) ?_
              refine Eq.trans (x1 (h := 75) hT rfl rfl (by decide)) ?_
              refine Eq.trans (x1 (h := 76) hT rfl rfl (by decide)) ?_
              refine Eq.trans (x5_0 (h := 77) hT rfl) ?_
              refine Eq.trans (x2 (ls' := [(2, ((a0 : Nat) : Int)), (0, a1), (0, (a2 + q3.1)), (0, (a3 + q4.1)), (0, (a4 + 1)), (0, a5), (0, (d.m ((a0 + 10)) (zix (((9 * a2) + a3))))), (0, q3.1), (0, q4.1)]) (h := 78) hT rfl (Nat.le_of_ble_eq_true rfl) rfl) ?_
              refine Eq.trans (x18 (h := 79) hT rfl) ?_
              exact rfl
            · refine Eq.trans (x1 (h := 65) hT rfl rfl (by decide)) ?_
              refine Eq.trans (x1 (h := 66) hT rfl rfl (by decide)) ?_
              refine Eq.trans (x1 (h := 67) hT rfl rfl (by decide)) ?_
              refine Eq.trans (x1 (h := 68) hT rfl rfl (by decide)) ?_
              refine Eq.trans (x1 (h := 69) hT rfl rfl (by decide)) ?_
              refine Eq.trans (x31 (r := a0) (cl := 12) (as := [(0, a2), (0, q3.1), (0, a3), (0, q4.1)]) (st' := []) (h := 70) hT rfl sm_293 rfl ha0) ?_
              refine xbd (fun q8 => ?_)
              rw [rv_293]
              change zB P 313 71 [(2, ((a0 : Nat) : Int)), (0, a1), (0, a2), (0, a3), (0, (a4 + 1)), (0, a5), (0, (d.m ((a0 + 10)) (zix (((9 * a2) + a3))))), (0, q3.1), (0, q4.1)] [] q8.2 = _
              refine Eq.trans (x1 (h := 71) hT rfl rfl (by decide)) ?_
              refine Eq.trans (x1 (h := 72) hT rfl rfl (by decide)) ?_
              refine Eq.trans (x5_0 (h := 73) hT rfl) ?_
              refine Eq.trans (x2 (ls' := [(2, ((a0 : Nat) : Int)), (0, a1), (0, (a2 + q3.1)), (0, a3), (0, (a4 + 1)), (0, a5), (0, (d.m ((a0 + 10)) (zix (((9 * a2) + a3))))), (0, q3.1), (0, q4.1)]) (h := 74) hT rfl (Nat.le_of_ble_eq_true rfl) rfl) ?_
              refine Eq.trans (x1 (h := 75) hT rfl rfl (by decide)) ?_
              refine Eq.trans (x1 (h := 76) hT rfl rfl (by decide)) ?_
              refine Eq.trans (x5_0 (h := 77) hT rfl) ?_
              refine Eq.trans (x2 (ls' := [(2, ((a0 : Nat) : Int)), (0, a1), (0, (a2 + q3.1)), (0, (a3 + q4.1)), (0, (a4 + 1)), (0, a5), (0, (d.m ((a0 + 10)) (zix (((9 * a2) + a3))))), (0, q3.1), (0, q4.1)]) (h := 78) hT rfl (Nat.le_of_ble_eq_true rfl) rfl) ?_
              refine Eq.trans (x18 (h := 79) hT rfl) ?_
              exact rfl
          · refine Eq.trans (x0 (h := 57) hT rfl) ?_
            refine Eq.trans (x2 (ls' := [(2, ((a0 : Nat) : Int)), (0, a1), (0, a2), (0, a3), (0, a4), (0, (-5)), (0, (d.m ((a0 + 10)) (zix (((9 * a2) + a3))))), (0, q3.1), (0, q4.1)]) (h := 58) hT rfl (Nat.le_of_ble_eq_true rfl) rfl) ?_
            refine Eq.trans (x1 (h := 59) hT rfl rfl (by decide)) ?_
            refine Eq.trans (x0 (h := 60) hT rfl) ?_
            refine Eq.trans (x5_0 (h := 61) hT rfl) ?_
            refine Eq.trans (x2 (ls' := [(2, ((a0 : Nat) : Int)), (0, a1), (0, a2), (0, a3), (0, (a4 + 1)), (0, (-5)), (0, (d.m ((a0 + 10)) (zix (((9 * a2) + a3))))), (0, q3.1), (0, q4.1)]) (h := 62) hT rfl (Nat.le_of_ble_eq_true rfl) rfl) ?_
            refine Eq.trans (x1 (h := 63) hT rfl rfl (by decide)) ?_
            refine Eq.trans (x16_0 (h := 64) hT rfl) ?_
            refine xit (fun _ => ?_) (fun _ => ?_)
            · refine Eq.trans (x1 (h := 71) hT rfl rfl (by decide)) ?_
              refine Eq.trans (x1 (h := 72) hT rfl rfl (by decide)) ?_
              refine Eq.trans (x5_0 (h := 73) hT rfl) ?_
              refine Eq.trans (x2 (ls' := [(2, ((a0 : Nat) : Int)), (0, a1), (0, (a2 + q3.1)), (0, a3), (0, (a4 + 1)), (0, (-5)), (0, (d.m ((a0 + 10)) (zix (((9 * a2) + a3))))), (0, q3.1), (0, q4.1)]) (h := 74) hT rfl (Nat.le_of_ble_eq_true rfl) rfl) ?_
              refine Eq.trans (x1 (h := 75) hT rfl rfl (by decide)) ?_
              refine Eq.trans (x1 (h := 76) hT rfl rfl (by decide)) ?_
              refine Eq.trans (x5_0 (h := 77) hT rfl) ?_
              refine Eq.trans (x2 (ls' := [(2, ((a0 : Nat) : Int)), (0, a1), (0, (a2 + q3.1)), (0, (a3 + q4.1)), (0, (a4 + 1)), (0, (-5)), (0, (d.m ((a0 + 10)) (zix (((9 * a2) + a3))))), (0, q3.1), (0, q4.1)]) (h := 78) hT rfl (Nat.le_of_ble_eq_true rfl) rfl) ?_
              refine Eq.trans (x18 (h := 79) hT rfl) ?_
              exact rfl
            · refine Eq.trans (x1 (h := 65) hT rfl rfl (by decide)) ?_
              refine Eq.trans (x1 (h := 66) hT rfl rfl (by decide)) ?_
              refine Eq.trans (x1 (h := 67) hT rfl rfl (by decide)) ?_
              refine Eq.trans (x1 (h := 68) hT rfl rfl (by decide)) ?_
              refine Eq.trans (x1 (h := 69) hT rfl rfl (by decide)) ?_
              refine Eq.trans (x31 (r := a0) (cl := 12) (as := [(0, a2), (0, q3.1), (0, a3), (0, q4.1)]) (st' := []) (h := 70) hT rfl sm_293 rfl ha0) ?_
              refine xbd (fun q9 => ?_)
              rw [rv_293]
              change zB P 313 71 [(2, ((a0 : Nat) : Int)), (0, a1), (0, a2), (0, a3), (0, (a4 + 1)), (0, (-5)), (0, (d.m ((a0 + 10)) (zix (((9 * a2) + a3))))), (0, q3.1), (0, q4.1)] [] q9.2 = _
              refine Eq.trans (x1 (h := 71) hT rfl rfl (by decide)) ?_
              refine Eq.trans (x1 (h := 72) hT rfl rfl (by decide)) ?_
              refine Eq.trans (x5_0 (h := 73) hT rfl) ?_
              refine Eq.trans (x2 (ls' := [(2, ((a0 : Nat) : Int)), (0, a1), (0, (a2 + q3.1)), (0, a3), (0, (a4 + 1)), (0, (-5)), (0, (d.m ((a0 + 10)) (zix (((9 * a2) + a3))))), (0, q3.1), (0, q4.1)]) (h := 74) hT rfl (Nat.le_of_ble_eq_true rfl) rfl) ?_
              refine Eq.trans (x1 (h := 75) hT rfl rfl (by decide)) ?_
              refine Eq.trans (x1 (h := 76) hT rfl rfl (by decide)) ?_
              refine Eq.trans (x5_0 (h := 77) hT rfl) ?_
              refine Eq.trans (x2 (ls' := [(2, ((a0 : Nat) : Int)), (0, a1), (0, (a2 + q3.1)), (0, (a3 + q4.1)), (0, (a4 + 1)), (0, (-5)), (0, (d.m ((a0 + 10)) (zix (((9 * a2) + a3))))), (0, q3.1), (0, q4.1)]) (h := 78) hT rfl (Nat.le_of_ble_eq_true rfl) rfl) ?_
              refine Eq.trans (x18 (h := 79) hT rfl) ?_
              exact rfl
  · refine Eq.trans (x1 (h := 14) hT rfl rfl (by decide)) ?_
    refine Eq.trans (x1 (h := 15) hT rfl rfl (by decide)) ?_
    refine Eq.trans (x21r (r := a0) (cl := 12) (o := 8) (h := 16) hT rfl ha0 (by decide) rfl) ?_
    refine Eq.trans (x0 (h := 17) hT rfl) ?_
    refine Eq.trans (x24 (r := (a0 + 8)) (n := 2) (h := 18) hT rfl (Or.inl (kd_12_15 ha0)) (ln_12_15 ha0)) ?_
    refine xig (fun hz10 => ?_)
    refine Eq.trans (x17_3 (h := 19) hT rfl) ?_
    refine xit (fun _ => ?_) (fun _ => ?_)
    · refine Eq.trans (x1 (h := 80) hT rfl rfl (by decide)) ?_
      refine Eq.trans (x16_3 (h := 81) hT rfl) ?_
      refine xit (fun _ => ?_) (fun _ => ?_)
      · refine Eq.trans (x1 (h := 84) hT rfl rfl (by decide)) ?_
        exact x201 (h := 85) hT rfl
      · refine Eq.trans (x1 (h := 82) hT rfl rfl (by decide)) ?_
        refine Eq.trans (x18 (h := 83) hT rfl) ?_
        exact x201 (h := 85) hT rfl
    · refine Eq.trans (x1 (h := 20) hT rfl rfl (by decide)) ?_
      refine Eq.trans (x21r (r := a0) (cl := 12) (o := 10) (h := 21) hT rfl ha0 (by decide) rfl) ?_
      refine Eq.trans (x0 (h := 22) hT rfl) ?_
      refine Eq.trans (x1 (h := 23) hT rfl rfl (by decide)) ?_
      refine Eq.trans (x5_2 (h := 24) hT rfl) ?_
      refine Eq.trans (x1 (h := 25) hT rfl rfl (by decide)) ?_
      refine Eq.trans (x5_0 (h := 26) hT rfl) ?_
      refine Eq.trans (x24 (r := (a0 + 10)) (n := 81) (h := 27) hT rfl (Or.inl (kd_12_17 ha0)) (ln_12_17 ha0)) ?_
      refine xig (fun hz11 => ?_)
      refine Eq.trans (x2 (ls' := [(2, ((a0 : Nat) : Int)), (0, a1), (0, a2), (0, a3), (0, a4), (0, a5), (0, (d.m ((a0 + 10)) (zix (((9 * a2) + a3))))), g7, g8]) (h := 28) hT rfl (Nat.le_of_ble_eq_true rfl) rfl) ?_
      refine Eq.trans (x1 (h := 29) hT rfl rfl (by decide)) ?_
      refine Eq.trans (x0 (h := 30) hT rfl) ?_
      refine Eq.trans (x34 (as := [(0, (d.m ((a0 + 10)) (zix (((9 * a2) + a3))))), (0, 0)]) (st' := []) (h := 31) hT rfl sm_76 rfl) ?_
      refine xbd (fun q12 => ?_)
      rw [rv_76]
      change zB P 313 32 [(2, ((a0 : Nat) : Int)), (0, a1), (0, a2), (0, a3), (0, a4), (0, a5), (0, (d.m ((a0 + 10)) (zix (((9 * a2) + a3))))), g7, g8] [(0, q12.1)] q12.2 = _
      refine Eq.trans (x2 (ls' := [(2, ((a0 : Nat) : Int)), (0, a1), (0, a2), (0, a3), (0, a4), (0, a5), (0, (d.m ((a0 + 10)) (zix (((9 * a2) + a3))))), (0, q12.1), g8]) (h := 32) hT rfl (Nat.le_of_ble_eq_true rfl) rfl) ?_
      refine Eq.trans (x1 (h := 33) hT rfl rfl (by decide)) ?_
      refine Eq.trans (x0 (h := 34) hT rfl) ?_
      refine Eq.trans (x34 (as := [(0, (d.m ((a0 + 10)) (zix (((9 * a2) + a3))))), (0, 1)]) (st' := []) (h := 35) hT rfl sm_76 rfl) ?_
      refine xbd (fun q13 => ?_)
      rw [rv_76]
      change zB P 313 36 [(2, ((a0 : Nat) : Int)), (0, a1), (0, a2), (0, a3), (0, a4), (0, a5), (0, (d.m ((a0 + 10)) (zix (((9 * a2) + a3))))), (0, q12.1), g8] [(0, q13.1)] q13.2 = _
      refine Eq.trans (x2 (ls' := [(2, ((a0 : Nat) : Int)), (0, a1), (0, a2), (0, a3), (0, a4), (0, a5), (0, (d.m ((a0 + 10)) (zix (((9 * a2) + a3))))), (0, q12.1), (0, q13.1)]) (h := 36) hT rfl (Nat.le_of_ble_eq_true rfl) rfl) ?_
      refine Eq.trans (x1 (h := 37) hT rfl rfl (by decide)) ?_
      refine Eq.trans (x0 (h := 38) hT rfl) ?_
      refine Eq.trans (x17_0 (h := 39) hT rfl) ?_
      refine xit (fun _ => ?_) (fun _ => ?_)
      · refine Eq.trans (x1 (h := 71) hT rfl rfl (by decide)) ?_
        refine Eq.trans (x1 (h := 72) hT rfl rfl (by decide)) ?_
        refine Eq.trans (x5_0 (h := 73) hT rfl) ?_
        refine Eq.trans (x2 (ls' := [(2, ((a0 : Nat) : Int)), (0, a1), (0, (a2 + q12.1)), (0, a3), (0, a4), (0, a5), (0, (d.m ((a0 + 10)) (zix (((9 * a2) + a3))))), (0, q12.1), (0, q13.1)]) (h := 74) hT rfl (Nat.le_of_ble_eq_true rfl) rfl) ?_
        refine Eq.trans (x1 (h := 75) hT rfl rfl (by decide)) ?_
        refine Eq.trans (x1 (h := 76) hT rfl rfl (by decide)) ?_
        refine Eq.trans (x5_0 (h := 77) hT rfl) ?_
        refine Eq.trans (x2 (ls' := [(2, ((a0 : Nat) : Int)), (0, a1), (0, (a2 + q12.1)), (0, (a3 + q13.1)), (0, a4), (0, a5), (0, (d.m ((a0 + 10)) (zix (((9 * a2) + a3))))), (0, q12.1), (0, q13.1)]) (h := 78) hT rfl (Nat.le_of_ble_eq_true rfl) rfl) ?_
        refine Eq.trans (x18 (h := 79) hT rfl) ?_
        exact rfl
      · refine Eq.trans (x1 (h := 40) hT rfl rfl (by decide)) ?_
        refine Eq.trans (x0 (h := 41) hT rfl) ?_
        refine Eq.trans (x17_0 (h := 42) hT rfl) ?_
        refine xit (fun _ => ?_) (fun _ => ?_)
        · refine Eq.trans (x1 (h := 71) hT rfl rfl (by decide)) ?_
          refine Eq.trans (x1 (h := 72) hT rfl rfl (by decide)) ?_
          refine Eq.trans (x5_0 (h := 73) hT rfl) ?_
          refine Eq.trans (x2 (ls' := [(2, ((a0 : Nat) : Int)), (0, a1), (0, (a2 + q12.1)), (0, a3), (0, a4), (0, a5), (0, (d.m ((a0 + 10)) (zix (((9 * a2) + a3))))), (0, q12.1), (0, q13.1)]) (h := 74) hT rfl (Nat.le_of_ble_eq_true rfl) rfl) ?_
          refine Eq.trans (x1 (h := 75) hT rfl rfl (by decide)) ?_
          refine Eq.trans (x1 (h := 76) hT rfl rfl (by decide)) ?_
          refine Eq.trans (x5_0 (h := 77) hT rfl) ?_
          refine Eq.trans (x2 (ls' := [(2, ((a0 : Nat) : Int)), (0, a1), (0, (a2 + q12.1)), (0, (a3 + q13.1)), (0, a4), (0, a5), (0, (d.m ((a0 + 10)) (zix (((9 * a2) + a3))))), (0, q12.1), (0, q13.1)]) (h := 78) hT rfl (Nat.le_of_ble_eq_true rfl) rfl) ?_
          refine Eq.trans (x18 (h := 79) hT rfl) ?_
          exact rfl
        · refine Eq.trans (x1 (h := 43) hT rfl rfl (by decide)) ?_
          refine Eq.trans (x1 (h := 44) hT rfl rfl (by decide)) ?_
          refine Eq.trans (x1 (h := 45) hT rfl rfl (by decide)) ?_
          refine Eq.trans (x31 (r := a0) (cl := 12) (as := [(0, a2), (0, q12.1)]) (st' := []) (h := 46) hT rfl sm_82 rfl ha0) ?_
          refine xbd (fun q14 => ?_)
          rw [rv_82]
          change zB P 313 47 [(2, ((a0 : Nat) : Int)), (0, a1), (0, a2), (0, a3), (0, a4), (0, a5), (0, (d.m ((a0 + 10)) (zix (((9 * a2) + a3))))), (0, q12.1), (0, q13.1)] [(0, q14.1)] q14.2 = _
          refine Eq.trans (x0 (h := 47) hT rfl) ?_
          refine Eq.trans (x17_4 (h := 48) hT rfl) ?_
          refine xit (fun _ => ?_) (fun _ => ?_)
          · refine Eq.trans (x0 (h := 57) hT rfl) ?_
            refine Eq.trans (x2 (ls' := [(2, ((a0 : Nat) : Int)), (0, a1), (0, a2), (0, a3), (0, a4), (0, (-5)), (0, (d.m ((a0 + 10)) (zix (((9 * a2) + a3))))), (0, q12.1), (0, q13.1)]) (h := 58) hT rfl (Nat.le_of_ble_eq_true rfl) rfl) ?_
            refine Eq.trans (x1 (h := 59) hT rfl rfl (by decide)) ?_
            refine Eq.trans (x0 (h := 60) hT rfl) ?_
            refine Eq.trans (x5_0 (h := 61) hT rfl) ?_
            refine Eq.trans (x2 (ls' := [(2, ((a0 : Nat) : Int)), (0, a1), (0, a2), (0, a3), (0, (a4 + 1)), (0, (-5)), (0, (d.m ((a0 + 10)) (zix (((9 * a2) + a3))))), (0, q12.1), (0, q13.1)]) (h := 62) hT rfl (Nat.le_of_ble_eq_true rfl) rfl) ?_
            refine Eq.trans (x1 (h := 63) hT rfl rfl (by decide)) ?_
            refine Eq.trans (x16_0 (h := 64) hT rfl) ?_
            refine xit (fun _ => ?_) (fun _ => ?_)
            · refine Eq.trans (x1 (h := 71) hT rfl rfl (by decide)) ?_
              refine Eq.trans (x1 (h := 72) hT rfl rfl (by decide)) ?_
              refine Eq.trans (x5_0 (h := 73) hT rfl) ?_
              refine Eq.trans (x2 (ls' := [(2, ((a0 : Nat) : Int)), (0, a1), (0, (a2 + q12.1)), (0, a3), (0, (a4 + 1)), (0, (-5)), (0, (d.m ((a0 + 10)) (zix (((9 * a2) + a3))))), (0, q12.1), (0, q13.1)]) (h := 74) hT rfl (Nat.le_of_ble_eq_true rfl) rfl) ?_
              refine Eq.trans (x1 (h := 75) hT rfl rfl (by decide)) ?_
              refine Eq.trans (x1 (h := 76) hT rfl rfl (by decide)) ?_
              refine Eq.trans (x5_0 (h := 77) hT rfl) ?_
              refine Eq.trans (x2 (ls' := [(2, ((a0 : Nat) : Int)), (0, a1), (0, (a2 + q12.1)), (0, (a3 + q13.1)), (0, (a4 + 1)), (0, (-5)), (0, (d.m ((a0 + 10)) (zix (((9 * a2) + a3))))), (0, q12.1), (0, q13.1)]) (h := 78) hT rfl (Nat.le_of_ble_eq_true rfl) rfl) ?_
              refine Eq.trans (x18 (h := 79) hT rfl) ?_
              exact rfl
            · refine Eq.trans (x1 (h := 65) hT rfl rfl (by decide)) ?_
              refine Eq.trans (x1 (h := 66) hT rfl rfl (by decide)) ?_
              refine Eq.trans (x1 (h := 67) hT rfl rfl (by decide)) ?_
              refine Eq.trans (x1 (h := 68) hT rfl rfl (by decide)) ?_
              refine Eq.trans (x1 (h := 69) hT rfl rfl (by decide)) ?_
              refine Eq.trans (x31 (r := a0) (cl := 12) (as := [(0, a2), (0, q12.1), (0, a3), (0, q13.1)]) (st' := []) (h := 70) hT rfl sm_293 rfl ha0) ?_
              refine xbd (fun q15 => ?_)
              rw [rv_293]
              change zB P 313 71 [(2, ((a0 : Nat) : Int)), (0, a1), (0, a2), (0, a3), (0, (a4 + 1)), (0, (-5)), (0, (d.m ((a0 + 10)) (zix (((9 * a2) + a3))))), (0, q12.1), (0, q13.1)] [] q15.2 = _
              refine Eq.trans (x1 (h := 71) hT rfl rfl (by decide)) ?_
              refine Eq.trans (x1 (h := 72) hT rfl rfl (by decide)) ?_
              refine Eq.trans (x5_0 (h := 73) hT rfl) ?_
              refine Eq.trans (x2 (ls' := [(2, ((a0 : Nat) : Int)), (0, a1), (0, (a2 + q12.1)), (0, a3), (0, (a4 + 1)), (0, (-5)), (0, (d.m ((a0 + 10)) (zix (((9 * a2) + a3))))), (0, q12.1), (0, q13.1)]) (h := 74) hT rfl (Nat.le_of_ble_eq_true rfl) rfl) ?_
              refine Eq.trans (x1 (h := 75) hT rfl rfl (by decide)) ?_
              refine Eq.trans (x1 (h := 76) hT rfl rfl (by decide)) ?_
              refine Eq.trans (x5_0 (h := 77) hT rfl) ?_
              refine Eq.trans (x2 (ls' := [(2, ((a0 : Nat) : Int)), (0, a1), (0, (a2 + q12.1)), (0, (a3 + q13.1)), (0, (a4 + 1)), (0, (-5)), (0, (d.m ((a0 + 10)) (zix (((9 * a2) + a3))))), (0, q12.1), (0, q13.1)]) (h := 78) hT rfl (Nat.le_of_ble_eq_true rfl) rfl) ?_
              refine Eq.trans (x18 (h := 79) hT rfl) ?_
              exact rfl
          · refine Eq.trans (x1 (h := 49) hT rfl rfl (by decide)) ?_
            refine Eq.trans (x0 (h := 50) hT rfl) ?_
            refine Eq.trans (x1 (h := 51) hT rfl rfl (by decide)) ?_
            refine Eq.trans (x5_0 (h := 52) hT rfl) ?_
            refine Eq.trans (x1 (h := 53) hT rfl rfl (by decide)) ?_
            refine Eq.trans (x31 (r := a0) (cl := 12) (as := [(0, (8 + a3)), (0, q13.1)]) (st' := []) (h := 54) hT rfl sm_82 rfl ha0) ?_
            refine xbd (fun q16 => ?_)
            rw [rv_82]
            change zB P 313 55 [(2, ((a0 : Nat) : Int)), (0, a1), (0, a2), (0, a3), (0, a4), (0, a5), (0, (d.m ((a0 + 10)) (zix (((9 * a2) + a3))))), (0, q12.1), (0, q13.1)] [(0, q16.1)] q16.2 = _
            refine Eq.trans (x0 (h := 55) hT rfl) ?_
            refine Eq.trans (x17_5 (h := 56) hT rfl) ?_
            refine xit (fun _ => ?_) (fun _ => ?_)
            · refine Eq.trans (x1 (h := 59) hT rfl rfl (by decide)) ?_
              refine Eq.trans (x0 (h := 60) hT rfl) ?_
              refine Eq.trans (x5_0 (h := 61) hT rfl) ?_
              refine Eq.trans (x2 (ls' := [(2, ((a0 : Nat) : Int)), (0, a1), (0, a2), (0, a3), (0, (a4 + 1)), (0, a5), (0, (d.m ((a0 + 10)) (zix (((9 * a2) + a3))))), (0, q12.1), (0, q13.1)]) (h := 62) hT rfl (Nat.le_of_ble_eq_true rfl) rfl) ?_
              refine Eq.trans (x1 (h := 63) hT rfl rfl (by decide)) ?_
              refine Eq.trans (x16_0 (h := 64) hT rfl) ?_
              refine xit (fun _ => ?_) (fun _ => ?_)
              · refine Eq.trans (x1 (h := 71) hT rfl rfl (by decide)) ?_
                refine Eq.trans (x1 (h := 72) hT rfl rfl (by decide)) ?_
                refine Eq.trans (x5_0 (h := 73) hT rfl) ?_
                refine Eq.trans (x2 (ls' := [(2, ((a0 : Nat) : Int)), (0, a1), (0, (a2 + q12.1)), (0, a3), (0, (a4 + 1)), (0, a5), (0, (d.m ((a0 + 10)) (zix (((9 * a2) + a3))))), (0, q12.1), (0, q13.1)]) (h := 74) hT rfl (Nat.le_of_ble_eq_true rfl) rfl) ?_
                refine Eq.trans (x1 (h := 75) hT rfl rfl (by decide)) ?_
                refine Eq.trans (x1 (h := 76) hT rfl rfl (by decide)) ?_
                refine Eq.trans (x5_0 (h := 77) hT rfl) ?_
                refine Eq.trans (x2 (ls' := [(2, ((a0 : Nat) : Int)), (0, a1), (0, (a2 + q12.1)), (0, (a3 + q13.1)), (0, (a4 + 1)), (0, a5), (0, (d.m ((a0 + 10)) (zix (((9 * a2) + a3))))), (0, q12.1), (0, q13.1)]) (h := 78) hT rfl (Nat.le_of_ble_eq_true rfl) rfl) ?_
                refine Eq.trans (x18 (h := 79) hT rfl) ?_
                exact rfl
              · refine Eq.trans (x1 (h := 65) hT rfl rfl (by decide)) ?_
                refine Eq.trans (x1 (h := 66) hT rfl rfl (by decide)) ?_
                refine Eq.trans (x1 (h := 67) hT rfl rfl (by decide)) ?_
                refine Eq.trans (x1 (h := 68) hT rfl rfl (by decide)) ?_
                refine Eq.trans (x1 (h := 69) hT rfl rfl (by decide)) ?_
                refine Eq.trans (x31 (r := a0) (cl := 12) (as := [(0, a2), (0, q12.1), (0, a3), (0, q13.1)]) (st' := []) (h := 70) hT rfl sm_293 rfl ha0) ?_
                refine xbd (fun q17 => ?_)
                rw [rv_293]
                change zB P 313 71 [(2, ((a0 : Nat) : Int)), (0, a1), (0, a2), (0, a3), (0, (a4 + 1)), (0, a5), (0, (d.m ((a0 + 10)) (zix (((9 * a2) + a3))))), (0, q12.1), (0, q13.1)] [] q17.2 = _
                refine Eq.trans (x1 (h := 71) hT rfl rfl (by decide)) ?_
                refine Eq.trans (x1 (h := 72) hT rfl rfl (by decide)) ?_
                refine Eq.trans (x5_0 (h := 73) hT rfl) ?_
                refine Eq.trans (x2 (ls' := [(2, ((a0 : Nat) : Int)), (0, a1), (0, (a2 + q12.1)), (0, a3), (0, (a4 + 1)), (0, a5), (0, (d.m ((a0 + 10)) (zix (((9 * a2) + a3))))), (0, q12.1), (0, q13.1)]) (h := 74) hT rfl (Nat.le_of_ble_eq_true rfl) rfl) ?_
                refine Eq.trans (x1 (h := 75) hT rfl rfl (by decide)) ?_
                refine Eq.trans (x1 (h := 76) hT rfl rfl (by decide)) ?_
                refine Eq.trans (x5_0 (h := 77) hT rfl) ?_
                refine Eq.trans (x2 (ls' := [(2, ((a0 : Nat) : Int)), (0, a1), (0, (a2 + q12.1)), (0, (a3 + q13.1)), (0, (a4 + 1)), (0, a5), (0, (d.m ((a0 + 10)) (zix (((9 * a2) + a3))))), (0, q12.1), (0, q13.1)]) (h := 78) hT rfl (Nat.le_of_ble_eq_true rfl) rfl) ?_
                refine Eq.trans (x18 (h := 79) hT rfl) ?_
                exact rfl
            · refine Eq.trans (x0 (h := 57) hT rfl) ?_
              refine Eq.trans (x2 (ls' := [(2, ((a0 : Nat) : Int)), (0, a1), (0, a2), (0, a3), (0, a4), (0, (-5)), (0, (d.m ((a0 + 10)) (zix (((9 * a2) + a3))))), (0, q12.1), (0, q13.1)]) (h := 58) hT rfl (Nat.le_of_ble_eq_true rfl) rfl) ?_
              refine Eq.trans (x1 (h := 59) hT rfl rfl (by decide)) ?_
              refine Eq.trans (x0 (h := 60) hT rfl) ?_
              refine Eq.trans (x5_0 (h := 61) hT rfl) ?_
              refine Eq.trans (x2 (ls' := [(2, ((a0 : Nat) : Int)), (0, a1), (0, a2), (0, a3), (0, (a4 + 1)), (0, (-5)), (0, (d.m ((a0 + 10)) (zix (((9 * a2) + a3))))), (0, q12.1), (0, q13.1)]) (h := 62) hT rfl (Nat.le_of_ble_eq_true rfl) rfl) ?_
              refine Eq.trans (x1 (h := 63) hT rfl rfl (by decide)) ?_
              refine Eq.trans (x16_0 (h := 64) hT rfl) ?_
              refine xit (fun _ => ?_) (fun _ => ?_)
              · refine Eq.trans (x1 (h := 71) hT rfl rfl (by decide)) ?_
                refine Eq.trans (x1 (h := 72) hT rfl rfl (by decide)) ?_
                refine Eq.trans (x5_0 (h := 73) hT rfl) ?_
                refine Eq.trans (x2 (ls' := [(2, ((a0 : Nat) : Int)), (0, a1), (0, (a2 + q12.1)), (0, a3), (0, (a4 + 1)), (0, (-5)), (0, (d.m ((a0 + 10)) (zix (((9 * a2) + a3))))), (0, q12.1), (0, q13.1)]) (h := 74) hT rfl (Nat.le_of_ble_eq_true rfl) rfl) ?_
                refine Eq.trans (x1 (h := 75) hT rfl rfl (by decide)) ?_
                refine Eq.trans (x1 (h := 76) hT rfl rfl (by decide)) ?_
                refine Eq.trans (x5_0 (h := 77) hT rfl) ?_
                refine Eq.trans (x2 (ls' := [(2, ((a0 : Nat) : Int)), (0, a1), (0, (a2 + q12.1)), (0, (a3 + q13.1)), (0, (a4 + 1)), (0, (-5)), (0, (d.m ((a0 + 10)) (zix (((9 * a2) + a3))))), (0, q12.1), (0, q13.1)]) (h := 78) hT rfl (Nat.le_of_ble_eq_true rfl) rfl) ?_
                refine Eq.trans (x18 (h := 79) hT rfl) ?_
                exact rfl
              · refine Eq.trans (x1 (h := 65) hT rfl rfl (by decide)) ?_
                refine Eq.trans (x1 (h := 66) hT rfl rfl (by decide)) ?_
                refine Eq.trans (x1 (h := 67) hT rfl rfl (by decide)) ?_
                refine Eq.trans (x1 (h := 68) hT rfl rfl (by decide)) ?_
                refine Eq.trans (x1 (h := 69) hT rfl rfl (by decide)) ?_
                refine Eq.trans (x31 (r := a0) (cl := 12) (as := [(0, a2), (0, q12.1), (0, a3), (0, q13.1)]) (st' := []) (h := 70) hT rfl sm_293 rfl ha0) ?_
                refine xbd (fun q18 => ?_)
                rw [rv_293]
                change zB P 313 71 [(2, ((a0 : Nat) : Int)), (0, a1), (0, a2), (0, a3), (0, (a4 + 1)), (0, (-5)), (0, (d.m ((a0 + 10)) (zix (((9 * a2) + a3))))), (0, q12.1), (0, q13.1)] [] q18.2 = _
                refine Eq.trans (x1 (h := 71) hT rfl rfl (by decide)) ?_
                refine Eq.trans (x1 (h := 72) hT rfl rfl (by decide)) ?_
                refine Eq.trans (x5_0 (h := 73) hT rfl) ?_
                refine Eq.trans (x2 (ls' := [(2, ((a0 : Nat) : Int)), (0, a1), (0, (a2 + q12.1)), (0, a3), (0, (a4 + 1)), (0, (-5)), (0, (d.m ((a0 + 10)) (zix (((9 * a2) + a3))))), (0, q12.1), (0, q13.1)]) (h := 74) hT rfl (Nat.le_of_ble_eq_true rfl) rfl) ?_
                refine Eq.trans (x1 (h := 75) hT rfl rfl (by decide)) ?_
                refine Eq.trans (x1 (h := 76) hT rfl rfl (by decide)) ?_
                refine Eq.trans (x5_0 (h := 77) hT rfl) ?_
                refine Eq.trans (x2 (ls' := [(2, ((a0 : Nat) : Int)), (0, a1), (0, (a2 + q12.1)), (0, (a3 + q13.1)), (0, (a4 + 1)), (0, (-5)), (0, (d.m ((a0 + 10)) (zix (((9 * a2) + a3))))), (0, q12.1), (0, q13.1)]) (h := 78) hT rfl (Nat.le_of_ble_eq_true rfl) rfl) ?_
                refine Eq.trans (x18 (h := 79) hT rfl) ?_
                exact rfl
/-! WordLinksModel.links(III)I -/
set_option maxRecDepth 100000 in
theorem e_314 {P : zP} {d : zD P} {a0 : Nat} {a1 : Int} {a2 : Int} {a3 : Int} (ha0 : zkd a0 = 12) : MM P 314 [(2, ((a0 : Nat) : Int)), (0, a1), (0, a2), (0, a3)] d = ((MM P 143 [(0, a1)] d).bind fun q1 => (if wr q1.1 = 0 then some ((-1), q1.2) else ((MM P 145 [(2, ((a0 : Nat) : Int)), (0, a2)] q1.2).bind fun q2 => (if wr q2.1 = 0 then some ((-1), q2.2) else ((MM P 60 [(2, ((a0 : Nat) : Int)), (0, a2), (0, 0)] q2.2).bind fun q3 => ((MM P 55 [(0, a3), (0, 0), (0, (q3.1 - 1))] q3.2).bind fun q4 => (if wr q4.1 ≠ 0 then ((MM P 291 [(2, ((a0 : Nat) : Int)), (0, a1), (0, a2)] q4.2).bind fun q5 => (if zin a3 6 then some ((q5.2.m ((a0 + 17)) (zix a3)), q5.2) else none)) else some ((-1), q4.2)))))))) := by
  have hT := cT_314
  refine Eq.trans (MM_def sm_314 (Nat.le_of_ble_eq_true rfl)) ?_
  change zB P 314 0 [(2, ((a0 : Nat) : Int)), (0, a1), (0, a2), (0, a3)] [] d = _
  refine Eq.trans (x1 (h := 0) hT rfl rfl (by decide)) ?_
  refine Eq.trans (x34 (as := [(0, a1)]) (st' := []) (h := 1) hT rfl sm_143 rfl) ?_
  refine xbd (fun q1 => ?_)
  rw [rv_143]
  change zB P 314 2 [(2, ((a0 : Nat) : Int)), (0, a1), (0, a2), (0, a3)] [(0, q1.1)] q1.2 = _
  refine Eq.trans (x16_0 (h := 2) hT rfl) ?_
  refine xit (fun _ => ?_) (fun _ => ?_)
  · refine Eq.trans (x0 (h := 17) hT rfl) ?_
    exact x201 (h := 18) hT rfl
  · refine Eq.trans (x1 (h := 3) hT rfl rfl (by decide)) ?_
    refine Eq.trans (x1 (h := 4) hT rfl rfl (by decide)) ?_
    refine Eq.trans (x31 (r := a0) (cl := 12) (as := [(0, a2)]) (st' := []) (h := 5) hT rfl sm_145 rfl ha0) ?_
    refine xbd (fun q2 => ?_)
    rw [rv_145]
    change zB P 314 6 [(2, ((a0 : Nat) : Int)), (0, a1), (0, a2), (0, a3)] [(0, q2.1)] q2.2 = _
    refine Eq.trans (x16_0 (h := 6) hT rfl) ?_
    refine xit (fun _ => ?_) (fun _ => ?_)
    · refine Eq.trans (x0 (h := 17) hT rfl) ?_
      exact x201 (h := 18) hT rfl
    · refine Eq.trans (x1 (h := 7) hT rfl rfl (by decide)) ?_
      refine Eq.trans (x0 (h := 8) hT rfl) ?_
      refine Eq.trans (x1 (h := 9) hT rfl rfl (by decide)) ?_
      refine Eq.trans (x1 (h := 10) hT rfl rfl (by decide)) ?_
      refine Eq.trans (x0 (h := 11) hT rfl) ?_
      refine Eq.trans (x31 (r := a0) (cl := 12) (as := [(0, a2), (0, 0)]) (st' := [(0, 0), (0, a3)]) (h := 12) hT rfl sm_60 rfl ha0) ?_
      refine xbd (fun q3 => ?_)
      rw [rv_60]
      change zB P 314 13 [(2, ((a0 : Nat) : Int)), (0, a1), (0, a2), (0, a3)] [(0, q3.1), (0, 0), (0, a3)] q3.2 = _
      refine Eq.trans (x0 (h := 13) hT rfl) ?_
      refine Eq.trans (x5_1 (h := 14) hT rfl) ?_
      refine Eq.trans (x34 (as := [(0, a3), (0, 0), (0, (q3.1 - 1))]) (st' := []) (h := 15) hT rfl sm_55 rfl) ?_
      refine xbd (fun q4 => ?_)
      rw [rv_55]
      change zB P 314 16 [(2, ((a0 : Nat) : Int)), (0, a1), (0, a2), (0, a3)] [(0, q4.1)] q4.2 = _
      refine Eq.trans (x16_1 (h := 16) hT rfl) ?_
      refine xit (fun _ => ?_) (fun _ => ?_)
      · refine Eq.trans (x1 (h := 19) hT rfl rfl (by decide)) ?_
        refine Eq.trans (x1 (h := 20) hT rfl rfl (by decide)) ?_
        refine Eq.trans (x1 (h := 21) hT rfl rfl (by decide)) ?_
        refine Eq.trans (x31 (r := a0) (cl := 12) (as := [(0, a1), (0, a2)]) (st' := []) (h := 22) hT rfl sm_291 rfl ha0) ?_
        refine xbd (fun q5 => ?_)
        rw [rv_291]
        change zB P 314 23 [(2, ((a0 : Nat) : Int)), (0, a1), (0, a2), (0, a3)] [] q5.2 = _
        refine Eq.trans (x1 (h := 23) hT rfl rfl (by decide)) ?_
        refine Eq.trans (x21r (r := a0) (cl := 12) (o := 17) (h := 24) hT rfl ha0 (by decide) rfl) ?_
        refine Eq.trans (x1 (h := 25) hT rfl rfl (by decide)) ?_
        refine Eq.trans (x24 (r := (a0 + 17)) (n := 6) (h := 26) hT rfl (Or.inl (kd_12_24 ha0)) (ln_12_24 ha0)) ?_
        refine xig (fun hz6 => ?_)
        exact x201 (h := 27) hT rfl
      · refine Eq.trans (x0 (h := 17) hT rfl) ?_
        exact x201 (h := 18) hT rfl
/-! WordLinksModel.pair(III)I -/
set_option maxRecDepth 100000 in
theorem e_315 {P : zP} {d : zD P} {a0 : Nat} {a1 : Int} {a2 : Int} {a3 : Int} (ha0 : zkd a0 = 12) : MM P 315 [(2, ((a0 : Nat) : Int)), (0, a1), (0, a2), (0, a3)] d = ((MM P 143 [(0, a1)] d).bind fun q1 => (if wr q1.1 = 0 then some ((-1), q1.2) else ((MM P 145 [(2, ((a0 : Nat) : Int)), (0, a2)] q1.2).bind fun q2 => (if wr q2.1 = 0 then some ((-1), q2.2) else ((MM P 55 [(0, a3), (0, 0), (0, 3)] q2.2).bind fun q3 => (if wr q3.1 ≠ 0 then ((MM P 291 [(2, ((a0 : Nat) : Int)), (0, a1), (0, a2)] q3.2).bind fun q4 => (if wr a3 ≠ 0 then (if wr a3 ≠ wr 1 then (if wr a3 ≠ wr 2 then ((MM P 135 [(2, ((a0 : Nat) : Int))] q4.2).bind fun q5 => some (q5.1, q5.2)) else ((MM P 60 [(2, ((a0 : Nat) : Int)), (0, a2), (0, 1)] q4.2).bind fun q6 => ((MM P 59 [(2, ((a0 : Nat) : Int))] q6.2).bind fun q7 => some ((zbin 3 (((zbin 6 1 q6.1) - 1)) ((zbin 5 q7.1 ((-1))))), q7.2)))) else ((MM P 133 [(2, ((a0 : Nat) : Int)), (0, a2)] q4.2).bind fun q8 => some (q8.1, q8.2))) else ((MM P 196 [(2, ((a0 : Nat) : Int)), (0, a2)] q4.2).bind fun q9 => some (q9.1, q9.2)))) else some ((-1), q3.2))))))) := by
  have hT := cT_315
  refine Eq.trans (MM_def sm_315 (Nat.le_of_ble_eq_true rfl)) ?_
  change zB P 315 0 [(2, ((a0 : Nat) : Int)), (0, a1), (0, a2), (0, a3)] [] d = _
  refine Eq.trans (x1 (h := 0) hT rfl rfl (by decide)) ?_
  refine Eq.trans (x34 (as := [(0, a1)]) (st' := []) (h := 1) hT rfl sm_143 rfl) ?_
  refine xbd (fun q1 => ?_)
  rw [rv_143]
  change zB P 315 2 [(2, ((a0 : Nat) : Int)), (0, a1), (0, a2), (0, a3)] [(0, q1.1)] q1.2 = _
  refine Eq.trans (x16_0 (h := 2) hT rfl) ?_
  refine xit (fun _ => ?_) (fun _ => ?_)
  · refine Eq.trans (x0 (h := 12) hT rfl) ?_
    exact x201 (h := 13) hT rfl
  · refine Eq.trans (x1 (h := 3) hT rfl rfl (by decide)) ?_
    refine Eq.trans (x1 (h := 4) hT rfl rfl (by decide)) ?_
    refine Eq.trans (x31 (r := a0) (cl := 12) (as := [(0, a2)]) (st' := []) (h := 5) hT rfl sm_145 rfl ha0) ?_
    refine xbd (fun q2 => ?_)
    rw [rv_145]
    change zB P 315 6 [(2, ((a0 : Nat) : Int)), (0, a1), (0, a2), (0, a3)] [(0, q2.1)] q2.2 = _
    refine Eq.trans (x16_0 (h := 6) hT rfl) ?_
    refine xit (fun _ => ?_) (fun _ => ?_)
    · refine Eq.trans (x0 (h := 12) hT rfl) ?_
      exact x201 (h := 13) hT rfl
    · refine Eq.trans (x1 (h := 7) hT rfl rfl (by decide)) ?_
      refine Eq.trans (x0 (h := 8) hT rfl) ?_
      refine Eq.trans (x0 (h := 9) hT rfl) ?_
      refine Eq.trans (x34 (as := [(0, a3), (0, 0), (0, 3)]) (st' := []) (h := 10) hT rfl sm_55 rfl) ?_
      refine xbd (fun q3 => ?_)
      rw [rv_55]
      change zB P 315 11 [(2, ((a0 : Nat) : Int)), (0, a1), (0, a2), (0, a3)] [(0, q3.1)] q3.2 = _
      refine Eq.trans (x16_1 (h := 11) hT rfl) ?_
      refine xit (fun _ => ?_) (fun _ => ?_)
      · refine Eq.trans (x1 (h := 14) hT rfl rfl (by decide)) ?_
        refine Eq.trans (x1 (h := 15) hT rfl rfl (by decide)) ?_
        refine Eq.trans (x1 (h := 16) hT rfl rfl (by decide)) ?_
        refine Eq.trans (x31 (r := a0) (cl := 12) (as := [(0, a1), (0, a2)]) (st' := []) (h := 17) hT rfl sm_291 rfl ha0) ?_
        refine xbd (fun q4 => ?_)
        rw [rv_291]
        change zB P 315 18 [(2, ((a0 : Nat) : Int)), (0, a1), (0, a2), (0, a3)] [] q4.2 = _
        refine Eq.trans (x1 (h := 18) hT rfl rfl (by decide)) ?_
        refine Eq.trans (x16_1 (h := 19) hT rfl) ?_
        refine xit (fun _ => ?_) (fun _ => ?_)
        · refine Eq.trans (x1 (h := 24) hT rfl rfl (by decide)) ?_
          refine Eq.trans (x0 (h := 25) hT rfl) ?_
          refine Eq.trans (x17_1 (h := 26) hT rfl) ?_
          refine xit (fun _ => ?_) (fun _ => ?_)
          · refine Eq.trans (x1 (h := 31) hT rfl rfl (by decide)) ?_
            refine Eq.trans (x0 (h := 32) hT rfl) ?_
            refine Eq.trans (x17_1 (h := 33) hT rfl) ?_
            refine xit (fun _ => ?_) (fun _ => ?_)
            · refine Eq.trans (x1 (h := 48) hT rfl rfl (by decide)) ?_
              refine Eq.trans (x31 (r := a0) (cl := 12) (as := []) (st' := []) (h := 49) hT rfl sm_135 rfl ha0) ?_
              refine xbd (fun q5 => ?_)
              rw [rv_135]
              change zB P 315 50 [(2, ((a0 : Nat) : Int)), (0, a1), (0, a2), (0, a3)] [(0, q5.1)] q5.2 = _
              exact x201 (h := 50) hT rfl
            · refine Eq.trans (x0 (h := 34) hT rfl) ?_
              refine Eq.trans (x1 (h := 35) hT rfl rfl (by decide)) ?_
              refine Eq.trans (x1 (h := 36) hT rfl rfl (by decide)) ?_
              refine Eq.trans (x0 (h := 37) hT rfl) ?_
              refine Eq.trans (x31 (r := a0) (cl := 12) (as := [(0, a2), (0, 1)]) (st' := [(0, 1)]) (h := 38) hT rfl sm_60 rfl ha0) ?_
              refine xbd (fun q6 => ?_)
              rw [rv_60]
              change zB P 315 39 [(2, ((a0 : Nat) : Int)), (0, a1), (0, a2), (0, a3)] [(0, q6.1), (0, 1)] q6.2 = _
              refine Eq.trans (x5n (h := 39) hT rfl) ?_
              refine Eq.trans (x0 (h := 40) hT rfl) ?_
              refine Eq.trans (x5_1 (h := 41) hT rfl) ?_
              refine Eq.trans (x1 (h := 42) hT rfl rfl (by decide)) ?_
              refine Eq.trans (x31 (r := a0) (cl := 12) (as := []) (st' := [(0, ((zbin 6 1 q6.1) - 1))]) (h := 43) hT rfl sm_59 rfl ha0) ?_
              refine xbd (fun q7 => ?_)
              rw [rv_59]
              change zB P 315 44 [(2, ((a0 : Nat) : Int)), (0, a1), (0, a2), (0, a3)] [(0, q7.1), (0, ((zbin 6 1 q6.1) - 1))] q7.2 = _
              refine Eq.trans (x0 (h := 44) hT rfl) ?_
              refine Eq.trans (x5n (h := 45) hT rfl) ?_
              refine Eq.trans (x5n (h := 46) hT rfl) ?_
              refine Eq.trans (x18 (h := 47) hT rfl) ?_
              exact x201 (h := 50) hT rfl
          · refine Eq.trans (x1 (h := 27) hT rfl rfl (by decide)) ?_
            refine Eq.trans (x1 (h := 28) hT rfl rfl (by decide)) ?_
            refine Eq.trans (x31 (r := a0) (cl := 12) (as := [(0, a2)]) (st' := []) (h := 29) hT rfl sm_133 rfl ha0) ?_
            refine xbd (fun q8 => ?_)
            rw [rv_133]
            change zB P 315 30 [(2, ((a0 : Nat) : Int)), (0, a1), (0, a2), (0, a3)] [(0, q8.1)] q8.2 = _
            refine Eq.trans (x18 (h := 30) hT rfl) ?_
            exact x201 (h := 50) hT rfl
        · refine Eq.trans (x1 (h := 20) hT rfl rfl (by decide)) ?_
          refine Eq.trans (x1 (h := 21) hT rfl rfl (by decide)) ?_
          refine Eq.trans (x31 (r := a0) (cl := 12) (as := [(0, a2)]) (st' := []) (h := 22) hT rfl sm_196 rfl ha0) ?_
          refine xbd (fun q9 => ?_)
          rw [rv_196]
          change zB P 315 23 [(2, ((a0 : Nat) : Int)), (0, a1), (0, a2), (0, a3)] [(0, q9.1)] q9.2 = _
          refine Eq.trans (x18 (h := 23) hT rfl) ?_
          exact x201 (h := 50) hT rfl
      · refine Eq.trans (x0 (h := 12) hT rfl) ?_
        exact x201 (h := 13) hT rfl
/-! WordLinksModel.partings(II)J -/
set_option maxRecDepth 100000 in
theorem e_316 {P : zP} {d : zD P} {a0 : Nat} {a1 : Int} {a2 : Int} (ha0 : zkd a0 = 12) : MM P 316 [(2, ((a0 : Nat) : Int)), (0, a1), (0, a2)] d = ((MM P 143 [(0, a1)] d).bind fun q1 => (if wr q1.1 = 0 then some ((-1), q1.2) else ((MM P 145 [(2, ((a0 : Nat) : Int)), (0, a2)] q1.2).bind fun q2 => (if wr q2.1 ≠ 0 then ((MM P 291 [(2, ((a0 : Nat) : Int)), (0, a1), (0, a2)] q2.2).bind fun q3 => ((MM P 60 [(2, ((a0 : Nat) : Int)), (0, a2), (0, 0)] q3.2).bind fun q4 => ((MM P 60 [(2, ((a0 : Nat) : Int)), (0, a2), (0, 1)] q4.2).bind fun q5 => zB P 316 25 [(2, ((a0 : Nat) : Int)), (0, a1), (0, a2), (0, q4.1), (0, q5.1), (0, 0), (3, 0), (3, 0), (3, 0)] [] q5.2))) else some ((-1), q2.2))))) := by
  have hT := cT_316
  refine Eq.trans (MM_def sm_316 (Nat.le_of_ble_eq_true rfl)) ?_
  change zB P 316 0 [(2, ((a0 : Nat) : Int)), (0, a1), (0, a2), (3, 0), (3, 0), (3, 0), (3, 0), (3, 0), (3, 0)] [] d = _
  refine Eq.trans (x1 (h := 0) hT rfl rfl (by decide)) ?_
  refine Eq.trans (x34 (as := [(0, a1)]) (st' := []) (h := 1) hT rfl sm_143 rfl) ?_
  refine xbd (fun q1 => ?_)
  rw [rv_143]
  change zB P 316 2 [(2, ((a0 : Nat) : Int)), (0, a1), (0, a2), (3, 0), (3, 0), (3, 0), (3, 0), (3, 0), (3, 0)] [(0, q1.1)] q1.2 = _
  refine Eq.trans (x16_0 (h := 2) hT rfl) ?_
  refine xit (fun _ => ?_) (fun _ => ?_)
  · refine Eq.trans (x0 (h := 7) hT rfl) ?_
    exact x202 (h := 8) hT rfl
  · refine Eq.trans (x1 (h := 3) hT rfl rfl (by decide)) ?_
    refine Eq.trans (x1 (h := 4) hT rfl rfl (by decide)) ?_
    refine Eq.trans (x31 (r := a0) (cl := 12) (as := [(0, a2)]) (st' := []) (h := 5) hT rfl sm_145 rfl ha0) ?_
    refine xbd (fun q2 => ?_)
    rw [rv_145]
    change zB P 316 6 [(2, ((a0 : Nat) : Int)), (0, a1), (0, a2), (3, 0), (3, 0), (3, 0), (3, 0), (3, 0), (3, 0)] [(0, q2.1)] q2.2 = _
    refine Eq.trans (x16_1 (h := 6) hT rfl) ?_
    refine xit (fun _ => ?_) (fun _ => ?_)
    · refine Eq.trans (x1 (h := 9) hT rfl rfl (by decide)) ?_
      refine Eq.trans (x1 (h := 10) hT rfl rfl (by decide)) ?_
      refine Eq.trans (x1 (h := 11) hT rfl rfl (by decide)) ?_
      refine Eq.trans (x31 (r := a0) (cl := 12) (as := [(0, a1), (0, a2)]) (st' := []) (h := 12) hT rfl sm_291 rfl ha0) ?_
      refine xbd (fun q3 => ?_)
      rw [rv_291]
      change zB P 316 13 [(2, ((a0 : Nat) : Int)), (0, a1), (0, a2), (3, 0), (3, 0), (3, 0), (3, 0), (3, 0), (3, 0)] [] q3.2 = _
      refine Eq.trans (x1 (h := 13) hT rfl rfl (by decide)) ?_
      refine Eq.trans (x1 (h := 14) hT rfl rfl (by decide)) ?_
      refine Eq.trans (x0 (h := 15) hT rfl) ?_
      refine Eq.trans (x31 (r := a0) (cl := 12) (as := [(0, a2), (0, 0)]) (st' := []) (h := 16) hT rfl sm_60 rfl ha0) ?_
      refine xbd (fun q4 => ?_)
      rw [rv_60]
      change zB P 316 17 [(2, ((a0 : Nat) : Int)), (0, a1), (0, a2), (3, 0), (3, 0), (3, 0), (3, 0), (3, 0), (3, 0)] [(0, q4.1)] q4.2 = _
      refine Eq.trans (x2 (ls' := [(2, ((a0 : Nat) : Int)), (0, a1), (0, a2), (0, q4.1), (3, 0), (3, 0), (3, 0), (3, 0), (3, 0)]) (h := 17) hT rfl (Nat.le_of_ble_eq_true rfl) rfl) ?_
      refine Eq.trans (x1 (h := 18) hT rfl rfl (by decide)) ?_
      refine Eq.trans (x1 (h := 19) hT rfl rfl (by decide)) ?_
      refine Eq.trans (x0 (h := 20) hT rfl) ?_
      refine Eq.trans (x31 (r := a0) (cl := 12) (as := [(0, a2), (0, 1)]) (st' := []) (h := 21) hT rfl sm_60 rfl ha0) ?_
      refine xbd (fun q5 => ?_)
      rw [rv_60]
      change zB P 316 22 [(2, ((a0 : Nat) : Int)), (0, a1), (0, a2), (0, q4.1), (3, 0), (3, 0), (3, 0), (3, 0), (3, 0)] [(0, q5.1)] q5.2 = _
      refine Eq.trans (x2 (ls' := [(2, ((a0 : Nat) : Int)), (0, a1), (0, a2), (0, q4.1), (0, q5.1), (3, 0), (3, 0), (3, 0), (3, 0)]) (h := 22) hT rfl (Nat.le_of_ble_eq_true rfl) rfl) ?_
      refine Eq.trans (x0 (h := 23) hT rfl) ?_
      refine Eq.trans (x2 (ls' := [(2, ((a0 : Nat) : Int)), (0, a1), (0, a2), (0, q4.1), (0, q5.1), (0, 0), (3, 0), (3, 0), (3, 0)]) (h := 24) hT rfl (Nat.le_of_ble_eq_true rfl) rfl) ?_
      exact rfl
    · refine Eq.trans (x0 (h := 7) hT rfl) ?_
      exact x202 (h := 8) hT rfl
set_option maxRecDepth 100000 in
theorem q_316_25 {P : zP} {d : zD P} {a0 : Nat} {g1 : zV} {g2 : zV} {a3 : Int} {a4 : Int} {a5 : Int} {g6 : zV} {g7 : zV} {g8 : zV} (ha0 : zkd a0 = 12) : zB P 316 25 [(2, ((a0 : Nat) : Int)), g1, g2, (0, a3), (0, a4), (0, a5), g6, g7, g8] [] d = (if wr a3 ≤ wr a5 then ((MM P 66 [(0, 0), (0, (a3 - 1)), (0, 0), (0, (a4 - 1))] d).bind fun q6 => (if zin q6.1 1296 then some ((q6.2.m ((a0 + 20)) (zix q6.1)), q6.2) else none)) else zB P 316 30 [(2, ((a0 : Nat) : Int)), g1, g2, (0, a3), (0, a4), (0, a5), (0, 0), g7, g8] [] d) := by
  have hT := cT_316
  refine Eq.trans (x1 (h := 25) hT rfl rfl (by decide)) ?_
  refine Eq.trans (x1 (h := 26) hT rfl rfl (by decide)) ?_
  refine Eq.trans (x17_3 (h := 27) hT rfl) ?_
  refine xit (fun _ => ?_) (fun _ => ?_)
  · refine Eq.trans (x1 (h := 77) hT rfl rfl (by decide)) ?_
    refine Eq.trans (x21r (r := a0) (cl := 12) (o := 20) (h := 78) hT rfl ha0 (by decide) rfl) ?_
    refine Eq.trans (x0 (h := 79) hT rfl) ?_
    refine Eq.trans (x1 (h := 80) hT rfl rfl (by decide)) ?_
    refine Eq.trans (x0 (h := 81) hT rfl) ?_
    refine Eq.trans (x5_1 (h := 82) hT rfl) ?_
    refine Eq.trans (x0 (h := 83) hT rfl) ?_
    refine Eq.trans (x1 (h := 84) hT rfl rfl (by decide)) ?_
    refine Eq.trans (x0 (h := 85) hT rfl) ?_
    refine Eq.trans (x5_1 (h := 86) hT rfl) ?_
    refine Eq.trans (x34 (as := [(0, 0), (0, (a3 - 1)), (0, 0), (0, (a4 - 1))]) (st' := [(2, (((a0 + 20) : Nat) : Int))]) (h := 87) hT rfl sm_66 rfl) ?_
    refine xbd (fun q6 => ?_)
    rw [rv_66]
    change zB P 316 88 [(2, ((a0 : Nat) : Int)), g1, g2, (0, a3), (0, a4), (0, a5), g6, g7, g8] [(0, q6.1), (2, (((a0 + 20) : Nat) : Int))] q6.2 = _
    refine Eq.trans (x24 (r := (a0 + 20)) (n := 1296) (h := 88) hT rfl (Or.inl (kd_12_27 ha0)) (ln_12_27 ha0)) ?_
    refine xig (fun hz7 => ?_)
    exact x202 (h := 89) hT rfl
  · refine Eq.trans (x0 (h := 28) hT rfl) ?_
    refine Eq.trans (x2 (ls' := [(2, ((a0 : Nat) : Int)), g1, g2, (0, a3), (0, a4), (0, a5), (0, 0), g7, g8]) (h := 29) hT rfl (Nat.le_of_ble_eq_true rfl) rfl) ?_
    exact rfl
set_option maxRecDepth 100000 in
theorem q_316_30 {P : zP} {d : zD P} {a0 : Nat} {g1 : zV} {g2 : zV} {a3 : Int} {a4 : Int} {a5 : Int} {a6 : Int} {g7 : zV} {g8 : zV} (ha0 : zkd a0 = 12) : zB P 316 30 [(2, ((a0 : Nat) : Int)), g1, g2, (0, a3), (0, a4), (0, a5), (0, a6), g7, g8] [] d = (if wr a4 ≤ wr a6 then zB P 316 25 [(2, ((a0 : Nat) : Int)), g1, g2, (0, a3), (0, a4), (0, (a5 + 1)), (0, a6), g7, g8] [] d else zB P 316 35 [(2, ((a0 : Nat) : Int)), g1, g2, (0, a3), (0, a4), (0, a5), (0, a6), (0, 0), g8] [] d) := by
  have hT := cT_316
  refine Eq.trans (x1 (h := 30) hT rfl rfl (by decide)) ?_
  refine Eq.trans (x1 (h := 31) hT rfl rfl (by decide)) ?_
  refine Eq.trans (x17_3 (h := 32) hT rfl) ?_
  refine xit (fun _ => ?_) (fun _ => ?_)
  · refine Eq.trans (x4 (ls' := [(2, ((a0 : Nat) : Int)), g1, g2, (0, a3), (0, a4), (0, (a5 + 1)), (0, a6), g7, g8]) (h := 75) hT rfl rfl rfl) ?_
    refine Eq.trans (x18 (h := 76) hT rfl) ?_
    exact rfl
  · refine Eq.trans (x0 (h := 33) hT rfl) ?_
    refine Eq.trans (x2 (ls' := [(2, ((a0 : Nat) : Int)), g1, g2, (0, a3), (0, a4), (0, a5), (0, a6), (0, 0), g8]) (h := 34) hT rfl (Nat.le_of_ble_eq_true rfl) rfl) ?_
    exact rfl
set_option maxRecDepth 100000 in
theorem q_316_35 {P : zP} {d : zD P} {a0 : Nat} {g1 : zV} {g2 : zV} {a3 : Int} {a4 : Int} {a5 : Int} {a6 : Int} {a7 : Int} {g8 : zV} (ha0 : zkd a0 = 12) : zB P 316 35 [(2, ((a0 : Nat) : Int)), g1, g2, (0, a3), (0, a4), (0, a5), (0, a6), (0, a7), g8] [] d = (if wr a3 ≤ wr ((a7 + a5)) then zB P 316 30 [(2, ((a0 : Nat) : Int)), g1, g2, (0, a3), (0, a4), (0, a5), (0, (a6 + 1)), (0, a7), g8] [] d else zB P 316 42 [(2, ((a0 : Nat) : Int)), g1, g2, (0, a3), (0, a4), (0, a5), (0, a6), (0, a7), (0, 0)] [] d) := by
  have hT := cT_316
  refine Eq.trans (x1 (h := 35) hT rfl rfl (by decide)) ?_
  refine Eq.trans (x1 (h := 36) hT rfl rfl (by decide)) ?_
  refine Eq.trans (x5_0 (h := 37) hT rfl) ?_
  refine Eq.trans (x1 (h := 38) hT rfl rfl (by decide)) ?_
  refine Eq.trans (x17_3 (h := 39) hT rfl) ?_
  refine xit (fun _ => ?_) (fun _ => ?_)
  · refine Eq.trans (x4 (ls' := [(2, ((a0 : Nat) : Int)), g1, g2, (0, a3), (0, a4), (0, a5), (0, (a6 + 1)), (0, a7), g8]) (h := 73) hT rfl rfl rfl) ?_
    refine Eq.trans (x18 (h := 74) hT rfl) ?_
    exact rfl
  · refine Eq.trans (x0 (h := 40) hT rfl) ?_
    refine Eq.trans (x2 (ls' := [(2, ((a0 : Nat) : Int)), g1, g2, (0, a3), (0, a4), (0, a5), (0, a6), (0, a7), (0, 0)]) (h := 41) hT rfl (Nat.le_of_ble_eq_true rfl) rfl) ?_
    exact rfl
set_option maxRecDepth 100000 in
theorem q_316_42 {P : zP} {d : zD P} {a0 : Nat} {g1 : zV} {g2 : zV} {a3 : Int} {a4 : Int} {a5 : Int} {a6 : Int} {a7 : Int} {a8 : Int} (ha0 : zkd a0 = 12) : zB P 316 42 [(2, ((a0 : Nat) : Int)), g1, g2, (0, a3), (0, a4), (0, a5), (0, a6), (0, a7), (0, a8)] [] d = (if wr a4 ≤ wr ((a8 + a6)) then zB P 316 35 [(2, ((a0 : Nat) : Int)), g1, g2, (0, a3), (0, a4), (0, a5), (0, a6), (0, (a7 + 1)), (0, a8)] [] d else ((MM P 66 [(0, a7), (0, (a7 + a5)), (0, a8), (0, (a8 + a6))] d).bind fun q8 => ((MM P 204 [(2, ((a0 : Nat) : Int)), (0, a7), (0, (a7 + a5)), (0, a8), (0, (a8 + a6))] q8.2).bind fun q9 => (if zin q8.1 1296 then zB P 316 42 [(2, ((a0 : Nat) : Int)), g1, g2, (0, a3), (0, a4), (0, a5), (0, a6), (0, a7), (0, (a8 + 1))] [] ((q9.2.up ((a0 + 20)) (zix q8.1) q9.1)) else none)))) := by
  have hT := cT_316
  refine Eq.trans (x1 (h := 42) hT rfl rfl (by decide)) ?_
  refine Eq.trans (x1 (h := 43) hT rfl rfl (by decide)) ?_
  refine Eq.trans (x5_0 (h := 44) hT rfl) ?_
  refine Eq.trans (x1 (h := 45) hT rfl rfl (by decide)) ?_
  refine Eq.trans (x17_3 (h := 46) hT rfl) ?_
  refine xit (fun _ => ?_) (fun _ => ?_)
  · refine Eq.trans (x4 (ls' := [(2, ((a0 : Nat) : Int)), g1, g2, (0, a3), (0, a4), (0, a5), (0, a6), (0, (a7 + 1)), (0, a8)]) (h := 71) hT rfl rfl rfl) ?_
    refine Eq.trans (x18 (h := 72) hT rfl) ?_
    exact rfl
  · refine Eq.trans (x1 (h := 47) hT rfl rfl (by decide)) ?_
    refine Eq.trans (x21r (r := a0) (cl := 12) (o := 20) (h := 48) hT rfl ha0 (by decide) rfl) ?_
    refine Eq.trans (x1 (h := 49) hT rfl rfl (by decide)) ?_
    refine Eq.trans (x1 (h := 50) hT rfl rfl (by decide)) ?_
    refine Eq.trans (x1 (h := 51) hT rfl rfl (by decide)) ?_
    refine Eq.trans (x5_0 (h := 52) hT rfl) ?_
    refine Eq.trans (x1 (h := 53) hT rfl rfl (by decide)) ?_
    refine Eq.trans (x1 (h := 54) hT rfl rfl (by decide)) ?_
    refine Eq.trans (x1 (h := 55) hT rfl rfl (by decide)) ?_
    refine Eq.trans (x5_0 (h := 56) hT rfl) ?_
    refine Eq.trans (x34 (as := [(0, a7), (0, (a7 + a5)), (0, a8), (0, (a8 + a6))]) (st' := [(2, (((a0 + 20) : Nat) : Int))]) (h := 57) hT rfl sm_66 rfl) ?_
    refine xbd (fun q8 => ?_)
    rw [rv_66]
    change zB P 316 58 [(2, ((a0 : Nat) : Int)), g1, g2, (0, a3), (0, a4), (0, a5), (0, a6), (0, a7), (0, a8)] [(0, q8.1), (2, (((a0 + 20) : Nat) : Int))] q8.2 = _
    refine Eq.trans (x1 (h := 58) hT rfl rfl (by decide)) ?_
    refine Eq.trans (x1 (h := 59) hT rfl rfl (by decide)) ?_
    refine Eq.trans (x1 (h := 60) hT rfl rfl (by decide)) ?_
    refine Eq.trans (x1 (h := 61) hT rfl rfl (by decide)) ?_
    refine Eq.trans (x5_0 (h := 62) hT rfl) ?_
    refine Eq.trans (x1 (h := 63) hT rfl rfl (by decide)) ?_
    refine Eq.trans (x1 (h := 64) hT rfl rfl (by decide)) ?_
    refine Eq.trans (x1 (h := 65) hT rfl rfl (by decide)) ?_
    refine Eq.trans (x5_0 (h := 66) hT rfl) ?_
    refine Eq.trans (x31 (r := a0) (cl := 12) (as := [(0, a7), (0, (a7 + a5)), (0, a8), (0, (a8 + a6))]) (st' := [(0, q8.1), (2, (((a0 + 20) : Nat) : Int))]) (h := 67) hT rfl sm_204 rfl ha0) ?_
    refine xbd (fun q9 => ?_)
    rw [rv_204]
    change zB P 316 68 [(2, ((a0 : Nat) : Int)), g1, g2, (0, a3), (0, a4), (0, a5), (0, a6), (0, a7), (0, a8)] [(1, q9.1), (0, q8.1), (2, (((a0 + 20) : Nat) : Int))] q9.2 = _
    refine Eq.trans (x25a (r := (a0 + 20)) (n := 1296) (h := 68) hT rfl (kd_12_27 ha0) (ln_12_27 ha0) (by decide) rfl) ?_
    refine xig (fun hz10 => ?_)
    refine Eq.trans (x4 (ls' := [(2, ((a0 : Nat) : Int)), g1, g2, (0, a3), (0, a4), (0, a5), (0, a6), (0, a7), (0, (a8 + 1))]) (h := 69) hT rfl rfl rfl) ?_
    refine Eq.trans (x18 (h := 70) hT rfl) ?_
    exact rfl
/-! WordLinksModel.readsAll(IZ)Z -/
set_option maxRecDepth 100000 in
theorem e_317 {P : zP} {d : zD P} {a0 : Nat} {a1 : Int} {a2 : Int} (ha0 : zkd a0 = 12) : MM P 317 [(2, ((a0 : Nat) : Int)), (0, a1), (0, a2)] d = ((MM P 294 [(2, ((a0 : Nat) : Int)), (0, a2)] ((((((d.up a0 4 0)).up a0 5 a1)).up a0 7 0))).bind fun q1 => zB P 317 13 [(2, ((a0 : Nat) : Int)), (0, a1), (0, a2), (0, q1.1)] [] q1.2) := by
  have hT := cT_317
  refine Eq.trans (MM_def sm_317 (Nat.le_of_ble_eq_true rfl)) ?_
  change zB P 317 0 [(2, ((a0 : Nat) : Int)), (0, a1), (0, a2), (3, 0)] [] d = _
  refine Eq.trans (x1 (h := 0) hT rfl rfl (by decide)) ?_
  refine Eq.trans (x0 (h := 1) hT rfl) ?_
  refine Eq.trans (x22 (r := a0) (cl := 12) (h := 2) hT rfl ha0 (by decide) rfl (by decide)) ?_
  refine Eq.trans (x1 (h := 3) hT rfl rfl (by decide)) ?_
  refine Eq.trans (x1 (h := 4) hT rfl rfl (by decide)) ?_
  refine Eq.trans (x22 (r := a0) (cl := 12) (h := 5) hT rfl ha0 (by decide) rfl (by decide)) ?_
  refine Eq.trans (x1 (h := 6) hT rfl rfl (by decide)) ?_
  refine Eq.trans (x0 (h := 7) hT rfl) ?_
  refine Eq.trans (x22 (r := a0) (cl := 12) (h := 8) hT rfl ha0 (by decide) rfl (by decide)) ?_
  refine Eq.trans (x1 (h := 9) hT rfl rfl (by decide)) ?_
  refine Eq.trans (x1 (h := 10) hT rfl rfl (by decide)) ?_
  refine Eq.trans (x31 (r := a0) (cl := 12) (as := [(0, a2)]) (st' := []) (h := 11) hT rfl sm_294 rfl ha0) ?_
  refine xbd (fun q1 => ?_)
  rw [rv_294]
  change zB P 317 12 [(2, ((a0 : Nat) : Int)), (0, a1), (0, a2), (3, 0)] [(0, q1.1)] q1.2 = _
  refine Eq.trans (x2 (ls' := [(2, ((a0 : Nat) : Int)), (0, a1), (0, a2), (0, q1.1)]) (h := 12) hT rfl (Nat.le_of_ble_eq_true rfl) rfl) ?_
  exact rfl
set_option maxRecDepth 100000 in
theorem q_317_13 {P : zP} {d : zD P} {a0 : Nat} {g1 : zV} {a2 : Int} {a3 : Int} (ha0 : zkd a0 = 12) : zB P 317 13 [(2, ((a0 : Nat) : Int)), g1, (0, a2), (0, a3)] [] d = (if wr a3 = 0 then (if a3 = 0 ∨ a3 = 1 then some (a3, d) else none) else (if wr ((d.m a0 5)) ≤ wr ((d.m a0 4)) then (if a3 = 0 ∨ a3 = 1 then some (a3, d) else none) else ((MM P 161 [(2, ((a0 : Nat) : Int)), (0, 59)] d).bind fun q2 => (if wr q2.1 = 0 then zB P 317 13 [(2, ((a0 : Nat) : Int)), g1, (0, a2), (0, 0)] [] q2.2 else ((MM P 294 [(2, ((a0 : Nat) : Int)), (0, a2)] q2.2).bind fun q3 => (if wr q3.1 = 0 then zB P 317 13 [(2, ((a0 : Nat) : Int)), g1, (0, a2), (0, 0)] [] q3.2 else zB P 317 13 [(2, ((a0 : Nat) : Int)), g1, (0, a2), (0, 1)] [] q3.2)))))) := by
  have hT := cT_317
  refine Eq.trans (x1 (h := 13) hT rfl rfl (by decide)) ?_
  refine Eq.trans (x16_0 (h := 14) hT rfl) ?_
  refine xit (fun _ => ?_) (fun _ => ?_)
  · refine Eq.trans (x1 (h := 33) hT rfl rfl (by decide)) ?_
    exact x203 (h := 34) hT rfl
  · refine Eq.trans (x1 (h := 15) hT rfl rfl (by decide)) ?_
    refine Eq.trans (x21 (r := a0) (cl := 12) (h := 16) hT rfl ha0) ?_
    refine Eq.trans (x1 (h := 17) hT rfl rfl (by decide)) ?_
    refine Eq.trans (x21 (r := a0) (cl := 12) (h := 18) hT rfl ha0) ?_
    refine Eq.trans (x17_3 (h := 19) hT rfl) ?_
    refine xit (fun _ => ?_) (fun _ => ?_)
    · refine Eq.trans (x1 (h := 33) hT rfl rfl (by decide)) ?_
      exact x203 (h := 34) hT rfl
    · refine Eq.trans (x1 (h := 20) hT rfl rfl (by decide)) ?_
      refine Eq.trans (x0 (h := 21) hT rfl) ?_
      refine Eq.trans (x31 (r := a0) (cl := 12) (as := [(0, 59)]) (st' := []) (h := 22) hT rfl sm_161 rfl ha0) ?_
      refine xbd (fun q2 => ?_)
      rw [rv_161]
      change zB P 317 23 [(2, ((a0 : Nat) : Int)), g1, (0, a2), (0, a3)] [(0, q2.1)] q2.2 = _
      refine Eq.trans (x16_0 (h := 23) hT rfl) ?_
      refine xit (fun _ => ?_) (fun _ => ?_)
      · refine Eq.trans (x0 (h := 30) hT rfl) ?_
        refine Eq.trans (x2 (ls' := [(2, ((a0 : Nat) : Int)), g1, (0, a2), (0, 0)]) (h := 31) hT rfl (Nat.le_of_ble_eq_true rfl) rfl) ?_
        refine Eq.trans (x18 (h := 32) hT rfl) ?_
        exact rfl
      · refine Eq.trans (x1 (h := 24) hT rfl rfl (by decide)) ?_
        refine Eq.trans (x1 (h := 25) hT rfl rfl (by decide)) ?_
        refine Eq.trans (x31 (r := a0) (cl := 12) (as := [(0, a2)]) (st' := []) (h := 26) hT rfl sm_294 rfl ha0) ?_
        refine xbd (fun q3 => ?_)
        rw [rv_294]
        change zB P 317 27 [(2, ((a0 : Nat) : Int)), g1, (0, a2), (0, a3)] [(0, q3.1)] q3.2 = _
        refine Eq.trans (x16_0 (h := 27) hT rfl) ?_
        refine xit (fun _ => ?_) (fun _ => ?_)
        · refine Eq.trans (x0 (h := 30) hT rfl) ?_
          refine Eq.trans (x2 (ls' := [(2, ((a0 : Nat) : Int)), g1, (0, a2), (0, 0)]) (h := 31) hT rfl (Nat.le_of_ble_eq_true rfl) rfl) ?_
          refine Eq.trans (x18 (h := 32) hT rfl) ?_
          exact rfl
        · refine Eq.trans (x0 (h := 28) hT rfl) ?_
          refine Eq.trans (x18 (h := 29) hT rfl) ?_
          refine Eq.trans (x2 (ls' := [(2, ((a0 : Nat) : Int)), g1, (0, a2), (0, 1)]) (h := 31) hT rfl (Nat.le_of_ble_eq_true rfl) rfl) ?_
          refine Eq.trans (x18 (h := 32) hT rfl) ?_
          exact rfl
/-! WordLinksModel.readsSheet(I)Z -/
set_option maxRecDepth 100000 in
theorem e_318 {P : zP} {d : zD P} {a0 : Nat} {a1 : Int} (ha0 : zkd a0 = 12) : MM P 318 [(2, ((a0 : Nat) : Int)), (0, a1)] d = (if zin a1 2 then ((MM P 295 [(2, ((a0 : Nat) : Int)), (0, a1)] ((d.up ((a0 + 8)) (zix a1) 0))).bind fun q2 => (if wr q2.1 ≠ 0 then zB P 318 11 [(2, ((a0 : Nat) : Int)), (0, a1)] [] q2.2 else some (0, q2.2))) else none) := by
  have hT := cT_318
  refine Eq.trans (MM_def sm_318 (Nat.le_of_ble_eq_true rfl)) ?_
  change zB P 318 0 [(2, ((a0 : Nat) : Int)), (0, a1)] [] d = _
  refine Eq.trans (x1 (h := 0) hT rfl rfl (by decide)) ?_
  refine Eq.trans (x21r (r := a0) (cl := 12) (o := 8) (h := 1) hT rfl ha0 (by decide) rfl) ?_
  refine Eq.trans (x1 (h := 2) hT rfl rfl (by decide)) ?_
  refine Eq.trans (x0 (h := 3) hT rfl) ?_
  refine Eq.trans (x25a (r := (a0 + 8)) (n := 2) (h := 4) hT rfl (kd_12_15 ha0) (ln_12_15 ha0) (by decide) rfl) ?_
  refine xig (fun hz1 => ?_)
  refine Eq.trans (x1 (h := 5) hT rfl rfl (by decide)) ?_
  refine Eq.trans (x1 (h := 6) hT rfl rfl (by decide)) ?_
  refine Eq.trans (x31 (r := a0) (cl := 12) (as := [(0, a1)]) (st' := []) (h := 7) hT rfl sm_295 rfl ha0) ?_
  refine xbd (fun q2 => ?_)
  rw [rv_295]
  change zB P 318 8 [(2, ((a0 : Nat) : Int)), (0, a1)] [(0, q2.1)] q2.2 = _
  refine Eq.trans (x16_1 (h := 8) hT rfl) ?_
  refine xit (fun _ => ?_) (fun _ => ?_)
  · exact rfl
  · refine Eq.trans (x0 (h := 9) hT rfl) ?_
    exact x203c (h := 10) hT rfl (by decide)
set_option maxRecDepth 100000 in
theorem q_318_11 {P : zP} {d : zD P} {a0 : Nat} {a1 : Int} (ha0 : zkd a0 = 12) : zB P 318 11 [(2, ((a0 : Nat) : Int)), (0, a1)] [] d = ((MM P 54 [(2, ((a0 : Nat) : Int))] d).bind fun q3 => (if wr q3.1 ≠ wr 44 then some (1, q3.2) else ((MM P 295 [(2, ((a0 : Nat) : Int)), (0, a1)] ((q3.2.up a0 4 (((q3.2.m a0 4) + 1))))).bind fun q4 => (if wr q4.1 ≠ 0 then zB P 318 11 [(2, ((a0 : Nat) : Int)), (0, a1)] [] q4.2 else some (0, q4.2))))) := by
  have hT := cT_318
  refine Eq.trans (x1 (h := 11) hT rfl rfl (by decide)) ?_
  refine Eq.trans (x31 (r := a0) (cl := 12) (as := []) (st' := []) (h := 12) hT rfl sm_54 rfl ha0) ?_
  refine xbd (fun q3 => ?_)
  rw [rv_54]
  change zB P 318 13 [(2, ((a0 : Nat) : Int)), (0, a1)] [(0, q3.1)] q3.2 = _
  refine Eq.trans (x0 (h := 13) hT rfl) ?_
  refine Eq.trans (x17_1 (h := 14) hT rfl) ?_
  refine xit (fun _ => ?_) (fun _ => ?_)
  · refine Eq.trans (x0 (h := 27) hT rfl) ?_
    exact x203c (h := 28) hT rfl (by decide)
  · refine Eq.trans (x1 (h := 15) hT rfl rfl (by decide)) ?_
    refine Eq.trans (x1 (h := 16) hT rfl rfl (by decide)) ?_
    refine Eq.trans (x21 (r := a0) (cl := 12) (h := 17) hT rfl ha0) ?_
    refine Eq.trans (x0 (h := 18) hT rfl) ?_
    refine Eq.trans (x5_0 (h := 19) hT rfl) ?_
    refine Eq.trans (x22 (r := a0) (cl := 12) (h := 20) hT rfl ha0 (by decide) rfl (by decide)) ?_
    refine Eq.trans (x1 (h := 21) hT rfl rfl (by decide)) ?_
    refine Eq.trans (x1 (h := 22) hT rfl rfl (by decide)) ?_
    refine Eq.trans (x31 (r := a0) (cl := 12) (as := [(0, a1)]) (st' := []) (h := 23) hT rfl sm_295 rfl ha0) ?_
    refine xbd (fun q4 => ?_)
    rw [rv_295]
    change zB P 318 24 [(2, ((a0 : Nat) : Int)), (0, a1)] [(0, q4.1)] q4.2 = _
    refine Eq.trans (x16_1 (h := 24) hT rfl) ?_
    refine xit (fun _ => ?_) (fun _ => ?_)
    · exact rfl
    · refine Eq.trans (x0 (h := 25) hT rfl) ?_
      exact x203c (h := 26) hT rfl (by decide)
/-! WordLinksModel.rounds(II)I -/
set_option maxRecDepth 100000 in
theorem e_319 {P : zP} {d : zD P} {a0 : Nat} {a1 : Int} {a2 : Int} (ha0 : zkd a0 = 12) : MM P 319 [(2, ((a0 : Nat) : Int)), (0, a1), (0, a2)] d = ((MM P 147 [(0, a1)] d).bind fun q1 => (if wr q1.1 = 0 then some ((-1), q1.2) else ((MM P 55 [(0, a2), (0, 1), (0, 30)] q1.2).bind fun q2 => (if wr q2.1 ≠ 0 then ((MM P 50 [(2, ((a0 : Nat) : Int)), (0, 0), (0, 2)] q2.2).bind fun q3 => zB P 319 16 [(2, ((a0 : Nat) : Int)), (0, a1), (0, a2), (0, 0)] [] q3.2) else some ((-1), q2.2))))) := by
  have hT := cT_319
  refine Eq.trans (MM_def sm_319 (Nat.le_of_ble_eq_true rfl)) ?_
  change zB P 319 0 [(2, ((a0 : Nat) : Int)), (0, a1), (0, a2), (3, 0)] [] d = _
  refine Eq.trans (x1 (h := 0) hT rfl rfl (by decide)) ?_
  refine Eq.trans (x34 (as := [(0, a1)]) (st' := []) (h := 1) hT rfl sm_147 rfl) ?_
  refine xbd (fun q1 => ?_)
  rw [rv_147]
  change zB P 319 2 [(2, ((a0 : Nat) : Int)), (0, a1), (0, a2), (3, 0)] [(0, q1.1)] q1.2 = _
  refine Eq.trans (x16_0 (h := 2) hT rfl) ?_
  refine xit (fun _ => ?_) (fun _ => ?_)
  · refine Eq.trans (x0 (h := 8) hT rfl) ?_
    exact x201 (h := 9) hT rfl
  · refine Eq.trans (x1 (h := 3) hT rfl rfl (by decide)) ?_
    refine Eq.trans (x0 (h := 4) hT rfl) ?_
    refine Eq.trans (x0 (h := 5) hT rfl) ?_
    refine Eq.trans (x34 (as := [(0, a2), (0, 1), (0, 30)]) (st' := []) (h := 6) hT rfl sm_55 rfl) ?_
    refine xbd (fun q2 => ?_)
    rw [rv_55]
    change zB P 319 7 [(2, ((a0 : Nat) : Int)), (0, a1), (0, a2), (3, 0)] [(0, q2.1)] q2.2 = _
    refine Eq.trans (x16_1 (h := 7) hT rfl) ?_
    refine xit (fun _ => ?_) (fun _ => ?_)
    · refine Eq.trans (x1 (h := 10) hT rfl rfl (by decide)) ?_
      refine Eq.trans (x0 (h := 11) hT rfl) ?_
      refine Eq.trans (x0 (h := 12) hT rfl) ?_
      refine Eq.trans (x31 (r := a0) (cl := 12) (as := [(0, 0), (0, 2)]) (st' := []) (h := 13) hT rfl sm_50 rfl ha0) ?_
      refine xbd (fun q3 => ?_)
      rw [rv_50]
      change zB P 319 14 [(2, ((a0 : Nat) : Int)), (0, a1), (0, a2), (3, 0)] [] q3.2 = _
      refine Eq.trans (x0 (h := 14) hT rfl) ?_
      refine Eq.trans (x2 (ls' := [(2, ((a0 : Nat) : Int)), (0, a1), (0, a2), (0, 0)]) (h := 15) hT rfl (Nat.le_of_ble_eq_true rfl) rfl) ?_
      exact rfl
    · refine Eq.trans (x0 (h := 8) hT rfl) ?_
      exact x201 (h := 9) hT rfl
set_option maxRecDepth 100000 in
theorem q_319_16 {P : zP} {d : zD P} {a0 : Nat} {a1 : Int} {a2 : Int} {a3 : Int} (ha0 : zkd a0 = 12) : zB P 319 16 [(2, ((a0 : Nat) : Int)), (0, a1), (0, a2), (0, a3)] [] d = (if wr a2 ≤ wr a3 then ((MM P 65 [(2, ((a0 : Nat) : Int)), (0, a1), (0, 2)] d).bind fun q4 => some (q4.1, q4.2)) else ((MM P 292 [(2, ((a0 : Nat) : Int)), (0, a1)] d).bind fun q5 => zB P 319 16 [(2, ((a0 : Nat) : Int)), (0, a1), (0, a2), (0, (a3 + 1))] [] q5.2)) := by
  have hT := cT_319
  refine Eq.trans (x1 (h := 16) hT rfl rfl (by decide)) ?_
  refine Eq.trans (x1 (h := 17) hT rfl rfl (by decide)) ?_
  refine Eq.trans (x17_3 (h := 18) hT rfl) ?_
  refine xit (fun _ => ?_) (fun _ => ?_)
  · refine Eq.trans (x1 (h := 24) hT rfl rfl (by decide)) ?_
    refine Eq.trans (x1 (h := 25) hT rfl rfl (by decide)) ?_
    refine Eq.trans (x0 (h := 26) hT rfl) ?_
    refine Eq.trans (x31 (r := a0) (cl := 12) (as := [(0, a1), (0, 2)]) (st' := []) (h := 27) hT rfl sm_65 rfl ha0) ?_
    refine xbd (fun q4 => ?_)
    rw [rv_65]
    change zB P 319 28 [(2, ((a0 : Nat) : Int)), (0, a1), (0, a2), (0, a3)] [(0, q4.1)] q4.2 = _
    exact x201 (h := 28) hT rfl
  · refine Eq.trans (x1 (h := 19) hT rfl rfl (by decide)) ?_
    refine Eq.trans (x1 (h := 20) hT rfl rfl (by decide)) ?_
    refine Eq.trans (x31 (r := a0) (cl := 12) (as := [(0, a1)]) (st' := []) (h := 21) hT rfl sm_292 rfl ha0) ?_
    refine xbd (fun q5 => ?_)
    rw [rv_292]
    change zB P 319 22 [(2, ((a0 : Nat) : Int)), (0, a1), (0, a2), (0, a3)] [] q5.2 = _
    refine Eq.trans (x4 (ls' := [(2, ((a0 : Nat) : Int)), (0, a1), (0, a2), (0, (a3 + 1))]) (h := 22) hT rfl rfl rfl) ?_
    refine Eq.trans (x18 (h := 23) hT rfl) ?_
    exact rfl
/-! WordLinksModel.agree(I)I -/
set_option maxRecDepth 100000 in
theorem e_320 {P : zP} {d : zD P} {a0 : Nat} {a1 : Int} (ha0 : zkd a0 = 12) : MM P 320 [(2, ((a0 : Nat) : Int)), (0, a1)] d = ((MM P 143 [(0, a1)] d).bind fun q1 => (if wr q1.1 = 0 then some ((-1), q1.2) else ((MM P 308 [(2, ((a0 : Nat) : Int)), (0, a1)] q1.2).bind fun q2 => some (q2.1, q2.2)))) := by
  have hT := cT_320
  refine Eq.trans (MM_def sm_320 (Nat.le_of_ble_eq_true rfl)) ?_
  change zB P 320 0 [(2, ((a0 : Nat) : Int)), (0, a1)] [] d = _
  refine Eq.trans (x1 (h := 0) hT rfl rfl (by decide)) ?_
  refine Eq.trans (x34 (as := [(0, a1)]) (st' := []) (h := 1) hT rfl sm_143 rfl) ?_
  refine xbd (fun q1 => ?_)
  rw [rv_143]
  change zB P 320 2 [(2, ((a0 : Nat) : Int)), (0, a1)] [(0, q1.1)] q1.2 = _
  refine Eq.trans (x16_0 (h := 2) hT rfl) ?_
  refine xit (fun _ => ?_) (fun _ => ?_)
  · refine Eq.trans (x0 (h := 7) hT rfl) ?_
    exact x201 (h := 8) hT rfl
  · refine Eq.trans (x1 (h := 3) hT rfl rfl (by decide)) ?_
    refine Eq.trans (x1 (h := 4) hT rfl rfl (by decide)) ?_
    refine Eq.trans (x31 (r := a0) (cl := 12) (as := [(0, a1)]) (st' := []) (h := 5) hT rfl sm_308 rfl ha0) ?_
    refine xbd (fun q2 => ?_)
    rw [rv_308]
    change zB P 320 6 [(2, ((a0 : Nat) : Int)), (0, a1)] [(0, q2.1)] q2.2 = _
    refine Eq.trans (x18 (h := 6) hT rfl) ?_
    exact x201 (h := 8) hT rfl
/-! WordLinksModel.bestRounds(I)I -/
set_option maxRecDepth 100000 in
theorem e_321 {P : zP} {d : zD P} {a0 : Nat} {a1 : Int} (ha0 : zkd a0 = 12) : MM P 321 [(2, ((a0 : Nat) : Int)), (0, a1)] d = ((MM P 143 [(0, a1)] d).bind fun q1 => (if wr q1.1 ≠ 0 then ((MM P 50 [(2, ((a0 : Nat) : Int)), (0, 0), (0, 3)] q1.2).bind fun q2 => ((MM P 308 [(2, ((a0 : Nat) : Int)), (0, a1)] q2.2).bind fun q3 => zB P 321 17 [(2, ((a0 : Nat) : Int)), (0, a1), (0, 0), (0, q3.1), (0, 1), (3, 0)] [] q3.2)) else some ((-1), q1.2))) := by
  have hT := cT_321
  refine Eq.trans (MM_def sm_321 (Nat.le_of_ble_eq_true rfl)) ?_
  change zB P 321 0 [(2, ((a0 : Nat) : Int)), (0, a1), (3, 0), (3, 0), (3, 0), (3, 0)] [] d = _
  refine Eq.trans (x1 (h := 0) hT rfl rfl (by decide)) ?_
  refine Eq.trans (x34 (as := [(0, a1)]) (st' := []) (h := 1) hT rfl sm_143 rfl) ?_
  refine xbd (fun q1 => ?_)
  rw [rv_143]
  change zB P 321 2 [(2, ((a0 : Nat) : Int)), (0, a1), (3, 0), (3, 0), (3, 0), (3, 0)] [(0, q1.1)] q1.2 = _
  refine Eq.trans (x16_1 (h := 2) hT rfl) ?_
  refine xit (fun _ => ?_) (fun _ => ?_)
  · refine Eq.trans (x1 (h := 5) hT rfl rfl (by decide)) ?_
    refine Eq.trans (x0 (h := 6) hT rfl) ?_
    refine Eq.trans (x0 (h := 7) hT rfl) ?_
    refine Eq.trans (x31 (r := a0) (cl := 12) (as := [(0, 0), (0, 3)]) (st' := []) (h := 8) hT rfl sm_50 rfl ha0) ?_
    refine xbd (fun q2 => ?_)
    rw [rv_50]
    change zB P 321 9 [(2, ((a0 : Nat) : Int)), (0, a1), (3, 0), (3, 0), (3, 0), (3, 0)] [] q2.2 = _
    refine Eq.trans (x0 (h := 9) hT rfl) ?_
    refine Eq.trans (x2 (ls' := [(2, ((a0 : Nat) : Int)), (0, a1), (0, 0), (3, 0), (3, 0), (3, 0)]) (h := 10) hT rfl (Nat.le_of_ble_eq_true rfl) rfl) ?_
    refine Eq.trans (x1 (h := 11) hT rfl rfl (by decide)) ?_
    refine Eq.trans (x1 (h := 12) hT rfl rfl (by decide)) ?_
    refine Eq.trans (x31 (r := a0) (cl := 12) (as := [(0, a1)]) (st' := []) (h := 13) hT rfl sm_308 rfl ha0) ?_
    refine xbd (fun q3 => ?_)
    rw [rv_308]
    change zB P 321 14 [(2, ((a0 : Nat) : Int)), (0, a1), (0, 0), (3, 0), (3, 0), (3, 0)] [(0, q3.1)] q3.2 = _
    refine Eq.trans (x2 (ls' := [(2, ((a0 : Nat) : Int)), (0, a1), (0, 0), (0, q3.1), (3, 0), (3, 0)]) (h := 14) hT rfl (Nat.le_of_ble_eq_true rfl) rfl) ?_
    refine Eq.trans (x0 (h := 15) hT rfl) ?_
    refine Eq.trans (x2 (ls' := [(2, ((a0 : Nat) : Int)), (0, a1), (0, 0), (0, q3.1), (0, 1), (3, 0)]) (h := 16) hT rfl (Nat.le_of_ble_eq_true rfl) rfl) ?_
    exact rfl
  · refine Eq.trans (x0 (h := 3) hT rfl) ?_
    exact x201 (h := 4) hT rfl
set_option maxRecDepth 100000 in
theorem q_321_17 {P : zP} {d : zD P} {a0 : Nat} {a1 : Int} {a2 : Int} {a3 : Int} {a4 : Int} {g5 : zV} (ha0 : zkd a0 = 12) : zB P 321 17 [(2, ((a0 : Nat) : Int)), (0, a1), (0, a2), (0, a3), (0, a4), g5] [] d = (if wr 30 < wr a4 then ((MM P 50 [(2, ((a0 : Nat) : Int)), (0, 3), (0, 0)] d).bind fun q4 => some (a2, q4.2)) else ((MM P 292 [(2, ((a0 : Nat) : Int)), (0, 0)] d).bind fun q5 => ((MM P 292 [(2, ((a0 : Nat) : Int)), (0, 1)] q5.2).bind fun q6 => ((MM P 308 [(2, ((a0 : Nat) : Int)), (0, a1)] q6.2).bind fun q7 => (if wr q7.1 ≤ wr a3 then ((MM P 61 [(0, a3), (0, q7.1)] q7.2).bind fun q8 => zB P 321 17 [(2, ((a0 : Nat) : Int)), (0, a1), (0, a2), (0, q8.1), (0, (a4 + 1)), (0, q7.1)] [] q8.2) else ((MM P 61 [(0, a3), (0, q7.1)] q7.2).bind fun q9 => zB P 321 17 [(2, ((a0 : Nat) : Int)), (0, a1), (0, a4), (0, q9.1), (0, (a4 + 1)), (0, q7.1)] [] q9.2)))))) := by
  have hT := cT_321
  refine Eq.trans (x1 (h := 17) hT rfl rfl (by decide)) ?_
  refine Eq.trans (x0 (h := 18) hT rfl) ?_
  refine Eq.trans (x17_4 (h := 19) hT rfl) ?_
  refine xit (fun _ => ?_) (fun _ => ?_)
  · refine Eq.trans (x1 (h := 41) hT rfl rfl (by decide)) ?_
    refine Eq.trans (x0 (h := 42) hT rfl) ?_
    refine Eq.trans (x0 (h := 43) hT rfl) ?_
    refine Eq.trans (x31 (r := a0) (cl := 12) (as := [(0, 3), (0, 0)]) (st' := []) (h := 44) hT rfl sm_50 rfl ha0) ?_
    refine xbd (fun q4 => ?_)
    rw [rv_50]
    change zB P 321 45 [(2, ((a0 : Nat) : Int)), (0, a1), (0, a2), (0, a3), (0, a4), g5] [] q4.2 = _
    refine Eq.trans (x1 (h := 45) hT rfl rfl (by decide)) ?_
    exact x201 (h := 46) hT rfl
  · refine Eq.trans (x1 (h := 20) hT rfl rfl (by decide)) ?_
    refine Eq.trans (x0 (h := 21) hT rfl) ?_
    refine Eq.trans (x31 (r := a0) (cl := 12) (as := [(0, 0)]) (st' := []) (h := 22) hT rfl sm_292 rfl ha0) ?_
    refine xbd (fun q5 => ?_)
    rw [rv_292]
    change zB P 321 23 [(2, ((a0 : Nat) : Int)), (0, a1), (0, a2), (0, a3), (0, a4), g5] [] q5.2 = _
    refine Eq.trans (x1 (h := 23) hT rfl rfl (by decide)) ?_
    refine Eq.trans (x0 (h := 24) hT rfl) ?_
    refine Eq.trans (x31 (r := a0) (cl := 12) (as := [(0, 1)]) (st' := []) (h := 25) hT rfl sm_292 rfl ha0) ?_
    refine xbd (fun q6 => ?_)
    rw [rv_292]
    change zB P 321 26 [(2, ((a0 : Nat) : Int)), (0, a1), (0, a2), (0, a3), (0, a4), g5] [] q6.2 = _
    refine Eq.trans (x1 (h := 26) hT rfl rfl (by decide)) ?_
    refine Eq.trans (x1 (h := 27) hT rfl rfl (by decide)) ?_
    refine Eq.trans (x31 (r := a0) (cl := 12) (as := [(0, a1)]) (st' := []) (h := 28) hT rfl sm_308 rfl ha0) ?_
    refine xbd (fun q7 => ?_)
    rw [rv_308]
    change zB P 321 29 [(2, ((a0 : Nat) : Int)), (0, a1), (0, a2), (0, a3), (0, a4), g5] [(0, q7.1)] q7.2 = _
    refine Eq.trans (x2 (ls' := [(2, ((a0 : Nat) : Int)), (0, a1), (0, a2), (0, a3), (0, a4), (0, q7.1)]) (h := 29) hT rfl (Nat.le_of_ble_eq_true rfl) rfl) ?_
    refine Eq.trans (x1 (h := 30) hT rfl rfl (by decide)) ?_
    refine Eq.trans (x1 (h := 31) hT rfl rfl (by decide)) ?_
    refine Eq.trans (x17_5 (h := 32) hT rfl) ?_
    refine xit (fun _ => ?_) (fun _ => ?_)
    · refine Eq.trans (x1 (h := 35) hT rfl rfl (by decide)) ?_
      refine Eq.trans (x1 (h := 36) hT rfl rfl (by decide)) ?_
      refine Eq.trans (x34 (as := [(0, a3), (0, q7.1)]) (st' := []) (h := 37) hT rfl sm_61 rfl) ?_
      refine xbd (fun q8 => ?_)
      rw [rv_61]
      change zB P 321 38 [(2, ((a0 : Nat) : Int)), (0, a1), (0, a2), (0, a3), (0, a4), (0, q7.1)] [(0, q8.1)] q8.2 = _
      refine Eq.trans (x2 (ls' := [(2, ((a0 : Nat) : Int)), (0, a1), (0, a2), (0, q8.1), (0, a4), (0, q7.1)]) (h := 38) hT rfl (Nat.le_of_ble_eq_true rfl) rfl) ?_
      refine Eq.trans (x4 (ls' := [(2, ((a0 : Nat) : Int)), (0, a1), (0, a2), (0, q8.1), (0, (a4 + 1)), (0, q7.1)]) (h := 39) hT rfl rfl rfl) ?_
      refine Eq.trans (x18 (h := 40) hT rfl) ?_
      exact rfl
    · refine Eq.trans (x1 (h := 33) hT rfl rfl (by decide)) ?_
      refine Eq.trans (x2 (ls' := [(2, ((a0 : Nat) : Int)), (0, a1), (0, a4), (0, a3), (0, a4), (0, q7.1)]) (h := 34) hT rfl (Nat.le_of_ble_eq_true rfl) rfl) ?_
      refine Eq.trans (x1 (h := 35) hT rfl rfl (by decide)) ?_
      refine Eq.trans (x1 (h := 36) hT rfl rfl (by decide)) ?_
      refine Eq.trans (x34 (as := [(0, a3), (0, q7.1)]) (st' := []) (h := 37) hT rfl sm_61 rfl) ?_
      refine xbd (fun q9 => ?_)
      rw [rv_61]
      change zB P 321 38 [(2, ((a0 : Nat) : Int)), (0, a1), (0, a4), (0, a3), (0, a4), (0, q7.1)] [(0, q9.1)] q9.2 = _
      refine Eq.trans (x2 (ls' := [(2, ((a0 : Nat) : Int)), (0, a1), (0, a4), (0, q9.1), (0, a4), (0, q7.1)]) (h := 38) hT rfl (Nat.le_of_ble_eq_true rfl) rfl) ?_
      refine Eq.trans (x4 (ls' := [(2, ((a0 : Nat) : Int)), (0, a1), (0, a4), (0, q9.1), (0, (a4 + 1)), (0, q7.1)]) (h := 39) hT rfl rfl rfl) ?_
      refine Eq.trans (x18 (h := 40) hT rfl) ?_
      exact rfl
/-! WordLinksModel.linked(II)I -/
set_option maxRecDepth 100000 in
theorem e_322 {P : zP} {d : zD P} {a0 : Nat} {a1 : Int} {a2 : Int} (ha0 : zkd a0 = 12) : MM P 322 [(2, ((a0 : Nat) : Int)), (0, a1), (0, a2)] d = ((MM P 143 [(0, a1)] d).bind fun q1 => (if wr q1.1 = 0 then some ((-2), q1.2) else (if wr a2 = wr ((-1)) then (if wr a2 ≠ wr ((-1)) then ((MM P 291 [(2, ((a0 : Nat) : Int)), (0, a1), (0, a2)] q1.2).bind fun q2 => ((MM P 154 [(2, ((a0 : Nat) : Int))] q2.2).bind fun q3 => some (q3.1, q3.2))) else ((MM P 309 [(2, ((a0 : Nat) : Int)), (0, a1)] q1.2).bind fun q4 => some (q4.1, q4.2))) else ((MM P 145 [(2, ((a0 : Nat) : Int)), (0, a2)] q1.2).bind fun q5 => (if wr q5.1 ≠ 0 then (if wr a2 ≠ wr ((-1)) then ((MM P 291 [(2, ((a0 : Nat) : Int)), (0, a1), (0, a2)] q5.2).bind fun q6 => ((MM P 154 [(2, ((a0 : Nat) : Int))] q6.2).bind fun q7 => some (q7.1, q7.2))) else ((MM P 309 [(2, ((a0 : Nat) : Int)), (0, a1)] q5.2).bind fun q8 => some (q8.1, q8.2))) else some ((-2), q5.2)))))) := by
  have hT := cT_322
  refine Eq.trans (MM_def sm_322 (Nat.le_of_ble_eq_true rfl)) ?_
  change zB P 322 0 [(2, ((a0 : Nat) : Int)), (0, a1), (0, a2)] [] d = _
  refine Eq.trans (x1 (h := 0) hT rfl rfl (by decide)) ?_
  refine Eq.trans (x34 (as := [(0, a1)]) (st' := []) (h := 1) hT rfl sm_143 rfl) ?_
  refine xbd (fun q1 => ?_)
  rw [rv_143]
  change zB P 322 2 [(2, ((a0 : Nat) : Int)), (0, a1), (0, a2)] [(0, q1.1)] q1.2 = _
  refine Eq.trans (x16_0 (h := 2) hT rfl) ?_
  refine xit (fun _ => ?_) (fun _ => ?_)
  · refine Eq.trans (x0 (h := 10) hT rfl) ?_
    exact x201 (h := 11) hT rfl
  · refine Eq.trans (x1 (h := 3) hT rfl rfl (by decide)) ?_
    refine Eq.trans (x0 (h := 4) hT rfl) ?_
    refine Eq.trans (x17_0 (h := 5) hT rfl) ?_
    refine xit (fun _ => ?_) (fun _ => ?_)
    · refine Eq.trans (x1 (h := 12) hT rfl rfl (by decide)) ?_
      refine Eq.trans (x0 (h := 13) hT rfl) ?_
      refine Eq.trans (x17_1 (h := 14) hT rfl) ?_
      refine xit (fun _ => ?_) (fun _ => ?_)
      · refine Eq.trans (x1 (h := 19) hT rfl rfl (by decide)) ?_
        refine Eq.trans (x1 (h := 20) hT rfl rfl (by decide)) ?_
        refine Eq.trans (x1 (h := 21) hT rfl rfl (by decide)) ?_
        refine Eq.trans (x31 (r := a0) (cl := 12) (as := [(0, a1), (0, a2)]) (st' := []) (h := 22) hT rfl sm_291 rfl ha0) ?_
        refine xbd (fun q2 => ?_)
        rw [rv_291]
        change zB P 322 23 [(2, ((a0 : Nat) : Int)), (0, a1), (0, a2)] [] q2.2 = _
        refine Eq.trans (x1 (h := 23) hT rfl rfl (by decide)) ?_
        refine Eq.trans (x31 (r := a0) (cl := 12) (as := []) (st' := []) (h := 24) hT rfl sm_154 rfl ha0) ?_
        refine xbd (fun q3 => ?_)
        rw [rv_154]
        change zB P 322 25 [(2, ((a0 : Nat) : Int)), (0, a1), (0, a2)] [(0, q3.1)] q3.2 = _
        exact x201 (h := 25) hT rfl
      · refine Eq.trans (x1 (h := 15) hT rfl rfl (by decide)) ?_
        refine Eq.trans (x1 (h := 16) hT rfl rfl (by decide)) ?_
        refine Eq.trans (x31 (r := a0) (cl := 12) (as := [(0, a1)]) (st' := []) (h := 17) hT rfl sm_309 rfl ha0) ?_
        refine xbd (fun q4 => ?_)
        rw [rv_309]
        change zB P 322 18 [(2, ((a0 : Nat) : Int)), (0, a1), (0, a2)] [(0, q4.1)] q4.2 = _
        exact x201 (h := 18) hT rfl
    · refine Eq.trans (x1 (h := 6) hT rfl rfl (by decide)) ?_
      refine Eq.trans (x1 (h := 7) hT rfl rfl (by decide)) ?_
      refine Eq.trans (x31 (r := a0) (cl := 12) (as := [(0, a2)]) (st' := []) (h := 8) hT rfl sm_145 rfl ha0) ?_
      refine xbd (fun q5 => ?_)
      rw [rv_145]
      change zB P 322 9 [(2, ((a0 : Nat) : Int)), (0, a1), (0, a2)] [(0, q5.1)] q5.2 = _
      refine Eq.trans (x16_1 (h := 9) hT rfl) ?_
      refine xit (fun _ => ?_) (fun _ => ?_)
      · refine Eq.trans (x1 (h := 12) hT rfl rfl (by decide)) ?_
        refine Eq.trans (x0 (h := 13) hT rfl) ?_
        refine Eq.trans (x17_1 (h := 14) hT rfl) ?_
        refine xit (fun _ => ?_) (fun _ => ?_)
        · refine Eq.trans (x1 (h := 19) hT rfl rfl (by decide)) ?_
          refine Eq.trans (x1 (h := 20) hT rfl rfl (by decide)) ?_
          refine Eq.trans (x1 (h := 21) hT rfl rfl (by decide)) ?_
          refine Eq.trans (x31 (r := a0) (cl := 12) (as := [(0, a1), (0, a2)]) (st' := []) (h := 22) hT rfl sm_291 rfl ha0) ?_
          refine xbd (fun q6 => ?_)
          rw [rv_291]
          change zB P 322 23 [(2, ((a0 : Nat) : Int)), (0, a1), (0, a2)] [] q6.2 = _
          refine Eq.trans (x1 (h := 23) hT rfl rfl (by decide)) ?_
          refine Eq.trans (x31 (r := a0) (cl := 12) (as := []) (st' := []) (h := 24) hT rfl sm_154 rfl ha0) ?_
          refine xbd (fun q7 => ?_)
          rw [rv_154]
          change zB P 322 25 [(2, ((a0 : Nat) : Int)), (0, a1), (0, a2)] [(0, q7.1)] q7.2 = _
          exact x201 (h := 25) hT rfl
        · refine Eq.trans (x1 (h := 15) hT rfl rfl (by decide)) ?_
          refine Eq.trans (x1 (h := 16) hT rfl rfl (by decide)) ?_
          refine Eq.trans (x31 (r := a0) (cl := 12) (as := [(0, a1)]) (st' := []) (h := 17) hT rfl sm_309 rfl ha0) ?_
          refine xbd (fun q8 => ?_)
          rw [rv_309]
          change zB P 322 18 [(2, ((a0 : Nat) : Int)), (0, a1), (0, a2)] [(0, q8.1)] q8.2 = _
          exact x201 (h := 18) hT rfl
      · refine Eq.trans (x0 (h := 10) hT rfl) ?_
        exact x201 (h := 11) hT rfl
/-! WordLinksModel.over(III)I -/
set_option maxRecDepth 100000 in
theorem e_323 {P : zP} {d : zD P} {a0 : Nat} {a1 : Int} {a2 : Int} {a3 : Int} (ha0 : zkd a0 = 12) : MM P 323 [(2, ((a0 : Nat) : Int)), (0, a1), (0, a2), (0, a3)] d = ((MM P 55 [(0, a3), (0, 0), (0, 2)] d).bind fun q1 => (if wr q1.1 ≠ 0 then ((MM P 143 [(0, a1)] q1.2).bind fun q2 => (if wr q2.1 = 0 then some ((-1), q2.2) else ((MM P 55 [(0, a2), (0, 1), (0, 80)] q2.2).bind fun q3 => (if wr q3.1 = 0 then some ((-1), q3.2) else (if wr 1 = 0 then some ((-1), q3.2) else (if wr a2 ≤ wr ((q3.2.m a0 3)) then ((MM P 242 [(2, ((a0 : Nat) : Int)), (0, a2)] ((q3.2.up a0 3 0))).bind fun q4 => (if wr q4.1 ≠ 0 then ((MM P 312 [(2, ((a0 : Nat) : Int)), (0, a1)] q4.2).bind fun q5 => ((MM P 208 [(2, ((a0 : Nat) : Int))] q5.2).bind fun q6 => (if wr a3 ≠ 0 then (if wr a3 ≠ wr 1 then ((MM P 241 [(2, ((a0 : Nat) : Int)), (0, a3)] q6.2).bind fun q7 => some (q7.1, q7.2)) else (if zin 0 9 then some ((q6.2.m ((a0 + 25)) (zix 0)), q6.2) else none)) else (if zin 0 9 then some ((q6.2.m ((a0 + 24)) (zix 0)), q6.2) else none)))) else some ((-2), q4.2))) else some ((-1), q3.2))))))) else ((MM P 55 [(0, a3), (0, 10), (0, 17)] q1.2).bind fun q10 => (if wr q10.1 ≠ 0 then ((MM P 143 [(0, a1)] q10.2).bind fun q11 => (if wr q11.1 = 0 then some ((-1), q11.2) else ((MM P 55 [(0, a2), (0, 1), (0, 80)] q11.2).bind fun q12 => (if wr q12.1 = 0 then some ((-1), q12.2) else (if wr 1 = 0 then some ((-1), q12.2) else (if wr a2 ≤ wr ((q12.2.m a0 3)) then ((MM P 242 [(2, ((a0 : Nat) : Int)), (0, a2)] ((q12.2.up a0 3 0))).bind fun q13 => (if wr q13.1 ≠ 0 then ((MM P 312 [(2, ((a0 : Nat) : Int)), (0, a1)] q13.2).bind fun q14 => ((MM P 208 [(2, ((a0 : Nat) : Int))] q14.2).bind fun q15 => (if wr a3 ≠ 0 then (if wr a3 ≠ wr 1 then ((MM P 241 [(2, ((a0 : Nat) : Int)), (0, a3)] q15.2).bind fun q16 => some (q16.1, q16.2)) else (if zin 0 9 then some ((q15.2.m ((a0 + 25)) (zix 0)), q15.2) else none)) else (if zin 0 9 then some ((q15.2.m ((a0 + 24)) (zix 0)), q15.2) else none)))) else some ((-2), q13.2))) else some ((-1), q12.2))))))) else ((MM P 55 [(0, a3), (0, 100), (0, 123)] q10.2).bind fun q19 => (if wr q19.1 = 0 then ((MM P 143 [(0, a1)] q19.2).bind fun q20 => (if wr q20.1 = 0 then some ((-1), q20.2) else ((MM P 55 [(0, a2), (0, 1), (0, 80)] q20.2).bind fun q21 => (if wr q21.1 = 0 then some ((-1), q21.2) else (if wr 0 = 0 then some ((-1), q21.2) else (if wr a2 ≤ wr ((q21.2.m a0 3)) then ((MM P 242 [(2, ((a0 : Nat) : Int)), (0, a2)] ((q21.2.up a0 3 0))).bind fun q22 => (if wr q22.1 ≠ 0 then ((MM P 312 [(2, ((a0 : Nat) : Int)), (0, a1)] q22.2).bind fun q23 => ((MM P 208 [(2, ((a0 : Nat) : Int))] q23.2).bind fun q24 => (if wr a3 ≠ 0 then (if wr a3 ≠ wr 1 then ((MM P 241 [(2, ((a0 : Nat) : Int)), (0, a3)] q24.2).bind fun q25 => some (q25.1, q25.2)) else (if zin 0 9 then some ((q24.2.m ((a0 + 25)) (zix 0)), q24.2) else none)) else (if zin 0 9 then some ((q24.2.m ((a0 + 24)) (zix 0)), q24.2) else none)))) else some ((-2), q22.2))) else some ((-1), q21.2))))))) else ((MM P 143 [(0, a1)] q19.2).bind fun q28 => (if wr q28.1 = 0 then some ((-1), q28.2) else ((MM P 55 [(0, a2), (0, 1), (0, 80)] q28.2).bind fun q29 => (if wr q29.1 = 0 then some ((-1), q29.2) else (if wr 1 = 0 then some ((-1), q29.2) else (if wr a2 ≤ wr ((q29.2.m a0 3)) then ((MM P 242 [(2, ((a0 : Nat) : Int)), (0, a2)] ((q29.2.up a0 3 0))).bind fun q30 => (if wr q30.1 ≠ 0 then ((MM P 312 [(2, ((a0 : Nat) : Int)), (0, a1)] q30.2).bind fun q31 => ((MM P 208 [(2, ((a0 : Nat) : Int))] q31.2).bind fun q32 => (if wr a3 ≠ 0 then (if wr a3 ≠ wr 1 then ((MM P 241 [(2, ((a0 : Nat) : Int)), (0, a3)] q32.2).bind fun q33 => some (q33.1, q33.2)) else (if zin 0 9 then some ((q32.2.m ((a0 + 25)) (zix 0)), q32.2) else none)) else (if zin 0 9 then some ((q32.2.m ((a0 + 24)) (zix 0)), q32.2) else none)))) else some ((-2), q30.2))) else some ((-1), q29.2))))))))))))) := by
  have hT := cT_323
  refine Eq.trans (MM_def sm_323 (Nat.le_of_ble_eq_true rfl)) ?_
  change zB P 323 0 [(2, ((a0 : Nat) : Int)), (0, a1), (0, a2), (0, a3), (3, 0)] [] d = _
  refine Eq.trans (x1 (h := 0) hT rfl rfl (by decide)) ?_
  refine Eq.trans (x0 (h := 1) hT rfl) ?_
  refine Eq.trans (x0 (h := 2) hT rfl) ?_
  refine Eq.trans (x34 (as := [(0, a3), (0, 0), (0, 2)]) (st' := []) (h := 3) hT rfl sm_55 rfl) ?_
  refine xbd (fun q1 => ?_)
  rw [rv_55]
  change zB P 323 4 [(2, ((a0 : Nat) : Int)), (0, a1), (0, a2), (0, a3), (3, 0)] [(0, q1.1)] q1.2 = _
  refine Eq.trans (x16_1 (h := 4) hT rfl) ?_
  refine xit (fun _ => ?_) (fun _ => ?_)
  · refine Eq.trans (x0 (h := 15) hT rfl) ?_
    refine Eq.trans (x18 (h := 16) hT rfl) ?_
    refine Eq.trans (x2 (ls' := [(2, ((a0 : Nat) : Int)), (0, a1), (0, a2), (0, a3), (0, 1)]) (h := 18) hT rfl (Nat.le_of_ble_eq_true rfl) rfl) ?_
    refine Eq.trans (x1 (h := 19) hT rfl rfl (by decide)) ?_
    refine Eq.trans (x34 (as := [(0, a1)]) (st' := []) (h := 20) hT rfl sm_143 rfl) ?_
    refine xbd (fun q2 => ?_)
    rw [rv_143]
    change zB P 323 21 [(2, ((a0 : Nat) : Int)), (0, a1), (0, a2), (0, a3), (0, 1)] [(0, q2.1)] q2.2 = _
    refine Eq.trans (x16_0 (h := 21) hT rfl) ?_
    refine xit (fun _ => ?_) (fun _ => ?_)
    · refine Eq.trans (x0 (h := 33) hT rfl) ?_
      exact x201 (h := 34) hT rfl
    · refine Eq.trans (x1 (h := 22) hT rfl rfl (by decide)) ?_
      refine Eq.trans (x0 (h := 23) hT rfl) ?_
      refine Eq.trans (x0 (h := 24) hT rfl) ?_
      refine Eq.trans (x34 (as := [(0, a2), (0, 1), (0, 80)]) (st' := []) (h := 25) hT rfl sm_55 rfl) ?_
      refine xbd (fun q3 => ?_)
      rw [rv_55]
      change zB P 323 26 [(2, ((a0 : Nat) : Int)), (0, a1), (0, a2), (0, a3), (0, 1)] [(0, q3.1)] q3.2 = _
      refine Eq.trans (x16_0 (h := 26) hT rfl) ?_
      refine xit (fun _ => ?_) (fun _ => ?_)
      · refine Eq.trans (x0 (h := 33) hT rfl) ?_
        exact x201 (h := 34) hT rfl
      · refine Eq.trans (x1 (h := 27) hT rfl rfl (by decide)) ?_
        refine Eq.trans (x16_0 (h := 28) hT rfl) ?_
        refine xit (fun _ => ?_) (fun _ => ?_)
        · refine Eq.trans (x0 (h := 33) hT rfl) ?_
          exact x201 (h := 34) hT rfl
        · refine Eq.trans (x1 (h := 29) hT rfl rfl (by decide)) ?_
          refine Eq.trans (x1 (h := 30) hT rfl rfl (by decide)) ?_
          refine Eq.trans (x21 (r := a0) (cl := 12) (h := 31) hT rfl ha0) ?_
          refine Eq.trans (x17_5 (h := 32) hT rfl) ?_
          refine xit (fun _ => ?_) (fun _ => ?_)
          · refine Eq.trans (x1 (h := 35) hT rfl rfl (by decide)) ?_
            refine Eq.trans (x0 (h := 36) hT rfl) ?_
            refine Eq.trans (x22 (r := a0) (cl := 12) (h := 37) hT rfl ha0 (by decide) rfl (by decide)) ?_
            refine Eq.trans (x1 (h := 38) hT rfl rfl (by decide)) ?_
            refine Eq.trans (x1 (h := 39) hT rfl rfl (by decide)) ?_
            refine Eq.trans (x31 (r := a0) (cl := 12) (as := [(0, a2)]) (st' := []) (h := 40) hT rfl sm_242 rfl ha0) ?_
            refine xbd (fun q4 => ?_)
            rw [rv_242]
            change zB P 323 41 [(2, ((a0 : Nat) : Int)), (0, a1), (0, a2), (0, a3), (0, 1)] [(0, q4.1)] q4.2 = _
            refine Eq.trans (x16_1 (h := 41) hT rfl) ?_
            refine xit (fun _ => ?_) (fun _ => ?_)
            · refine Eq.trans (x1 (h := 44) hT rfl rfl (by decide)) ?_
              refine Eq.trans (x1 (h := 45) hT rfl rfl (by decide)) ?_
              refine Eq.trans (x31 (r := a0) (cl := 12) (as := [(0, a1)]) (st' := []) (h := 46) hT rfl sm_312 rfl ha0) ?_
              refine xbd (fun q5 => ?_)
              rw [rv_312]
              change zB P 323 47 [(2, ((a0 : Nat) : Int)), (0, a1), (0, a2), (0, a3), (0, 1)] [] q5.2 = _
              refine Eq.trans (x1 (h := 47) hT rfl rfl (by decide)) ?_
              refine Eq.trans (x31 (r := a0) (cl := 12) (as := []) (st' := []) (h := 48) hT rfl sm_208 rfl ha0) ?_
              refine xbd (fun q6 => ?_)
              rw [rv_208]
              change zB P 323 49 [(2, ((a0 : Nat) : Int)), (0, a1), (0, a2), (0, a3), (0, 1)] [] q6.2 = _
              refine Eq.trans (x1 (h := 49) hT rfl rfl (by decide)) ?_
              refine Eq.trans (x16_1 (h := 50) hT rfl) ?_
              refine xit (fun _ => ?_) (fun _ => ?_)
              · refine Eq.trans (x1 (h := 56) hT rfl rfl (by decide)) ?_
                refine Eq.trans (x0 (h := 57) hT rfl) ?_
                refine Eq.trans (x17_1 (h := 58) hT rfl) ?_
                refine xit (fun _ => ?_) (fun _ => ?_)
                · refine Eq.trans (x1 (h := 64) hT rfl rfl (by decide)) ?_
                  refine Eq.trans (x1 (h := 65) hT rfl rfl (by decide)) ?_
                  refine Eq.trans (x31 (r := a0) (cl := 12) (as := [(0, a3)]) (st' := []) (h := 66) hT rfl sm_241 rfl ha0) ?_
                  refine xbd (fun q7 => ?_)
                  rw [rv_241]
                  change zB P 323 67 [(2, ((a0 : Nat) : Int)), (0, a1), (0, a2), (0, a3), (0, 1)] [(0, q7.1)] q7.2 = _
                  exact x201 (h := 67) hT rfl
                · refine Eq.trans (x1 (h := 59) hT rfl rfl (by decide)) ?_
                  refine Eq.trans (x21r (r := a0) (cl := 12) (o := 25) (h := 60) hT rfl ha0 (by decide) rfl) ?_
                  refine Eq.trans (x0 (h := 61) hT rfl) ?_
                  refine Eq.trans (x24 (r := (a0 + 25)) (n := 9) (h := 62) hT rfl (Or.inl (kd_12_33 ha0)) (ln_12_33 ha0)) ?_
                  refine xig (fun hz8 => ?_)
                  refine Eq.trans (x18 (h := 63) hT rfl) ?_
                  exact x201 (h := 67) hT rfl
              · refine Eq.trans (x1 (h := 51) hT rfl rfl (by decide)) ?_
                refine Eq.trans (x21r (r := a0) (cl := 12) (o := 24) (h := 52) hT rfl ha0 (by decide) rfl) ?_
                refine Eq.trans (x0 (h := 53) hT rfl) ?_
                refine Eq.trans (x24 (r := (a0 + 24)) (n := 9) (h := 54) hT rfl (Or.inl (kd_12_32 ha0)) (ln_12_32 ha0)) ?_
                refine xig (fun hz9 => ?_)
                refine Eq.trans (x18 (h := 55) hT rfl) ?_
                exact x201 (h := 67) hT rfl
            · refine Eq.trans (x0 (h := 42) hT rfl) ?_
              exact x201 (h := 43) hT rfl
          · refine Eq.trans (x0 (h := 33) hT rfl) ?_
            exact x201 (h := 34) hT rfl
  · refine Eq.trans (x1 (h := 5) hT rfl rfl (by decide)) ?_
    refine Eq.trans (x0 (h := 6) hT rfl) ?_
    refine Eq.trans (x0 (h := 7) hT rfl) ?_
    refine Eq.trans (x34 (as := [(0, a3), (0, 10), (0, 17)]) (st' := []) (h := 8) hT rfl sm_55 rfl) ?_
    refine xbd (fun q10 => ?_)
    rw [rv_55]
    change zB P 323 9 [(2, ((a0 : Nat) : Int)), (0, a1), (0, a2), (0, a3), (3, 0)] [(0, q10.1)] q10.2 = _
    refine Eq.trans (x16_1 (h := 9) hT rfl) ?_
    refine xit (fun _ => ?_) (fun _ => ?_)
    · refine Eq.trans (x0 (h := 15) hT rfl) ?_
      refine Eq.trans (x18 (h := 16) hT rfl) ?_
      refine Eq.trans (x2 (ls' := [(2, ((a0 : Nat) : Int)), (0, a1), (0, a2), (0, a3), (0, 1)]) (h := 18) hT rfl (Nat.le_of_ble_eq_true rfl) rfl) ?_
      refine Eq.trans (x1 (h := 19) hT rfl rfl (by decide)) ?_
      refine Eq.trans (x34 (as := [(0, a1)]) (st' := []) (h := 20) hT rfl sm_143 rfl) ?_
      refine xbd (fun q11 => ?_)
      rw [rv_143]
      change zB P 323 21 [(2, ((a0 : Nat) : Int)), (0, a1), (0, a2), (0, a3), (0, 1)] [(0, q11.1)] q11.2 = _
      refine Eq.trans (x16_0 (h := 21) hT rfl) ?_
      refine xit (fun _ => ?_) (fun _ => ?_)
      · refine Eq.trans (x0 (h := 33) hT rfl) ?_
        exact x201 (h := 34) hT rfl
      · refine Eq.trans (x1 (h := 22) hT rfl rfl (by decide)) ?_
        refine Eq.trans (x0 (h := 23) hT rfl) ?_
        refine Eq.trans (x0 (h := 24) hT rfl) ?_
        refine Eq.trans (x34 (as := [(0, a2), (0, 1), (0, 80)]) (st' := []) (h := 25) hT rfl sm_55 rfl) ?_
        refine xbd (fun q12 => ?_)
        rw [rv_55]
        change zB P 323 26 [(2, ((a0 : Nat) : Int)), (0, a1), (0, a2), (0, a3), (0, 1)] [(0, q12.1)] q12.2 = _
        refine Eq.trans (x16_0 (h := 26) hT rfl) ?_
        refine xit (fun _ => ?_) (fun _ => ?_)
        · refine Eq.trans (x0 (h := 33) hT rfl) ?_
          exact x201 (h := 34) hT rfl
        · refine Eq.trans (x1 (h := 27) hT rfl rfl (by decide)) ?_
          refine Eq.trans (x16_0 (h := 28) hT rfl) ?_
          refine xit (fun _ => ?_) (fun _ => ?_)
          · refine Eq.trans (x0 (h := 33) hT rfl) ?_
            exact x201 (h := 34) hT rfl
          · refine Eq.trans (x1 (h := 29) hT rfl rfl (by decide)) ?_
            refine Eq.trans (x1 (h := 30) hT rfl rfl (by decide)) ?_
            refine Eq.trans (x21 (r := a0) (cl := 12) (h := 31) hT rfl ha0) ?_
            refine Eq.trans (x17_5 (h := 32) hT rfl) ?_
            refine xit (fun _ => ?_) (fun _ => ?_)
            · refine Eq.trans (x1 (h := 35) hT rfl rfl (by decide)) ?_
              refine Eq.trans (x0 (h := 36) hT rfl) ?_
              refine Eq.trans (x22 (r := a0) (cl := 12) (h := 37) hT rfl ha0 (by decide) rfl (by decide)) ?_
              refine Eq.trans (x1 (h := 38) hT rfl rfl (by decide)) ?_
              refine Eq.trans (x1 (h := 39) hT rfl rfl (by decide)) ?_
              refine Eq.trans (x31 (r := a0) (cl := 12) (as := [(0, a2)]) (st' := []) (h := 40) hT rfl sm_242 rfl ha0) ?_
              refine xbd (fun q13 => ?_)
              rw [rv_242]
              change zB P 323 41 [(2, ((a0 : Nat) : Int)), (0, a1), (0, a2), (0, a3), (0, 1)] [(0, q13.1)] q13.2 = _
              refine Eq.trans (x16_1 (h := 41) hT rfl) ?_
              refine xit (fun _ => ?_) (fun _ => ?_)
              · refine Eq.trans (x1 (h := 44) hT rfl rfl (by decide)) ?_
                refine Eq.trans (x1 (h := 45) hT rfl rfl (by decide)) ?_
                refine Eq.trans (x31 (r := a0) (cl := 12) (as := [(0, a1)]) (st' := []) (h := 46) hT rfl sm_312 rfl ha0) ?_
                refine xbd (fun q14 => ?_)
                rw [rv_312]
                change zB P 323 47 [(2, ((a0 : Nat) : Int)), (0, a1), (0, a2), (0, a3), (0, 1)] [] q14.2 = _
                refine Eq.trans (x1 (h := 47) hT rfl rfl (by decide)) ?_
                refine Eq.trans (x31 (r := a0) (cl := 12) (as := []) (st' := []) (h := 48) hT rfl sm_208 rfl ha0) ?_
                refine xbd (fun q15 => ?_)
                rw [rv_208]
                change zB P 323 49 [(2, ((a0 : Nat) : Int)), (0, a1), (0, a2), (0, a3), (0, 1)] [] q15.2 = _
                refine Eq.trans (x1 (h := 49) hT rfl rfl (by decide)) ?_
                refine Eq.trans (x16_1 (h := 50) hT rfl) ?_
                refine xit (fun _ => ?_) (fun _ => ?_)
                · refine Eq.trans (x1 (h := 56) hT rfl rfl (by decide)) ?_
                  refine Eq.trans (x0 (h := 57) hT rfl) ?_
                  refine Eq.trans (x17_1 (h := 58) hT rfl) ?_
                  refine xit (fun _ => ?_) (fun _ => ?_)
                  · refine Eq.trans (x1 (h := 64) hT rfl rfl (by decide)) ?_
                    refine Eq.trans (x1 (h := 65) hT rfl rfl (by decide)) ?_
                    refine Eq.trans (x31 (r := a0) (cl := 12) (as := [(0, a3)]) (st' := []) (h := 66) hT rfl sm_241 rfl ha0) ?_
                    refine xbd (fun q16 => ?_)
                    rw [rv_241]
                    change zB P 323 67 [(2, ((a0 : Nat) : Int)), (0, a1), (0, a2), (0, a3), (0, 1)] [(0, q16.1)] q16.2 = _
                    exact x201 (h := 67) hT rfl
                  · refine Eq.trans (x1 (h := 59) hT rfl rfl (by decide)) ?_
                    refine Eq.trans (x21r (r := a0) (cl := 12) (o := 25) (h := 60) hT rfl ha0 (by decide) rfl) ?_
                    refine Eq.trans (x0 (h := 61) hT rfl) ?_
                    refine Eq.trans (x24 (r := (a0 + 25)) (n := 9) (h := 62) hT rfl (Or.inl (kd_12_33 ha0)) (ln_12_33 ha0)) ?_
                    refine xig (fun hz17 => ?_)
                    refine Eq.trans (x18 (h := 63) hT rfl) ?_
                    exact x201 (h := 67) hT rfl
                · refine Eq.trans (x1 (h := 51) hT rfl rfl (by decide)) ?_
                  refine Eq.trans (x21r (r := a0) (cl := 12) (o := 24) (h := 52) hT rfl ha0 (by decide) rfl) ?_
                  refine Eq.trans (x0 (h := 53) hT rfl) ?_
                  refine Eq.trans (x24 (r := (a0 + 24)) (n := 9) (h := 54) hT rfl (Or.inl (kd_12_32 ha0)) (ln_12_32 ha0)) ?_
                  refine xig (fun hz18 => ?_)
                  refine Eq.trans (x18 (h := 55) hT rfl) ?_
                  exact x201 (h := 67) hT rfl
              · refine Eq.trans (x0 (h := 42) hT rfl) ?_
                exact x201 (h := 43) hT rfl
            · refine Eq.trans (x0 (h := 33) hT rfl) ?_
              exact x201 (h := 34) hT rfl
    · refine Eq.trans (x1 (h := 10) hT rfl rfl (by decide)) ?_
      refine Eq.trans (x0 (h := 11) hT rfl) ?_
      refine Eq.trans (x0 (h := 12) hT rfl) ?_
      refine Eq.trans (x34 (as := [(0, a3), (0, 100), (0, 123)]) (st' := []) (h := 13) hT rfl sm_55 rfl) ?_
      refine xbd (fun q19 => ?_)
      rw [rv_55]
      change zB P 323 14 [(2, ((a0 : Nat) : Int)), (0, a1), (0, a2), (0, a3), (3, 0)] [(0, q19.1)] q19.2 = _
      refine Eq.trans (x16_0 (h := 14) hT rfl) ?_
      refine xit (fun _ => ?_) (fun _ => ?_)
      · refine Eq.trans (x0 (h := 17) hT rfl) ?_
        refine Eq.trans (x2 (ls' := [(2, ((a0 : Nat) : Int)), (0, a1), (0, a2), (0, a3), (0, 0)]) (h := 18) hT rfl (Nat.le_of_ble_eq_true rfl) rfl) ?_
        refine Eq.trans (x1 (h := 19) hT rfl rfl (by decide)) ?_
        refine Eq.trans (x34 (as := [(0, a1)]) (st' := []) (h := 20) hT rfl sm_143 rfl) ?_
        refine xbd (fun q20 => ?_)
        rw [rv_143]
        change zB P 323 21 [(2, ((a0 : Nat) : Int)), (0, a1), (0, a2), (0, a3), (0, 0)] [(0, q20.1)] q20.2 = _
        refine Eq.trans (x16_0 (h := 21) hT rfl) ?_
        refine xit (fun _ => ?_) (fun _ => ?_)
        · refine Eq.trans (x0 (h := 33) hT rfl) ?_
          exact x201 (h := 34) hT rfl
        · refine Eq.trans (x1 (h := 22) hT rfl rfl (by decide)) ?_
          refine Eq.trans (x0 (h := 23) hT rfl) ?_
          refine Eq.trans (x0 (h := 24) hT rfl) ?_
          refine Eq.trans (x34 (as := [(0, a2), (0, 1), (0, 80)]) (st' := []) (h := 25) hT rfl sm_55 rfl) ?_
          refine xbd (fun q21 => ?_)
          rw [rv_55]
          change zB P 323 26 [(2, ((a0 : Nat) : Int)), (0, a1), (0, a2), (0, a3), (0, 0)] [(0, q21.1)] q21.2 = _
          refine Eq.trans (x16_0 (h := 26) hT rfl) ?_
          refine xit (fun _ => ?_) (fun _ => ?_)
          · refine Eq.trans (x0 (h := 33) hT rfl) ?_
            exact x201 (h := 34) hT rfl
          · refine Eq.trans (x1 (h := 27) hT rfl rfl (by decide)) ?_
            refine Eq.trans (x16_0 (h := 28) hT rfl) ?_
            refine xit (fun _ => ?_) (fun _ => ?_)
            · refine Eq.trans (x0 (h := 33) hT rfl) ?_
              exact x201 (h := 34) hT rfl
            · refine Eq.trans (x1 (h := 29) hT rfl rfl (by decide)) ?_
              refine Eq.trans (x1 (h := 30) hT rfl rfl (by decide)) ?_
              refine Eq.trans (x21 (r := a0) (cl := 12) (h := 31) hT rfl ha0) ?_
              refine Eq.trans (x17_5 (h := 32) hT rfl) ?_
              refine xit (fun _ => ?_) (fun _ => ?_)
              · refine Eq.trans (x1 (h := 35) hT rfl rfl (by decide)) ?_
                refine Eq.trans (x0 (h := 36) hT rfl) ?_
                refine Eq.trans (x22 (r := a0) (cl := 12) (h := 37) hT rfl ha0 (by decide) rfl (by decide)) ?_
                refine Eq.trans (x1 (h := 38) hT rfl rfl (by decide)) ?_
                refine Eq.trans (x1 (h := 39) hT rfl rfl (by decide)) ?_
                refine Eq.trans (x31 (r := a0) (cl := 12) (as := [(0, a2)]) (st' := []) (h := 40) hT rfl sm_242 rfl ha0) ?_
                refine xbd (fun q22 => ?_)
                rw [rv_242]
                change zB P 323 41 [(2, ((a0 : Nat) : Int)), (0, a1), (0, a2), (0, a3), (0, 0)] [(0, q22.1)] q22.2 = _
                refine Eq.trans (x16_1 (h := 41) hT rfl) ?_
                refine xit (fun _ => ?_) (fun _ => ?_)
                · refine Eq.trans (x1 (h := 44) hT rfl rfl (by decide)) ?_
                  refine Eq.trans (x1 (h := 45) hT rfl rfl (by decide)) ?_
                  refine Eq.trans (x31 (r := a0) (cl := 12) (as := [(0, a1)]) (st' := []) (h := 46) hT rfl sm_312 rfl ha0) ?_
                  refine xbd (fun q23 => ?_)
                  rw [rv_312]
                  change zB P 323 47 [(2, ((a0 : Nat) : Int)), (0, a1), (0, a2), (0, a3), (0, 0)] [] q23.2 = _
                  refine Eq.trans (x1 (h := 47) hT rfl rfl (by decide)) ?_
                  refine Eq.trans (x31 (r := a0) (cl := 12) (as := []) (st' := []) (h := 48) hT rfl sm_208 rfl ha0) ?_
                  refine xbd (fun q24 => ?_)
                  rw [rv_208]
                  change zB P 323 49 [(2, ((a0 : Nat) : Int)), (0, a1), (0, a2), (0, a3), (0, 0)] [] q24.2 = _
                  refine Eq.trans (x1 (h := 49) hT rfl rfl (by decide)) ?_
                  refine Eq.trans (x16_1 (h := 50) hT rfl) ?_
                  refine xit (fun _ => ?_) (fun _ => ?_)
                  · refine Eq.trans (x1 (h := 56) hT rfl rfl (by decide)) ?_
                    refine Eq.trans (x0 (h := 57) hT rfl) ?_
                    refine Eq.trans (x17_1 (h := 58) hT rfl) ?_
                    refine xit (fun _ => ?_) (fun _ => ?_)
                    · refine Eq.trans (x1 (h := 64) hT rfl rfl (by decide)) ?_
                      refine Eq.trans (x1 (h := 65) hT rfl rfl (by decide)) ?_
                      refine Eq.trans (x31 (r := a0) (cl := 12) (as := [(0, a3)]) (st' := []) (h := 66) hT rfl sm_241 rfl ha0) ?_
                      refine xbd (fun q25 => ?_)
                      rw [rv_241]
                      change zB P 323 67 [(2, ((a0 : Nat) : Int)), (0, a1), (0, a2), (0, a3), (0, 0)] [(0, q25.1)] q25.2 = _
                      exact x201 (h := 67) hT rfl
                    · refine Eq.trans (x1 (h := 59) hT rfl rfl (by decide)) ?_
                      refine Eq.trans (x21r (r := a0) (cl := 12) (o := 25) (h := 60) hT rfl ha0 (by decide) rfl) ?_
                      refine Eq.trans (x0 (h := 61) hT rfl) ?_
                      refine Eq.trans (x24 (r := (a0 + 25)) (n := 9) (h := 62) hT rfl (Or.inl (kd_12_33 ha0)) (ln_12_33 ha0)) ?_
                      refine xig (fun hz26 => ?_)
                      refine Eq.trans (x18 (h := 63) hT rfl) ?_
                      exact x201 (h := 67) hT rfl
                  · refine Eq.trans (x1 (h := 51) hT rfl rfl (by decide)) ?_
                    refine Eq.trans (x21r (r := a0) (cl := 12) (o := 24) (h := 52) hT rfl ha0 (by decide) rfl) ?_
                    refine Eq.trans (x0 (h := 53) hT rfl) ?_
                    refine Eq.trans (x24 (r := (a0 + 24)) (n := 9) (h := 54) hT rfl (Or.inl (kd_12_32 ha0)) (ln_12_32 ha0)) ?_
                    refine xig (fun hz27 => ?_)
                    refine Eq.trans (x18 (h := 55) hT rfl) ?_
                    exact x201 (h := 67) hT rfl
                · refine Eq.trans (x0 (h := 42) hT rfl) ?_
                  exact x201 (h := 43) hT rfl
              · refine Eq.trans (x0 (h := 33) hT rfl) ?_
                exact x201 (h := 34) hT rfl
      · refine Eq.trans (x0 (h := 15) hT rfl) ?_
        refine Eq.trans (x18 (h := 16) hT rfl) ?_
        refine Eq.trans (x2 (ls' := [(2, ((a0 : Nat) : Int)), (0, a1), (0, a2), (0, a3), (0, 1)]) (h := 18) hT rfl (Nat.le_of_ble_eq_true rfl) rfl) ?_
        refine Eq.trans (x1 (h := 19) hT rfl rfl (by decide)) ?_
        refine Eq.trans (x34 (as := [(0, a1)]) (st' := []) (h := 20) hT rfl sm_143 rfl) ?_
        refine xbd (fun q28 => ?_)
        rw [rv_143]
        change zB P 323 21 [(2, ((a0 : Nat) : Int)), (0, a1), (0, a2), (0, a3), (0, 1)] [(0, q28.1)] q28.2 = _
        refine Eq.trans (x16_0 (h := 21) hT rfl) ?_
        refine xit (fun _ => ?_) (fun _ => ?_)
        · refine Eq.trans (x0 (h := 33) hT rfl) ?_
          exact x201 (h := 34) hT rfl
        · refine Eq.trans (x1 (h := 22) hT rfl rfl (by decide)) ?_
          refine Eq.trans (x0 (h := 23) hT rfl) ?_
          refine Eq.trans (x0 (h := 24) hT rfl) ?_
          refine Eq.trans (x34 (as := [(0, a2), (0, 1), (0, 80)]) (st' := []) (h := 25) hT rfl sm_55 rfl) ?_
          refine xbd (fun q29 => ?_)
          rw [rv_55]
          change zB P 323 26 [(2, ((a0 : Nat) : Int)), (0, a1), (0, a2), (0, a3), (0, 1)] [(0, q29.1)] q29.2 = _
          refine Eq.trans (x16_0 (h := 26) hT rfl) ?_
          refine xit (fun _ => ?_) (fun _ => ?_)
          · refine Eq.trans (x0 (h := 33) hT rfl) ?_
            exact x201 (h := 34) hT rfl
          · refine Eq.trans (x1 (h := 27) hT rfl rfl (by decide)) ?_
            refine Eq.trans (x16_0 (h := 28) hT rfl) ?_
            refine xit (fun _ => ?_) (fun _ => ?_)
            · refine Eq.trans (x0 (h := 33) hT rfl) ?_
              exact x201 (h := 34) hT rfl
            · refine Eq.trans (x1 (h := 29) hT rfl rfl (by decide)) ?_
              refine Eq.trans (x1 (h := 30) hT rfl rfl (by decide)) ?_
              refine Eq.trans (x21 (r := a0) (cl := 12) (h := 31) hT rfl ha0) ?_
              refine Eq.trans (x17_5 (h := 32) hT rfl) ?_
              refine xit (fun _ => ?_) (fun _ => ?_)
              · refine Eq.trans (x1 (h := 35) hT rfl rfl (by decide)) ?_
                refine Eq.trans (x0 (h := 36) hT rfl) ?_
                refine Eq.trans (x22 (r := a0) (cl := 12) (h := 37) hT rfl ha0 (by decide) rfl (by decide)) ?_
                refine Eq.trans (x1 (h := 38) hT rfl rfl (by decide)) ?_
                refine Eq.trans (x1 (h := 39) hT rfl rfl (by decide)) ?_
                refine Eq.trans (x31 (r := a0) (cl := 12) (as := [(0, a2)]) (st' := []) (h := 40) hT rfl sm_242 rfl ha0) ?_
                refine xbd (fun q30 => ?_)
                rw [rv_242]
                change zB P 323 41 [(2, ((a0 : Nat) : Int)), (0, a1), (0, a2), (0, a3), (0, 1)] [(0, q30.1)] q30.2 = _
                refine Eq.trans (x16_1 (h := 41) hT rfl) ?_
                refine xit (fun _ => ?_) (fun _ => ?_)
                · refine Eq.trans (x1 (h := 44) hT rfl rfl (by decide)) ?_
                  refine Eq.trans (x1 (h := 45) hT rfl rfl (by decide)) ?_
                  refine Eq.trans (x31 (r := a0) (cl := 12) (as := [(0, a1)]) (st' := []) (h := 46) hT rfl sm_312 rfl ha0) ?_
                  refine xbd (fun q31 => ?_)
                  rw [rv_312]
                  change zB P 323 47 [(2, ((a0 : Nat) : Int)), (0, a1), (0, a2), (0, a3), (0, 1)] [] q31.2 = _
                  refine Eq.trans (x1 (h := 47) hT rfl rfl (by decide)) ?_
                  refine Eq.trans (x31 (r := a0) (cl := 12) (as := []) (st' := []) (h := 48) hT rfl sm_208 rfl ha0) ?_
                  refine xbd (fun q32 => ?_)
                  rw [rv_208]
                  change zB P 323 49 [(2, ((a0 : Nat) : Int)), (0, a1), (0, a2), (0, a3), (0, 1)] [] q32.2 = _
                  refine Eq.trans (x1 (h := 49) hT rfl rfl (by decide)) ?_
                  refine Eq.trans (x16_1 (h := 50) hT rfl) ?_
                  refine xit (fun _ => ?_) (fun _ => ?_)
                  · refine Eq.trans (x1 (h := 56) hT rfl rfl (by decide)) ?_
                    refine Eq.trans (x0 (h := 57) hT rfl) ?_
                    refine Eq.trans (x17_1 (h := 58) hT rfl) ?_
                    refine xit (fun _ => ?_) (fun _ => ?_)
                    · refine Eq.trans (x1 (h := 64) hT rfl rfl (by decide)) ?_
                      refine Eq.trans (x1 (h := 65) hT rfl rfl (by decide)) ?_
                      refine Eq.trans (x31 (r := a0) (cl := 12) (as := [(0, a3)]) (st' := []) (h := 66) hT rfl sm_241 rfl ha0) ?_
                      refine xbd (fun q33 => ?_)
                      rw [rv_241]
                      change zB P 323 67 [(2, ((a0 : Nat) : Int)), (0, a1), (0, a2), (0, a3), (0, 1)] [(0, q33.1)] q33.2 = _
                      exact x201 (h := 67) hT rfl
                    · refine Eq.trans (x1 (h := 59) hT rfl rfl (by decide)) ?_
                      refine Eq.trans (x21r (r := a0) (cl := 12) (o := 25) (h := 60) hT rfl ha0 (by decide) rfl) ?_
                      refine Eq.trans (x0 (h := 61) hT rfl) ?_
                      refine Eq.trans (x24 (r := (a0 + 25)) (n := 9) (h := 62) hT rfl (Or.inl (kd_12_33 ha0)) (ln_12_33 ha0)) ?_
                      refine xig (fun hz34 => ?_)
                      refine Eq.trans (x18 (h := 63) hT rfl) ?_
                      exact x201 (h := 67) hT rfl
                  · refine Eq.trans (x1 (h := 51) hT rfl rfl (by decide)) ?_
                    refine Eq.trans (x21r (r := a0) (cl := 12) (o := 24) (h := 52) hT rfl ha0 (by decide) rfl) ?_
                    refine Eq.trans (x0 (h := 53) hT rfl) ?_
                    refine Eq.trans (x24 (r := (a0 + 24)) (n := 9) (h := 54) hT rfl (Or.inl (kd_12_32 ha0)) (ln_12_32 ha0)) ?_
                    refine xig (fun hz35 => ?_)
                    refine Eq.trans (x18 (h := 55) hT rfl) ?_
                    exact x201 (h := 67) hT rfl
                · refine Eq.trans (x0 (h := 42) hT rfl) ?_
                  exact x201 (h := 43) hT rfl
              · refine Eq.trans (x0 (h := 33) hT rfl) ?_
                exact x201 (h := 34) hT rfl
/-! WordLinksModel.pairs(I)I -/
set_option maxRecDepth 100000 in
theorem e_324 {P : zP} {d : zD P} {a0 : Nat} {a1 : Int} (ha0 : zkd a0 = 12) : MM P 324 [(2, ((a0 : Nat) : Int)), (0, a1)] d = ((MM P 55 [(0, a1), (0, 1), (0, 200)] d).bind fun q1 => (if wr q1.1 = 0 then some ((-1), q1.2) else (if wr a1 ≤ wr ((q1.2.m a0 3)) then ((MM P 317 [(2, ((a0 : Nat) : Int)), (0, a1), (0, 0)] ((q1.2.up a0 3 0))).bind fun q2 => (if wr q2.1 ≠ 0 then (if zin 0 18180 then (if wr (((q2.2.m ((a0 + 1)) (zix 0)) + (q2.2.m a0 7))) ≤ wr 24 then ((MM P 50 [(2, ((a0 : Nat) : Int)), (0, 0), (0, 2)] q2.2).bind fun q4 => ((MM P 317 [(2, ((a0 : Nat) : Int)), (0, a1), (0, 1)] ((q4.2.up a0 10 1))).bind fun q5 => (if wr ((q5.2.m a0 10)) = 0 then ((MM P 50 [(2, ((a0 : Nat) : Int)), (0, 2), (0, 0)] q5.2).bind fun q6 => some ((-4), q6.2)) else (if wr q5.1 ≠ 0 then ((MM P 265 [(2, ((a0 : Nat) : Int))] q5.2).bind fun q7 => (if zin 0 18180 then some ((q7.2.m ((a0 + 1)) (zix 0)), q7.2) else none)) else ((MM P 50 [(2, ((a0 : Nat) : Int)), (0, 2), (0, 0)] q5.2).bind fun q9 => some ((-4), q9.2)))))) else some ((-3), q2.2)) else none) else some ((q2.2.m a0 6), q2.2))) else some ((-1), q1.2)))) := by
  have hT := cT_324
  refine Eq.trans (MM_def sm_324 (Nat.le_of_ble_eq_true rfl)) ?_
  change zB P 324 0 [(2, ((a0 : Nat) : Int)), (0, a1), (3, 0)] [] d = _
  refine Eq.trans (x1 (h := 0) hT rfl rfl (by decide)) ?_
  refine Eq.trans (x0 (h := 1) hT rfl) ?_
  refine Eq.trans (x0 (h := 2) hT rfl) ?_
  refine Eq.trans (x34 (as := [(0, a1), (0, 1), (0, 200)]) (st' := []) (h := 3) hT rfl sm_55 rfl) ?_
  refine xbd (fun q1 => ?_)
  rw [rv_55]
  change zB P 324 4 [(2, ((a0 : Nat) : Int)), (0, a1), (3, 0)] [(0, q1.1)] q1.2 = _
  refine Eq.trans (x16_0 (h := 4) hT rfl) ?_
  refine xit (fun _ => ?_) (fun _ => ?_)
  · refine Eq.trans (x0 (h := 9) hT rfl) ?_
    exact x201 (h := 10) hT rfl
  · refine Eq.trans (x1 (h := 5) hT rfl rfl (by decide)) ?_
    refine Eq.trans (x1 (h := 6) hT rfl rfl (by decide)) ?_
    refine Eq.trans (x21 (r := a0) (cl := 12) (h := 7) hT rfl ha0) ?_
    refine Eq.trans (x17_5 (h := 8) hT rfl) ?_
    refine xit (fun _ => ?_) (fun _ => ?_)
    · refine Eq.trans (x1 (h := 11) hT rfl rfl (by decide)) ?_
      refine Eq.trans (x0 (h := 12) hT rfl) ?_
      refine Eq.trans (x22 (r := a0) (cl := 12) (h := 13) hT rfl ha0 (by decide) rfl (by decide)) ?_
      refine Eq.trans (x1 (h := 14) hT rfl rfl (by decide)) ?_
      refine Eq.trans (x1 (h := 15) hT rfl rfl (by decide)) ?_
      refine Eq.trans (x0 (h := 16) hT rfl) ?_
      refine Eq.trans (x31 (r := a0) (cl := 12) (as := [(0, a1), (0, 0)]) (st' := []) (h := 17) hT rfl sm_317 rfl ha0) ?_
      refine xbd (fun q2 => ?_)
      rw [rv_317]
      change zB P 324 18 [(2, ((a0 : Nat) : Int)), (0, a1), (3, 0)] [(0, q2.1)] q2.2 = _
      refine Eq.trans (x16_1 (h := 18) hT rfl) ?_
      refine xit (fun _ => ?_) (fun _ => ?_)
      · refine Eq.trans (x1 (h := 22) hT rfl rfl (by decide)) ?_
        refine Eq.trans (x21r (r := a0) (cl := 12) (o := 1) (h := 23) hT rfl ha0 (by decide) rfl) ?_
        refine Eq.trans (x0 (h := 24) hT rfl) ?_
        refine Eq.trans (x24 (r := (a0 + 1)) (n := 18180) (h := 25) hT rfl (Or.inl (kd_12_0 ha0)) (ln_12_0 ha0)) ?_
        refine xig (fun hz3 => ?_)
        refine Eq.trans (x1 (h := 26) hT rfl rfl (by decide)) ?_
        refine Eq.trans (x21 (r := a0) (cl := 12) (h := 27) hT rfl ha0) ?_
        refine Eq.trans (x5_0 (h := 28) hT rfl) ?_
        refine Eq.trans (x0 (h := 29) hT rfl) ?_
        refine Eq.trans (x17_5 (h := 30) hT rfl) ?_
        refine xit (fun _ => ?_) (fun _ => ?_)
        · refine Eq.trans (x1 (h := 33) hT rfl rfl (by decide)) ?_
          refine Eq.trans (x0 (h := 34) hT rfl) ?_
          refine Eq.trans (x0 (h := 35) hT rfl) ?_
          refine Eq.trans (x31 (r := a0) (cl := 12) (as := [(0, 0), (0, 2)]) (st' := []) (h := 36) hT rfl sm_50 rfl ha0) ?_
          refine xbd (fun q4 => ?_)
          rw [rv_50]
          change zB P 324 37 [(2, ((a0 : Nat) : Int)), (0, a1), (3, 0)] [] q4.2 = _
          refine Eq.trans (x1 (h := 37) hT rfl rfl (by decide)) ?_
          refine Eq.trans (x0 (h := 38) hT rfl) ?_
          refine Eq.trans (x22b (r := a0) (cl := 12) (h := 39) hT rfl ha0 (by decide) rfl) ?_
          refine Eq.trans (if_pos (by decide)) ?_
          refine Eq.trans (x1 (h := 40) hT rfl rfl (by decide)) ?_
          refine Eq.trans (x1 (h := 41) hT rfl rfl (by decide)) ?_
          refine Eq.trans (x0 (h := 42) hT rfl) ?_
          refine Eq.trans (x31 (r := a0) (cl := 12) (as := [(0, a1), (0, 1)]) (st' := []) (h := 43) hT rfl sm_317 rfl ha0) ?_
          refine xbd (fun q5 => ?_)
          rw [rv_317]
          change zB P 324 44 [(2, ((a0 : Nat) : Int)), (0, a1), (3, 0)] [(0, q5.1)] q5.2 = _
          refine Eq.trans (x2 (ls' := [(2, ((a0 : Nat) : Int)), (0, a1), (0, q5.1)]) (h := 44) hT rfl (Nat.le_of_ble_eq_true rfl) rfl) ?_
          refine Eq.trans (x1 (h := 45) hT rfl rfl (by decide)) ?_
          refine Eq.trans (x21 (r := a0) (cl := 12) (h := 46) hT rfl ha0) ?_
          refine Eq.trans (x16_0 (h := 47) hT rfl) ?_
          refine xit (fun _ => ?_) (fun _ => ?_)
          · refine Eq.trans (x1 (h := 50) hT rfl rfl (by decide)) ?_
            refine Eq.trans (x0 (h := 51) hT rfl) ?_
            refine Eq.trans (x0 (h := 52) hT rfl) ?_
            refine Eq.trans (x31 (r := a0) (cl := 12) (as := [(0, 2), (0, 0)]) (st' := []) (h := 53) hT rfl sm_50 rfl ha0) ?_
            refine xbd (fun q6 => ?_)
            rw [rv_50]
            change zB P 324 54 [(2, ((a0 : Nat) : Int)), (0, a1), (0, q5.1)] [] q6.2 = _
            refine Eq.trans (x0 (h := 54) hT rfl) ?_
            exact x201 (h := 55) hT rfl
          · refine Eq.trans (x1 (h := 48) hT rfl rfl (by decide)) ?_
            refine Eq.trans (x16_1 (h := 49) hT rfl) ?_
            refine xit (fun _ => ?_) (fun _ => ?_)
            · refine Eq.trans (x1 (h := 56) hT rfl rfl (by decide)) ?_
              refine Eq.trans (x31 (r := a0) (cl := 12) (as := []) (st' := []) (h := 57) hT rfl sm_265 rfl ha0) ?_
              refine xbd (fun q7 => ?_)
              rw [rv_265]
              change zB P 324 58 [(2, ((a0 : Nat) : Int)), (0, a1), (0, q5.1)] [] q7.2 = _
              refine Eq.trans (x1 (h := 58) hT rfl rfl (by decide)) ?_
              refine Eq.trans (x21r (r := a0) (cl := 12) (o := 1) (h := 59) hT rfl ha0 (by decide) rfl) ?_
              refine Eq.trans (x0 (h := 60) hT rfl) ?_
              refine Eq.trans (x24 (r := (a0 + 1)) (n := 18180) (h := 61) hT rfl (Or.inl (kd_12_0 ha0)) (ln_12_0 ha0)) ?_
              refine xig (fun hz8 => ?_)
              exact x201 (h := 62) hT rfl
            · refine Eq.trans (x1 (h := 50) hT rfl rfl (by decide)) ?_
              refine Eq.trans (x0 (h := 51) hT rfl) ?_
              refine Eq.trans (x0 (h := 52) hT rfl) ?_
              refine Eq.trans (x31 (r := a0) (cl := 12) (as := [(0, 2), (0, 0)]) (st' := []) (h := 53) hT rfl sm_50 rfl ha0) ?_
              refine xbd (fun q9 => ?_)
              rw [rv_50]
              change zB P 324 54 [(2, ((a0 : Nat) : Int)), (0, a1), (0, q5.1)] [] q9.2 = _
              refine Eq.trans (x0 (h := 54) hT rfl) ?_
              exact x201 (h := 55) hT rfl
        · refine Eq.trans (x0 (h := 31) hT rfl) ?_
          exact x201 (h := 32) hT rfl
      · refine Eq.trans (x1 (h := 19) hT rfl rfl (by decide)) ?_
        refine Eq.trans (x21 (r := a0) (cl := 12) (h := 20) hT rfl ha0) ?_
        exact x201 (h := 21) hT rfl
    · refine Eq.trans (x0 (h := 9) hT rfl) ?_
      exact x201 (h := 10) hT rfl
/-! WordLinksModel.phrase(III)I -/
set_option maxRecDepth 100000 in
theorem e_325 {P : zP} {d : zD P} {a0 : Nat} {a1 : Int} {a2 : Int} {a3 : Int} (ha0 : zkd a0 = 12) : MM P 325 [(2, ((a0 : Nat) : Int)), (0, a1), (0, a2), (0, a3)] d = ((MM P 55 [(0, a3), (0, 0), (0, 4)] d).bind fun q1 => (if wr q1.1 ≠ 0 then ((MM P 143 [(0, a1)] q1.2).bind fun q2 => (if wr q2.1 = 0 then some ((-1), q2.2) else (if wr a2 < 0 then some ((-1), q2.2) else (if wr 1 ≠ 0 then ((MM P 312 [(2, ((a0 : Nat) : Int)), (0, a1)] q2.2).bind fun q3 => (if wr a2 < wr ((q3.2.m a0 30)) then ((MM P 69 [(2, ((a0 : Nat) : Int)), (0, a2), (0, 0)] q3.2).bind fun q4 => ((MM P 134 [(2, ((a0 : Nat) : Int)), (0, q4.1)] q4.2).bind fun q5 => (if wr a3 < wr 10 then (if wr a3 = 0 then (if zin a2 5400 then some ((q5.2.m ((a0 + 22)) (zix a2)), q5.2) else none) else (if wr a3 = 1 then ((MM P 69 [(2, ((a0 : Nat) : Int)), (0, a2), (0, 0)] q5.2).bind fun q7 => ((MM P 155 [(0, q7.1)] q7.2).bind fun q8 => some (q8.1, q8.2))) else (if wr a3 = 2 then ((MM P 69 [(2, ((a0 : Nat) : Int)), (0, a2), (0, 1)] q5.2).bind fun q9 => ((MM P 155 [(0, q9.1)] q9.2).bind fun q10 => some (q10.1, q10.2))) else (if wr a3 = 3 then some (q5.1, q5.2) else ((MM P 51 [(2, ((a0 : Nat) : Int)), (0, a2), (0, q5.1)] q5.2).bind fun q11 => some (q11.1, q11.2)))))) else (if wr 20 ≤ wr a3 then ((MM P 69 [(2, ((a0 : Nat) : Int)), (0, a2), (0, 1)] q5.2).bind fun q12 => ((MM P 79 [(0, q12.1), (0, (zdiv 1 a3 10))] q12.2).bind fun q13 => (if 0 ≤ wr q13.1 then some (q13.1, q13.2) else some ((-4), q13.2)))) else ((MM P 69 [(2, ((a0 : Nat) : Int)), (0, a2), (0, 0)] q5.2).bind fun q14 => ((MM P 79 [(0, q14.1), (0, (zdiv 1 a3 10))] q14.2).bind fun q15 => (if 0 ≤ wr q15.1 then some (q15.1, q15.2) else some ((-4), q15.2)))))))) else some ((-1), q3.2))) else some ((-1), q2.2))))) else ((MM P 55 [(0, a3), (0, 10), (0, 12)] q1.2).bind fun q16 => (if wr q16.1 ≠ 0 then ((MM P 143 [(0, a1)] q16.2).bind fun q17 => (if wr q17.1 = 0 then some ((-1), q17.2) else (if wr a2 < 0 then some ((-1), q17.2) else (if wr 1 ≠ 0 then ((MM P 312 [(2, ((a0 : Nat) : Int)), (0, a1)] q17.2).bind fun q18 => (if wr a2 < wr ((q18.2.m a0 30)) then ((MM P 69 [(2, ((a0 : Nat) : Int)), (0, a2), (0, 0)] q18.2).bind fun q19 => ((MM P 134 [(2, ((a0 : Nat) : Int)), (0, q19.1)] q19.2).bind fun q20 => (if wr a3 < wr 10 then (if wr a3 = 0 then (if zin a2 5400 then some ((q20.2.m ((a0 + 22)) (zix a2)), q20.2) else none) else (if wr a3 = 1 then ((MM P 69 [(2, ((a0 : Nat) : Int)), (0, a2), (0, 0)] q20.2).bind fun q22 => ((MM P 155 [(0, q22.1)] q22.2).bind fun q23 => some (q23.1, q23.2))) else (if wr a3 = 2 then ((MM P 69 [(2, ((a0 : Nat) : Int)), (0, a2), (0, 1)] q20.2).bind fun q24 => ((MM P 155 [(0, q24.1)] q24.2).bind fun q25 => some (q25.1, q25.2))) else (if wr a3 = 3 then some (q20.1, q20.2) else ((MM P 51 [(2, ((a0 : Nat) : Int)), (0, a2), (0, q20.1)] q20.2).bind fun q26 => some (q26.1, q26.2)))))) else (if wr 20 ≤ wr a3 then ((MM P 69 [(2, ((a0 : Nat) : Int)), (0, a2), (0, 1)] q20.2).bind fun q27 => ((MM P 79 [(0, q27.1), (0, (zdiv 1 a3 10))] q27.2).bind fun q28 => (if 0 ≤ wr q28.1 then some (q28.1, q28.2) else some ((-4), q28.2)))) else ((MM P 69 [(2, ((a0 : Nat) : Int)), (0, a2), (0, 0)] q20.2).bind fun q29 => ((MM P 79 [(0, q29.1), (0, (zdiv 1 a3 10))] q29.2).bind fun q30 => (if 0 ≤ wr q30.1 then some (q30.1, q30.2) else some ((-4), q30.2)))))))) else some ((-1), q18.2))) else some ((-1), q17.2))))) else ((MM P 55 [(0, a3), (0, 20), (0, 22)] q16.2).bind fun q31 => (if wr q31.1 = 0 then ((MM P 143 [(0, a1)] q31.2).bind fun q32 => (if wr q32.1 = 0 then some ((-1), q32.2) else (if wr a2 < 0 then some ((-1), q32.2) else (if wr 0 ≠ 0 then ((MM P 312 [(2, ((a0 : Nat) : Int)), (0, a1)] q32.2).bind fun q33 => (if wr a2 < wr ((q33.2.m a0 30)) then ((MM P 69 [(2, ((a0 : Nat) : Int)), (0, a2), (0, 0)] q33.2).bind fun q34 => ((MM P 134 [(2, ((a0 : Nat) : Int)), (0, q34.1)] q34.2).bind fun q35 => (if wr a3 < wr 10 then (if wr a3 = 0 then (if zin a2 5400 then some ((q35.2.m ((a0 + 22)) (zix a2)), q35.2) else none) else (if wr a3 = 1 then ((MM P 69 [(2, ((a0 : Nat) : Int)), (0, a2), (0, 0)] q35.2).bind fun q37 => ((MM P 155 [(0, q37.1)] q37.2).bind fun q38 => some (q38.1, q38.2))) else (if wr a3 = 2 then ((MM P 69 [(2, ((a0 : Nat) : Int)), (0, a2), (0, 1)] q35.2).bind fun q39 => ((MM P 155 [(0, q39.1)] q39.2).bind fun q40 => some (q40.1, q40.2))) else (if wr a3 = 3 then some (q35.1, q35.2) else ((MM P 51 [(2, ((a0 : Nat) : Int)), (0, a2), (0, q35.1)] q35.2).bind fun q41 => some (q41.1, q41.2)))))) else (if wr 20 ≤ wr a3 then ((MM P 69 [(2, ((a0 : Nat) : Int)), (0, a2), (0, 1)] q35.2).bind fun q42 => ((MM P 79 [(0, q42.1), (0, (zdiv 1 a3 10))] q42.2).bind fun q43 => (if 0 ≤ wr q43.1 then some (q43.1, q43.2) else some ((-4), q43.2)))) else ((MM P 69 [(2, ((a0 : Nat) : Int)), (0, a2), (0, 0)] q35.2).bind fun q44 => ((MM P 79 [(0, q44.1), (0, (zdiv 1 a3 10))] q44.2).bind fun q45 => (if 0 ≤ wr q45.1 then some (q45.1, q45.2) else some ((-4), q45.2)))))))) else some ((-1), q33.2))) else some ((-1), q32.2))))) else ((MM P 143 [(0, a1)] q31.2).bind fun q46 => (if wr q46.1 = 0 then some ((-1), q46.2) else (if wr a2 < 0 then some ((-1), q46.2) else (if wr 1 ≠ 0 then ((MM P 312 [(2, ((a0 : Nat) : Int)), (0, a1)] q46.2).bind fun q47 => (if wr a2 < wr ((q47.2.m a0 30)) then ((MM P 69 [(2, ((a0 : Nat) : Int)), (0, a2), (0, 0)] q47.2).bind fun q48 => ((MM P 134 [(2, ((a0 : Nat) : Int)), (0, q48.1)] q48.2).bind fun q49 => (if wr a3 < wr 10 then (if wr a3 = 0 then (if zin a2 5400 then some ((q49.2.m ((a0 + 22)) (zix a2)), q49.2) else none) else (if wr a3 = 1 then ((MM P 69 [(2, ((a0 : Nat) : Int)), (0, a2), (0, 0)] q49.2).bind fun q51 => ((MM P 155 [(0, q51.1)] q51.2).bind fun q52 => some (q52.1, q52.2))) else (if wr a3 = 2 then ((MM P 69 [(2, ((a0 : Nat) : Int)), (0, a2), (0, 1)] q49.2).bind fun q53 => ((MM P 155 [(0, q53.1)] q53.2).bind fun q54 => some (q54.1, q54.2))) else (if wr a3 = 3 then some (q49.1, q49.2) else ((MM P 51 [(2, ((a0 : Nat) : Int)), (0, a2), (0, q49.1)] q49.2).bind fun q55 => some (q55.1, q55.2)))))) else (if wr 20 ≤ wr a3 then ((MM P 69 [(2, ((a0 : Nat) : Int)), (0, a2), (0, 1)] q49.2).bind fun q56 => ((MM P 79 [(0, q56.1), (0, (zdiv 1 a3 10))] q56.2).bind fun q57 => (if 0 ≤ wr q57.1 then some (q57.1, q57.2) else some ((-4), q57.2)))) else ((MM P 69 [(2, ((a0 : Nat) : Int)), (0, a2), (0, 0)] q49.2).bind fun q58 => ((MM P 79 [(0, q58.1), (0, (zdiv 1 a3 10))] q58.2).bind fun q59 => (if 0 ≤ wr q59.1 then some (q59.1, q59.2) else some ((-4), q59.2)))))))) else some ((-1), q47.2))) else some ((-1), q46.2))))))))))) := by
  have hT := cT_325
  refine Eq.trans (MM_def sm_325 (Nat.le_of_ble_eq_true rfl)) ?_
  change zB P 325 0 [(2, ((a0 : Nat) : Int)), (0, a1), (0, a2), (0, a3), (3, 0), (3, 0), (3, 0)] [] d = _
  refine Eq.trans (x1 (h := 0) hT rfl rfl (by decide)) ?_
  refine Eq.trans (x0 (h := 1) hT rfl) ?_
  refine Eq.trans (x0 (h := 2) hT rfl) ?_
  refine Eq.trans (x34 (as := [(0, a3), (0, 0), (0, 4)]) (st' := []) (h := 3) hT rfl sm_55 rfl) ?_
  refine xbd (fun q1 => ?_)
  rw [rv_55]
  change zB P 325 4 [(2, ((a0 : Nat) : Int)), (0, a1), (0, a2), (0, a3), (3, 0), (3, 0), (3, 0)] [(0, q1.1)] q1.2 = _
  refine Eq.trans (x16_1 (h := 4) hT rfl) ?_
  refine xit (fun _ => ?_) (fun _ => ?_)
  · refine Eq.trans (x0 (h := 15) hT rfl) ?_
    refine Eq.trans (x18 (h := 16) hT rfl) ?_
    refine Eq.trans (x2 (ls' := [(2, ((a0 : Nat) : Int)), (0, a1), (0, a2), (0, a3), (0, 1), (3, 0), (3, 0)]) (h := 18) hT rfl (Nat.le_of_ble_eq_true rfl) rfl) ?_
    refine Eq.trans (x1 (h := 19) hT rfl rfl (by decide)) ?_
    refine Eq.trans (x34 (as := [(0, a1)]) (st' := []) (h := 20) hT rfl sm_143 rfl) ?_
    refine xbd (fun q2 => ?_)
    rw [rv_143]
    change zB P 325 21 [(2, ((a0 : Nat) : Int)), (0, a1), (0, a2), (0, a3), (0, 1), (3, 0), (3, 0)] [(0, q2.1)] q2.2 = _
    refine Eq.trans (x16_0 (h := 21) hT rfl) ?_
    refine xit (fun _ => ?_) (fun _ => ?_)
    · refine Eq.trans (x0 (h := 26) hT rfl) ?_
      exact x201 (h := 27) hT rfl
    · refine Eq.trans (x1 (h := 22) hT rfl rfl (by decide)) ?_
      refine Eq.trans (x16_2 (h := 23) hT rfl) ?_
      refine xit (fun _ => ?_) (fun _ => ?_)
      · refine Eq.trans (x0 (h := 26) hT rfl) ?_
        exact x201 (h := 27) hT rfl
      · refine Eq.trans (x1 (h := 24) hT rfl rfl (by decide)) ?_
        refine Eq.trans (x16_1 (h := 25) hT rfl) ?_
        refine xit (fun _ => ?_) (fun _ => ?_)
        · refine Eq.trans (x1 (h := 28) hT rfl rfl (by decide)) ?_
          refine Eq.trans (x1 (h := 29) hT rfl rfl (by decide)) ?_
          refine Eq.trans (x31 (r := a0) (cl := 12) (as := [(0, a1)]) (st' := []) (h := 30) hT rfl sm_312 rfl ha0) ?_
          refine xbd (fun q3 => ?_)
          rw [rv_312]
          change zB P 325 31 [(2, ((a0 : Nat) : Int)), (0, a1), (0, a2), (0, a3), (0, 1), (3, 0), (3, 0)] [] q3.2 = _
          refine Eq.trans (x1 (h := 31) hT rfl rfl (by decide)) ?_
          refine Eq.trans (x1 (h := 32) hT rfl rfl (by decide)) ?_
          refine Eq.trans (x21 (r := a0) (cl := 12) (h := 33) hT rfl ha0) ?_
          refine Eq.trans (x17_2 (h := 34) hT rfl) ?_
          refine xit (fun _ => ?_) (fun _ => ?_)
          · refine Eq.trans (x1 (h := 37) hT rfl rfl (by decide)) ?_
            refine Eq.trans (x1 (h := 38) hT rfl rfl (by decide)) ?_
            refine Eq.trans (x1 (h := 39) hT rfl rfl (by decide)) ?_
            refine Eq.trans (x0 (h := 40) hT rfl) ?_
            refine Eq.trans (x31 (r := a0) (cl := 12) (as := [(0, a2), (0, 0)]) (st' := [(2, ((a0 : Nat) : Int))]) (h := 41) hT rfl sm_69 rfl ha0) ?_
            refine xbd (fun q4 => ?_)
            rw [rv_69]
            change zB P 325 42 [(2, ((a0 : Nat) : Int)), (0, a1), (0, a2), (0, a3), (0, 1), (3, 0), (3, 0)] [(0, q4.1), (2, ((a0 : Nat) : Int))] q4.2 = _
            refine Eq.trans (x31 (r := a0) (cl := 12) (as := [(0, q4.1)]) (st' := []) (h := 42) hT rfl sm_134 rfl ha0) ?_
            refine xbd (fun q5 => ?_)
            rw [rv_134]
            change zB P 325 43 [(2, ((a0 : Nat) : Int)), (0, a1), (0, a2), (0, a3), (0, 1), (3, 0), (3, 0)] [(0, q5.1)] q5.2 = _
            refine Eq.trans (x2 (ls' := [(2, ((a0 : Nat) : Int)), (0, a1), (0, a2), (0, a3), (0, 1), (0, q5.1), (3, 0)]) (h := 43) hT rfl (Nat.le_of_ble_eq_true rfl) rfl) ?_
            refine Eq.trans (x1 (h := 44) hT rfl rfl (by decide)) ?_
            refine Eq.trans (x0 (h := 45) hT rfl) ?_
            refine Eq.trans (x17_2 (h := 46) hT rfl) ?_
            refine xit (fun _ => ?_) (fun _ => ?_)
            · refine Eq.trans (x1 (h := 67) hT rfl rfl (by decide)) ?_
              refine Eq.trans (x19 (h := 68) hT rfl) ?_
              refine Eq.trans x19c ?_
              refine xit (fun _ => ?_) (fun _ => ?_)
              · refine Eq.trans (x1 (h := 69) hT rfl rfl (by decide)) ?_
                refine Eq.trans (x21r (r := a0) (cl := 12) (o := 22) (h := 70) hT rfl ha0 (by decide) rfl) ?_
                refine Eq.trans (x1 (h := 71) hT rfl rfl (by decide)) ?_
                refine Eq.trans (x24 (r := (a0 + 22)) (n := 5400) (h := 72) hT rfl (Or.inl (kd_12_29 ha0)) (ln_12_29 ha0)) ?_
                refine xig (fun hz6 => ?_)
                exact x201 (h := 73) hT rfl
              refine Eq.trans x19c ?_
              refine xit (fun _ => ?_) (fun _ => ?_)
              · refine Eq.trans (x1 (h := 74) hT rfl rfl (by decide)) ?_
                refine Eq.trans (x1 (h := 75) hT rfl rfl (by decide)) ?_
                refine Eq.trans (x0 (h := 76) hT rfl) ?_
                refine Eq.trans (x31 (r := a0) (cl := 12) (as := [(0, a2), (0, 0)]) (st' := []) (h := 77) hT rfl sm_69 rfl ha0) ?_
                refine xbd (fun q7 => ?_)
                rw [rv_69]
                change zB P 325 78 [(2, ((a0 : Nat) : Int)), (0, a1), (0, a2), (0, a3), (0, 1), (0, q5.1), (3, 0)] [(0, q7.1)] q7.2 = _
                refine Eq.trans (x34 (as := [(0, q7.1)]) (st' := []) (h := 78) hT rfl sm_155 rfl) ?_
                refine xbd (fun q8 => ?_)
                rw [rv_155]
                change zB P 325 79 [(2, ((a0 : Nat) : Int)), (0, a1), (0, a2), (0, a3), (0, 1), (0, q5.1), (3, 0)] [(0, q8.1)] q8.2 = _
                exact x201 (h := 79) hT rfl
              refine Eq.trans x19c ?_
              refine xit (fun _ => ?_) (fun _ => ?_)
              · refine Eq.trans (x1 (h := 80) hT rfl rfl (by decide)) ?_
                refine Eq.trans (x1 (h := 81) hT rfl rfl (by decide)) ?_
                refine Eq.trans (x0 (h := 82) hT rfl) ?_
                refine Eq.trans (x31 (r := a0) (cl := 12) (as := [(0, a2), (0, 1)]) (st' := []) (h := 83) hT rfl sm_69 rfl ha0) ?_
                refine xbd (fun q9 => ?_)
                rw [rv_69]
                change zB P 325 84 [(2, ((a0 : Nat) : Int)), (0, a1), (0, a2), (0, a3), (0, 1), (0, q5.1), (3, 0)] [(0, q9.1)] q9.2 = _
                refine Eq.trans (x34 (as := [(0, q9.1)]) (st' := []) (h := 84) hT rfl sm_155 rfl) ?_
                refine xbd (fun q10 => ?_)
                rw [rv_155]
                change zB P 325 85 [(2, ((a0 : Nat) : Int)), (0, a1), (0, a2), (0, a3), (0, 1), (0, q5.1), (3, 0)] [(0, q10.1)] q10.2 = _
                exact x201 (h := 85) hT rfl
              refine Eq.trans x19c ?_
              refine xit (fun _ => ?_) (fun _ => ?_)
              · refine Eq.trans (x1 (h := 86) hT rfl rfl (by decide)) ?_
                exact x201 (h := 87) hT rfl
              refine Eq.trans (x1 (h := 88) hT rfl rfl (by decide)) ?_
              refine Eq.trans (x1 (h := 89) hT rfl rfl (by decide)) ?_
              refine Eq.trans (x1 (h := 90) hT rfl rfl (by decide)) ?_
              refine Eq.trans (x31 (r := a0) (cl := 12) (as := [(0, a2), (0, q5.1)]) (st' := []) (h := 91) hT rfl sm_51 rfl ha0) ?_
              refine xbd (fun q11 => ?_)
              rw [rv_51]
              change zB P 325 92 [(2, ((a0 : Nat) : Int)), (0, a1), (0, a2), (0, a3), (0, 1), (0, q5.1), (3, 0)] [(0, q11.1)] q11.2 = _
              exact x201 (h := 92) hT rfl
            · refine Eq.trans (x1 (h := 47) hT rfl rfl (by decide)) ?_
              refine Eq.trans (x1 (h := 48) hT rfl rfl (by decide)) ?_
              refine Eq.trans (x1 (h := 49) hT rfl rfl (by decide)) ?_
              refine Eq.trans (x0 (h := 50) hT rfl) ?_
              refine Eq.trans (x17_3 (h := 51) hT rfl) ?_
              refine xit (fun _ => ?_) (fun _ => ?_)
              · refine Eq.trans (x0 (h := 54) hT rfl) ?_
                refine Eq.trans (x31 (r := a0) (cl := 12) (as := [(0, a2), (0, 1)]) (st' := []) (h := 55) hT rfl sm_69 rfl ha0) ?_
                refine xbd (fun q12 => ?_)
                rw [rv_69]
                change zB P 325 56 [(2, ((a0 : Nat) : Int)), (0, a1), (0, a2), (0, a3), (0, 1), (0, q5.1), (3, 0)] [(0, q12.1)] q12.2 = _
                refine Eq.trans (x1 (h := 56) hT rfl rfl (by decide)) ?_
                refine Eq.trans (x0 (h := 57) hT rfl) ?_
                refine Eq.trans (x6c (h := 58) hT rfl (by decide)) ?_
                refine Eq.trans (x34 (as := [(0, q12.1), (0, (zdiv 1 a3 10))]) (st' := []) (h := 59) hT rfl sm_79 rfl) ?_
                refine xbd (fun q13 => ?_)
                rw [rv_79]
                change zB P 325 60 [(2, ((a0 : Nat) : Int)), (0, a1), (0, a2), (0, a3), (0, 1), (0, q5.1), (3, 0)] [(0, q13.1)] q13.2 = _
                refine Eq.trans (x2 (ls' := [(2, ((a0 : Nat) : Int)), (0, a1), (0, a2), (0, a3), (0, 1), (0, q5.1), (0, q13.1)]) (h := 60) hT rfl (Nat.le_of_ble_eq_true rfl) rfl) ?_
                refine Eq.trans (x1 (h := 61) hT rfl rfl (by decide)) ?_
                refine Eq.trans (x16_3 (h := 62) hT rfl) ?_
                refine xit (fun _ => ?_) (fun _ => ?_)
                · refine Eq.trans (x1 (h := 65) hT rfl rfl (by decide)) ?_
                  exact x201 (h := 66) hT rfl
                · refine Eq.trans (x0 (h := 63) hT rfl) ?_
                  refine Eq.trans (x18 (h := 64) hT rfl) ?_
                  exact x201 (h := 66) hT rfl
              · refine Eq.trans (x0 (h := 52) hT rfl) ?_
                refine Eq.trans (x18 (h := 53) hT rfl) ?_
                refine Eq.trans (x31 (r := a0) (cl := 12) (as := [(0, a2), (0, 0)]) (st' := []) (h := 55) hT rfl sm_69 rfl ha0) ?_
                refine xbd (fun q14 => ?_)
                rw [rv_69]
                change zB P 325 56 [(2, ((a0 : Nat) : Int)), (0, a1), (0, a2), (0, a3), (0, 1), (0, q5.1), (3, 0)] [(0, q14.1)] q14.2 = _
                refine Eq.trans (x1 (h := 56) hT rfl rfl (by decide)) ?_
                refine Eq.trans (x0 (h := 57) hT rfl) ?_
                refine Eq.trans (x6c (h := 58) hT rfl (by decide)) ?_
                refine Eq.trans (x34 (as := [(0, q14.1), (0, (zdiv 1 a3 10))]) (st' := []) (h := 59) hT rfl sm_79 rfl) ?_
                refine xbd (fun q15 => ?_)
                rw [rv_79]
                change zB P 325 60 [(2, ((a0 : Nat) : Int)), (0, a1), (0, a2), (0, a3), (0, 1), (0, q5.1), (3, 0)] [(0, q15.1)] q15.2 = _
                refine Eq.trans (x2 (ls' := [(2, ((a0 : Nat) : Int)), (0, a1), (0, a2), (0, a3), (0, 1), (0, q5.1), (0, q15.1)]) (h := 60) hT rfl (Nat.le_of_ble_eq_true rfl) rfl) ?_
                refine Eq.trans (x1 (h := 61) hT rfl rfl (by decide)) ?_
                refine Eq.trans (x16_3 (h := 62) hT rfl) ?_
                refine xit (fun _ => ?_) (fun _ => ?_)
                · refine Eq.trans (x1 (h := 65) hT rfl rfl (by decide)) ?_
                  exact x201 (h := 66) hT rfl
                · refine Eq.trans (x0 (h := 63) hT rfl) ?_
                  refine Eq.trans (x18 (h := 64) hT rfl) ?_
                  exact x201 (h := 66) hT rfl
          · refine Eq.trans (x0 (h := 35) hT rfl) ?_
            exact x201 (h := 36) hT rfl
        · refine Eq.trans (x0 (h := 26) hT rfl) ?_
          exact x201 (h := 27) hT rfl
  · refine Eq.trans (x1 (h := 5) hT rfl rfl (by decide)) ?_
    refine Eq.trans (x0 (h := 6) hT rfl) ?_
    refine Eq.trans (x0 (h := 7) hT rfl) ?_
    refine Eq.trans (x34 (as := [(0, a3), (0, 10), (0, 12)]) (st' := []) (h := 8) hT rfl sm_55 rfl) ?_
    refine xbd (fun q16 => ?_)
    rw [rv_55]
    change zB P 325 9 [(2, ((a0 : Nat) : Int)), (0, a1), (0, a2), (0, a3), (3, 0), (3, 0), (3, 0)] [(0, q16.1)] q16.2 = _
    refine Eq.trans (x16_1 (h := 9) hT rfl) ?_
    refine xit (fun _ => ?_) (fun _ => ?_)
    · refine Eq.trans (x0 (h := 15) hT rfl) ?_
      refine Eq.trans (x18 (h := 16) hT rfl) ?_
      refine Eq.trans (x2 (ls' := [(2, ((a0 : Nat) : Int)), (0, a1), (0, a2), (0, a3), (0, 1), (3, 0), (3, 0)]) (h := 18) hT rfl (Nat.le_of_ble_eq_true rfl) rfl) ?_
      refine Eq.trans (x1 (h := 19) hT rfl rfl (by decide)) ?_
      refine Eq.trans (x34 (as := [(0, a1)]) (st' := []) (h := 20) hT rfl sm_143 rfl) ?_
      refine xbd (fun q17 => ?_)
      rw [rv_143]
      change zB P 325 21 [(2, ((a0 : Nat) : Int)), (0, a1), (0, a2), (0, a3), (0, 1), (3, 0), (3, 0)] [(0, q17.1)] q17.2 = _
      refine Eq.trans (x16_0 (h := 21) hT rfl) ?_
      refine xit (fun _ => ?_) (fun _ => ?_)
      · refine Eq.trans (x0 (h := 26) hT rfl) ?_
        exact x201 (h := 27) hT rfl
      · refine Eq.trans (x1 (h := 22) hT rfl rfl (by decide)) ?_
        refine Eq.trans (x16_2 (h := 23) hT rfl) ?_
        refine xit (fun _ => ?_) (fun _ => ?_)
        · refine Eq.trans (x0 (h := 26) hT rfl) ?_
          exact x201 (h := 27) hT rfl
        · refine Eq.trans (x1 (h := 24) hT rfl rfl (by decide)) ?_
          refine Eq.trans (x16_1 (h := 25) hT rfl) ?_
          refine xit (fun _ => ?_) (fun _ => ?_)
          · refine Eq.trans (x1 (h := 28) hT rfl rfl (by decide)) ?_
            refine Eq.trans (x1 (h := 29) hT rfl rfl (by decide)) ?_
            refine Eq.trans (x31 (r := a0) (cl := 12) (as := [(0, a1)]) (st' := []) (h := 30) hT rfl sm_312 rfl ha0) ?_
            refine xbd (fun q18 => ?_)
            rw [rv_312]
            change zB P 325 31 [(2, ((a0 : Nat) : Int)), (0, a1), (0, a2), (0, a3), (0, 1), (3, 0), (3, 0)] [] q18.2 = _
            refine Eq.trans (x1 (h := 31) hT rfl rfl (by decide)) ?_
            refine Eq.trans (x1 (h := 32) hT rfl rfl (by decide)) ?_
            refine Eq.trans (x21 (r := a0) (cl := 12) (h := 33) hT rfl ha0) ?_
            refine Eq.trans (x17_2 (h := 34) hT rfl) ?_
            refine xit (fun _ => ?_) (fun _ => ?_)
            · refine Eq.trans (x1 (h := 37) hT rfl rfl (by decide)) ?_
              refine Eq.trans (x1 (h := 38) hT rfl rfl (by decide)) ?_
              refine Eq.trans (x1 (h := 39) hT rfl rfl (by decide)) ?_
              refine Eq.trans (x0 (h := 40) hT rfl) ?_
              refine Eq.trans (x31 (r := a0) (cl := 12) (as := [(0, a2), (0, 0)]) (st' := [(2, ((a0 : Nat) : Int))]) (h := 41) hT rfl sm_69 rfl ha0) ?_
              refine xbd (fun q19 => ?_)
              rw [rv_69]
              change zB P 325 42 [(2, ((a0 : Nat) : Int)), (0, a1), (0, a2), (0, a3), (0, 1), (3, 0), (3, 0)] [(0, q19.1), (2, ((a0 : Nat) : Int))] q19.2 = _
              refine Eq.trans (x31 (r := a0) (cl := 12) (as := [(0, q19.1)]) (st' := []) (h := 42) hT rfl sm_134 rfl ha0) ?_
              refine xbd (fun q20 => ?_)
              rw [rv_134]
              change zB P 325 43 [(2, ((a0 : Nat) : Int)), (0, a1), (0, a2), (0, a3), (0, 1), (3, 0), (3, 0)] [(0, q20.1)] q20.2 = _
              refine Eq.trans (x2 (ls' := [(2, ((a0 : Nat) : Int)), (0, a1), (0, a2), (0, a3), (0, 1), (0, q20.1), (3, 0)]) (h := 43) hT rfl (Nat.le_of_ble_eq_true rfl) rfl) ?_
              refine Eq.trans (x1 (h := 44) hT rfl rfl (by decide)) ?_
              refine Eq.trans (x0 (h := 45) hT rfl) ?_
              refine Eq.trans (x17_2 (h := 46) hT rfl) ?_
              refine xit (fun _ => ?_) (fun _ => ?_)
              · refine Eq.trans (x1 (h := 67) hT rfl rfl (by decide)) ?_
                refine Eq.trans (x19 (h := 68) hT rfl) ?_
                refine Eq.trans x19c ?_
                refine xit (fun _ => ?_) (fun _ => ?_)
                · refine Eq.trans (x1 (h := 69) hT rfl rfl (by decide)) ?_
                  refine Eq.trans (x21r (r := a0) (cl := 12) (o := 22) (h := 70) hT rfl ha0 (by decide) rfl) ?_
                  refine Eq.trans (x1 (h := 71) hT rfl rfl (by decide)) ?_
                  refine Eq.trans (x24 (r := (a0 + 22)) (n := 5400) (h := 72) hT rfl (Or.inl (kd_12_29 ha0)) (ln_12_29 ha0)) ?_
                  refine xig (fun hz21 => ?_)
                  exact x201 (h := 73) hT rfl
                refine Eq.trans x19c ?_
                refine xit (fun _ => ?_) (fun _ => ?_)
                · refine Eq.trans (x1 (h := 74) hT rfl rfl (by decide)) ?_
                  refine Eq.trans (x1 (h := 75) hT rfl rfl (by decide)) ?_
                  refine Eq.trans (x0 (h := 76) hT rfl) ?_
                  refine Eq.trans (x31 (r := a0) (cl := 12) (as := [(0, a2), (0, 0)]) (st' := []) (h := 77) hT rfl sm_69 rfl ha0) ?_
                  refine xbd (fun q22 => ?_)
                  rw [rv_69]
                  change zB P 325 78 [(2, ((a0 : Nat) : Int)), (0, a1), (0, a2), (0, a3), (0, 1), (0, q20.1), (3, 0)] [(0, q22.1)] q22.2 = _
                  refine Eq.trans (x34 (as := [(0, q22.1)]) (st' := []) (h := 78) hT rfl sm_155 rfl) ?_
                  refine xbd (fun q23 => ?_)
                  rw [rv_155]
                  change zB P 325 79 [(2, ((a0 : Nat) : Int)), (0, a1), (0, a2), (0, a3), (0, 1), (0, q20.1), (3, 0)] [(0, q23.1)] q23.2 = _
                  exact x201 (h := 79) hT rfl
                refine Eq.trans x19c ?_
                refine xit (fun _ => ?_) (fun _ => ?_)
                · refine Eq.trans (x1 (h := 80) hT rfl rfl (by decide)) ?_
                  refine Eq.trans (x1 (h := 81) hT rfl rfl (by decide)) ?_
                  refine Eq.trans (x0 (h := 82) hT rfl) ?_
                  refine Eq.trans (x31 (r := a0) (cl := 12) (as := [(0, a2), (0, 1)]) (st' := []) (h := 83) hT rfl sm_69 rfl ha0) ?_
                  refine xbd (fun q24 => ?_)
                  rw [rv_69]
                  change zB P 325 84 [(2, ((a0 : Nat) : Int)), (0, a1), (0, a2), (0, a3), (0, 1), (0, q20.1), (3, 0)] [(0, q24.1)] q24.2 = _
                  refine Eq.trans (x34 (as := [(0, q24.1)]) (st' := []) (h := 84) hT rfl sm_155 rfl) ?_
                  refine xbd (fun q25 => ?_)
                  rw [rv_155]
                  change zB P 325 85 [(2, ((a0 : Nat) : Int)), (0, a1), (0, a2), (0, a3), (0, 1), (0, q20.1), (3, 0)] [(0, q25.1)] q25.2 = _
                  exact x201 (h := 85) hT rfl
                refine Eq.trans x19c ?_
                refine xit (fun _ => ?_) (fun _ => ?_)
                · refine Eq.trans (x1 (h := 86) hT rfl rfl (by decide)) ?_
                  exact x201 (h := 87) hT rfl
                refine Eq.trans (x1 (h := 88) hT rfl rfl (by decide)) ?_
                refine Eq.trans (x1 (h := 89) hT rfl rfl (by decide)) ?_
                refine Eq.trans (x1 (h := 90) hT rfl rfl (by decide)) ?_
                refine Eq.trans (x31 (r := a0) (cl := 12) (as := [(0, a2), (0, q20.1)]) (st' := []) (h := 91) hT rfl sm_51 rfl ha0) ?_
                refine xbd (fun q26 => ?_)
                rw [rv_51]
                change zB P 325 92 [(2, ((a0 : Nat) : Int)), (0, a1), (0, a2), (0, a3), (0, 1), (0, q20.1), (3, 0)] [(0, q26.1)] q26.2 = _
                exact x201 (h := 92) hT rfl
              · refine Eq.trans (x1 (h := 47) hT rfl rfl (by decide)) ?_
                refine Eq.trans (x1 (h := 48) hT rfl rfl (by decide)) ?_
                refine Eq.trans (x1 (h := 49) hT rfl rfl (by decide)) ?_
                refine Eq.trans (x0 (h := 50) hT rfl) ?_
                refine Eq.trans (x17_3 (h := 51) hT rfl) ?_
                refine xit (fun _ => ?_) (fun _ => ?_)
                · refine Eq.trans (x0 (h := 54) hT rfl) ?_
                  refine Eq.trans (x31 (r := a0) (cl := 12) (as := [(0, a2), (0, 1)]) (st' := []) (h := 55) hT rfl sm_69 rfl ha0) ?_
                  refine xbd (fun q27 => ?_)
                  rw [rv_69]
                  change zB P 325 56 [(2, ((a0 : Nat) : Int)), (0, a1), (0, a2), (0, a3), (0, 1), (0, q20.1), (3, 0)] [(0, q27.1)] q27.2 = _
                  refine Eq.trans (x1 (h := 56) hT rfl rfl (by decide)) ?_
                  refine Eq.trans (x0 (h := 57) hT rfl) ?_
                  refine Eq.trans (x6c (h := 58) hT rfl (by decide)) ?_
                  refine Eq.trans (x34 (as := [(0, q27.1), (0, (zdiv 1 a3 10))]) (st' := []) (h := 59) hT rfl sm_79 rfl) ?_
                  refine xbd (fun q28 => ?_)
                  rw [rv_79]
                  change zB P 325 60 [(2, ((a0 : Nat) : Int)), (0, a1), (0, a2), (0, a3), (0, 1), (0, q20.1), (3, 0)] [(0, q28.1)] q28.2 = _
                  refine Eq.trans (x2 (ls' := [(2, ((a0 : Nat) : Int)), (0, a1), (0, a2), (0, a3), (0, 1), (0, q20.1), (0, q28.1)]) (h := 60) hT rfl (Nat.le_of_ble_eq_true rfl) rfl) ?_
                  refine Eq.trans (x1 (h := 61) hT rfl rfl (by decide)) ?_
                  refine Eq.trans (x16_3 (h := 62) hT rfl) ?_
                  refine xit (fun _ => ?_) (fun _ => ?_)
                  · refine Eq.trans (x1 (h := 65) hT rfl rfl (by decide)) ?_
                    exact x201 (h := 66) hT rfl
                  · refine Eq.trans (x0 (h := 63) hT rfl) ?_
                    refine Eq.trans (x18 (h := 64) hT rfl) ?_
                    exact x201 (h := 66) hT rfl
                · refine Eq.trans (x0 (h := 52) hT rfl) ?_
                  refine Eq.trans (x18 (h := 53) hT rfl) ?_
                  refine Eq.trans (x31 (r := a0) (cl := 12) (as := [(0, a2), (0, 0)]) (st' := []) (h := 55) hT rfl sm_69 rfl ha0) ?_
                  refine xbd (fun q29 => ?_)
                  rw [rv_69]
                  change zB P 325 56 [(2, ((a0 : Nat) : Int)), (0, a1), (0, a2), (0, a3), (0, 1), (0, q20.1), (3, 0)] [(0, q29.1)] q29.2 = _
                  refine Eq.trans (x1 (h := 56) hT rfl rfl (by decide)) ?_
                  refine Eq.trans (x0 (h := 57) hT rfl) ?_
                  refine Eq.trans (x6c (h := 58) hT rfl (by decide)) ?_
                  refine Eq.trans (x34 (as := [(0, q29.1), (0, (zdiv 1 a3 10))]) (st' := []) (h := 59) hT rfl sm_79 rfl) ?_
                  refine xbd (fun q30 => ?_)
                  rw [rv_79]
                  change zB P 325 60 [(2, ((a0 : Nat) : Int)), (0, a1), (0, a2), (0, a3), (0, 1), (0, q20.1), (3, 0)] [(0, q30.1)] q30.2 = _
                  refine Eq.trans (x2 (ls' := [(2, ((a0 : Nat) : Int)), (0, a1), (0, a2), (0, a3), (0, 1), (0, q20.1), (0, q30.1)]) (h := 60) hT rfl (Nat.le_of_ble_eq_true rfl) rfl) ?_
                  refine Eq.trans (x1 (h := 61) hT rfl rfl (by decide)) ?_
                  refine Eq.trans (x16_3 (h := 62) hT rfl) ?_
                  refine xit (fun _ => ?_) (fun _ => ?_)
                  · refine Eq.trans (x1 (h := 65) hT rfl rfl (by decide)) ?_
                    exact x201 (h := 66) hT rfl
                  · refine Eq.trans (x0 (h := 63) hT rfl) ?_
                    refine Eq.trans (x18 (h := 64) hT rfl) ?_
                    exact x201 (h := 66) hT rfl
            · refine Eq.trans (x0 (h := 35) hT rfl) ?_
              exact x201 (h := 36) hT rfl
          · refine Eq.trans (x0 (h := 26) hT rfl) ?_
            exact x201 (h := 27) hT rfl
    · refine Eq.trans (x1 (h := 10) hT rfl rfl (by decide)) ?_
      refine Eq.trans (x0 (h := 11) hT rfl) ?_
      refine Eq.trans (x0 (h := 12) hT rfl) ?_
      refine Eq.trans (x34 (as := [(0, a3), (0, 20), (0, 22)]) (st' := []) (h := 13) hT rfl sm_55 rfl) ?_
      refine xbd (fun q31 => ?_)
      rw [rv_55]
      change zB P 325 14 [(2, ((a0 : Nat) : Int)), (0, a1), (0, a2), (0, a3), (3, 0), (3, 0), (3, 0)] [(0, q31.1)] q31.2 = _
      refine Eq.trans (x16_0 (h := 14) hT rfl) ?_
      refine xit (fun _ => ?_) (fun _ => ?_)
      · refine Eq.trans (x0 (h := 17) hT rfl) ?_
        refine Eq.trans (x2 (ls' := [(2, ((a0 : Nat) : Int)), (0, a1), (0, a2), (0, a3), (0, 0), (3, 0), (3, 0)]) (h := 18) hT rfl (Nat.le_of_ble_eq_true rfl) rfl) ?_
        refine Eq.trans (x1 (h := 19) hT rfl rfl (by decide)) ?_
        refine Eq.trans (x34 (as := [(0, a1)]) (st' := []) (h := 20) hT rfl sm_143 rfl) ?_
        refine xbd (fun q32 => ?_)
        rw [rv_143]
        change zB P 325 21 [(2, ((a0 : Nat) : Int)), (0, a1), (0, a2), (0, a3), (0, 0), (3, 0), (3, 0)] [(0, q32.1)] q32.2 = _
        refine Eq.trans (x16_0 (h := 21) hT rfl) ?_
        refine xit (fun _ => ?_) (fun _ => ?_)
        · refine Eq.trans (x0 (h := 26) hT rfl) ?_
          exact x201 (h := 27) hT rfl
        · refine Eq.trans (x1 (h := 22) hT rfl rfl (by decide)) ?_
          refine Eq.trans (x16_2 (h := 23) hT rfl) ?_
          refine xit (fun _ => ?_) (fun _ => ?_)
          · refine Eq.trans (x0 (h := 26) hT rfl) ?_
            exact x201 (h := 27) hT rfl
          · refine Eq.trans (x1 (h := 24) hT rfl rfl (by decide)) ?_
            refine Eq.trans (x16_1 (h := 25) hT rfl) ?_
            refine xit (fun _ => ?_) (fun _ => ?_)
            · refine Eq.trans (x1 (h := 28) hT rfl rfl (by decide)) ?_
              refine Eq.trans (x1 (h := 29) hT rfl rfl (by decide)) ?_
              refine Eq.trans (x31 (r := a0) (cl := 12) (as := [(0, a1)]) (st' := []) (h := 30) hT rfl sm_312 rfl ha0) ?_
              refine xbd (fun q33 => ?_)
              rw [rv_312]
              change zB P 325 31 [(2, ((a0 : Nat) : Int)), (0, a1), (0, a2), (0, a3), (0, 0), (3, 0), (3, 0)] [] q33.2 = _
              refine Eq.trans (x1 (h := 31) hT rfl rfl (by decide)) ?_
              refine Eq.trans (x1 (h := 32) hT rfl rfl (by decide)) ?_
              refine Eq.trans (x21 (r := a0) (cl := 12) (h := 33) hT rfl ha0) ?_
              refine Eq.trans (x17_2 (h := 34) hT rfl) ?_
              refine xit (fun _ => ?_) (fun _ => ?_)
              · refine Eq.trans (x1 (h := 37) hT rfl rfl (by decide)) ?_
                refine Eq.trans (x1 (h := 38) hT rfl rfl (by decide)) ?_
                refine Eq.trans (x1 (h := 39) hT rfl rfl (by decide)) ?_
                refine Eq.trans (x0 (h := 40) hT rfl) ?_
                refine Eq.trans (x31 (r := a0) (cl := 12) (as := [(0, a2), (0, 0)]) (st' := [(2, ((a0 : Nat) : Int))]) (h := 41) hT rfl sm_69 rfl ha0) ?_
                refine xbd (fun q34 => ?_)
                rw [rv_69]
                change zB P 325 42 [(2, ((a0 : Nat) : Int)), (0, a1), (0, a2), (0, a3), (0, 0), (3, 0), (3, 0)] [(0, q34.1), (2, ((a0 : Nat) : Int))] q34.2 = _
                refine Eq.trans (x31 (r := a0) (cl := 12) (as := [(0, q34.1)]) (st' := []) (h := 42) hT rfl sm_134 rfl ha0) ?_
                refine xbd (fun q35 => ?_)
                rw [rv_134]
                change zB P 325 43 [(2, ((a0 : Nat) : Int)), (0, a1), (0, a2), (0, a3), (0, 0), (3, 0), (3, 0)] [(0, q35.1)] q35.2 = _
                refine Eq.trans (x2 (ls' := [(2, ((a0 : Nat) : Int)), (0, a1), (0, a2), (0, a3), (0, 0), (0, q35.1), (3, 0)]) (h := 43) hT rfl (Nat.le_of_ble_eq_true rfl) rfl) ?_
                refine Eq.trans (x1 (h := 44) hT rfl rfl (by decide)) ?_
                refine Eq.trans (x0 (h := 45) hT rfl) ?_
                refine Eq.trans (x17_2 (h := 46) hT rfl) ?_
                refine xit (fun _ => ?_) (fun _ => ?_)
                · refine Eq.trans (x1 (h := 67) hT rfl rfl (by decide)) ?_
                  refine Eq.trans (x19 (h := 68) hT rfl) ?_
                  refine Eq.trans x19c ?_
                  refine xit (fun _ => ?_) (fun _ => ?_)
                  · refine Eq.trans (x1 (h := 69) hT rfl rfl (by decide)) ?_
                    refine Eq.trans (x21r (r := a0) (cl := 12) (o := 22) (h := 70) hT rfl ha0 (by decide) rfl) ?_
                    refine Eq.trans (x1 (h := 71) hT rfl rfl (by decide)) ?_
                    refine Eq.trans (x24 (r := (a0 + 22)) (n := 5400) (h := 72) hT rfl (Or.inl (kd_12_29 ha0)) (ln_12_29 ha0)) ?_
                    refine xig (fun hz36 => ?_)
                    exact x201 (h := 73) hT rfl
                  refine Eq.trans x19c ?_
                  refine xit (fun _ => ?_) (fun _ => ?_)
                  · refine Eq.trans (x1 (h := 74) hT rfl rfl (by decide)) ?_
                    refine Eq.trans (x1 (h := 75) hT rfl rfl (by decide)) ?_
                    refine Eq.trans (x0 (h := 76) hT rfl) ?_
                    refine Eq.trans (x31 (r := a0) (cl := 12) (as := [(0, a2), (0, 0)]) (st' := []) (h := 77) hT rfl sm_69 rfl ha0) ?_
                    refine xbd (fun q37 => ?_)
                    rw [rv_69]
                    change zB P 325 78 [(2, ((a0 : Nat) : Int)), (0, a1), (0, a2), (0, a3), (0, 0), (0, q35.1), (3, 0)] [(0, q37.1)] q37.2 = _
                    refine Eq.trans (x34 (as := [(0, q37.1)]) (st' := []) (h := 78) hT rfl sm_155 rfl) ?_
                    refine xbd (fun q38 => ?_)
                    rw [rv_155]
                    change zB P 325 79 [(2, ((a0 : Nat) : Int)), (0, a1), (0, a2), (0, a3), (0, 0), (0, q35.1), (3, 0)] [(0, q38.1)] q38.2 = _
                    exact x201 (h := 79) hT rfl
                  refine Eq.trans x19c ?_
                  refine xit (fun _ => ?_) (fun _ => ?_)
                  · refine Eq.trans (x1 (h := 80) hT rfl rfl (by decide)) ?_
                    refine Eq.trans (x1 (h := 81) hT rfl rfl (by decide)) ?_
                    refine Eq.trans (x0 (h := 82) hT rfl) ?_
                    refine Eq.trans (x31 (r := a0) (cl := 12) (as := [(0, a2), (0, 1)]) (st' := []) (h := 83) hT rfl sm_69 rfl ha0) ?_
                    refine xbd (fun q39 => ?_)
                    rw [rv_69]
                    change zB P 325 84 [(2, ((a0 : Nat) : Int)), (0, a1), (0, a2), (0, a3), (0, 0), (0, q35.1), (3, 0)] [(0, q39.1)] q39.2 = _
                    refine Eq.trans (x34 (as := [(0, q39.1)]) (st' := []) (h := 84) hT rfl sm_155 rfl) ?_
                    refine xbd (fun q40 => ?_)
                    rw [rv_155]
                    change zB P 325 85 [(2, ((a0 : Nat) : Int)), (0, a1), (0, a2), (0, a3), (0, 0), (0, q35.1), (3, 0)] [(0, q40.1)] q40.2 = _
                    exact x201 (h := 85) hT rfl
                  refine Eq.trans x19c ?_
                  refine xit (fun _ => ?_) (fun _ => ?_)
                  · refine Eq.trans (x1 (h := 86) hT rfl rfl (by decide)) ?_
                    exact x201 (h := 87) hT rfl
                  refine Eq.trans (x1 (h := 88) hT rfl rfl (by decide)) ?_
                  refine Eq.trans (x1 (h := 89) hT rfl rfl (by decide)) ?_
                  refine Eq.trans (x1 (h := 90) hT rfl rfl (by decide)) ?_
                  refine Eq.trans (x31 (r := a0) (cl := 12) (as := [(0, a2), (0, q35.1)]) (st' := []) (h := 91) hT rfl sm_51 rfl ha0) ?_
                  refine xbd (fun q41 => ?_)
                  rw [rv_51]
                  change zB P 325 92 [(2, ((a0 : Nat) : Int)), (0, a1), (0, a2), (0, a3), (0, 0), (0, q35.1), (3, 0)] [(0, q41.1)] q41.2 = _
                  exact x201 (h := 92) hT rfl
                · refine Eq.trans (x1 (h := 47) hT rfl rfl (by decide)) ?_
                  refine Eq.trans (x1 (h := 48) hT rfl rfl (by decide)) ?_
                  refine Eq.trans (x1 (h := 49) hT rfl rfl (by decide)) ?_
                  refine Eq.trans (x0 (h := 50) hT rfl) ?_
                  refine Eq.trans (x17_3 (h := 51) hT rfl) ?_
                  refine xit (fun _ => ?_) (fun _ => ?_)
                  · refine Eq.trans (x0 (h := 54) hT rfl) ?_
                    refine Eq.trans (x31 (r := a0) (cl := 12) (as := [(0, a2), (0, 1)]) (st' := []) (h := 55) hT rfl sm_69 rfl ha0) ?_
                    refine xbd (fun q42 => ?_)
                    rw [rv_69]
                    change zB P 325 56 [(2, ((a0 : Nat) : Int)), (0, a1), (0, a2), (0, a3), (0, 0), (0, q35.1), (3, 0)] [(0, q42.1)] q42.2 = _
                    refine Eq.trans (x1 (h := 56) hT rfl rfl (by decide)) ?_
                    refine Eq.trans (x0 (h := 57) hT rfl) ?_
                    refine Eq.trans (x6c (h := 58) hT rfl (by decide)) ?_
                    refine Eq.trans (x34 (as := [(0, q42.1), (0, (zdiv 1 a3 10))]) (st' := []) (h := 59) hT rfl sm_79 rfl) ?_
                    refine xbd (fun q43 => ?_)
                    rw [rv_79]
                    change zB P 325 60 [(2, ((a0 : Nat) : Int)), (0, a1), (0, a2), (0, a3), (0, 0), (0, q35.1), (3, 0)] [(0, q43.1)] q43.2 = _
                    refine Eq.trans (x2 (ls' := [(2, ((a0 : Nat) : Int)), (0, a1), (0, a2), (0, a3), (0, 0), (0, q35.1), (0, q43.1)]) (h := 60) hT rfl (Nat.le_of_ble_eq_true rfl) rfl) ?_
                    refine Eq.trans (x1 (h := 61) hT rfl rfl (by decide)) ?_
                    refine Eq.trans (x16_3 (h := 62) hT rfl) ?_
                    refine xit (fun _ => ?_) (fun _ => ?_)
                    · refine Eq.trans (x1 (h := 65) hT rfl rfl (by decide)) ?_
                      exact x201 (h := 66) hT rfl
                    · refine Eq.trans (x0 (h := 63) hT rfl) ?_
                      refine Eq.trans (x18 (h := 64) hT rfl) ?_
                      exact x201 (h := 66) hT rfl
                  · refine Eq.trans (x0 (h := 52) hT rfl) ?_
                    refine Eq.trans (x18 (h := 53) hT rfl) ?_
                    refine Eq.trans (x31 (r := a0) (cl := 12) (as := [(0, a2), (0, 0)]) (st' := []) (h := 55) hT rfl sm_69 rfl ha0) ?_
                    refine xbd (fun q44 => ?_)
                    rw [rv_69]
                    change zB P 325 56 [(2, ((a0 : Nat) : Int)), (0, a1), (0, a2), (0, a3), (0, 0), (0, q35.1), (3, 0)] [(0, q44.1)] q44.2 = _
                    refine Eq.trans (x1 (h := 56) hT rfl rfl (by decide)) ?_
                    refine Eq.trans (x0 (h := 57) hT rfl) ?_
                    refine Eq.trans (x6c (h := 58) hT rfl (by decide)) ?_
                    refine Eq.trans (x34 (as := [(0, q44.1), (0, (zdiv 1 a3 10))]) (st' := []) (h := 59) hT rfl sm_79 rfl) ?_
                    refine xbd (fun q45 => ?_)
                    rw [rv_79]
                    change zB P 325 60 [(2, ((a0 : Nat) : Int)), (0, a1), (0, a2), (0, a3), (0, 0), (0, q35.1), (3, 0)] [(0, q45.1)] q45.2 = _
                    refine Eq.trans (x2 (ls' := [(2, ((a0 : Nat) : Int)), (0, a1), (0, a2), (0, a3), (0, 0), (0, q35.1), (0, q45.1)]) (h := 60) hT rfl (Nat.le_of_ble_eq_true rfl) rfl) ?_
                    refine Eq.trans (x1 (h := 61) hT rfl rfl (by decide)) ?_
                    refine Eq.trans (x16_3 (h := 62) hT rfl) ?_
                    refine xit (fun _ => ?_) (fun _ => ?_)
                    · refine Eq.trans (x1 (h := 65) hT rfl rfl (by decide)) ?_
                      exact x201 (h := 66) hT rfl
                    · refine Eq.trans (x0 (h := 63) hT rfl) ?_
                      refine Eq.trans (x18 (h := 64) hT rfl) ?_
                      exact x201 (h := 66) hT rfl
              · refine Eq.trans (x0 (h := 35) hT rfl) ?_
                exact x201 (h := 36) hT rfl
            · refine Eq.trans (x0 (h := 26) hT rfl) ?_
              exact x201 (h := 27) hT rfl
      · refine Eq.trans (x0 (h := 15) hT rfl) ?_
        refine Eq.trans (x18 (h := 16) hT rfl) ?_
        refine Eq.trans (x2 (ls' := [(2, ((a0 : Nat) : Int)), (0, a1), (0, a2), (0, a3), (0, 1), (3, 0), (3, 0)]) (h := 18) hT rfl (Nat.le_of_ble_eq_true rfl) rfl) ?_
        refine Eq.trans (x1 (h := 19) hT rfl rfl (by decide)) ?_
        refine Eq.trans (x34 (as := [(0, a1)]) (st' := []) (h := 20) hT rfl sm_143 rfl) ?_
        refine xbd (fun q46 => ?_)
        rw [rv_143]
        change zB P 325 21 [(2, ((a0 : Nat) : Int)), (0, a1), (0, a2), (0, a3), (0, 1), (3, 0), (3, 0)] [(0, q46.1)] q46.2 = _
        refine Eq.trans (x16_0 (h := 21) hT rfl) ?_
        refine xit (fun _ => ?_) (fun _ => ?_)
        · refine Eq.trans (x0 (h := 26) hT rfl) ?_
          exact x201 (h := 27) hT rfl
        · refine Eq.trans (x1 (h := 22) hT rfl rfl (by decide)) ?_
          refine Eq.trans (x16_2 (h := 23) hT rfl) ?_
          refine xit (fun _ => ?_) (fun _ => ?_)
          · refine Eq.trans (x0 (h := 26) hT rfl) ?_
            exact x201 (h := 27) hT rfl
          · refine Eq.trans (x1 (h := 24) hT rfl rfl (by decide)) ?_
            refine Eq.trans (x16_1 (h := 25) hT rfl) ?_
            refine xit (fun _ => ?_) (fun _ => ?_)
            · refine Eq.trans (x1 (h := 28) hT rfl rfl (by decide)) ?_
              refine Eq.trans (x1 (h := 29) hT rfl rfl (by decide)) ?_
              refine Eq.trans (x31 (r := a0) (cl := 12) (as := [(0, a1)]) (st' := []) (h := 30) hT rfl sm_312 rfl ha0) ?_
              refine xbd (fun q47 => ?_)
              rw [rv_312]
              change zB P 325 31 [(2, ((a0 : Nat) : Int)), (0, a1), (0, a2), (0, a3), (0, 1), (3, 0), (3, 0)] [] q47.2 = _
              refine Eq.trans (x1 (h := 31) hT rfl rfl (by decide)) ?_
              refine Eq.trans (x1 (h := 32) hT rfl rfl (by decide)) ?_
              refine Eq.trans (x21 (r := a0) (cl := 12) (h := 33) hT rfl ha0) ?_
              refine Eq.trans (x17_2 (h := 34) hT rfl) ?_
              refine xit (fun _ => ?_) (fun _ => ?_)
              · refine Eq.trans (x1 (h := 37) hT rfl rfl (by decide)) ?_
                refine Eq.trans (x1 (h := 38) hT rfl rfl (by decide)) ?_
                refine Eq.trans (x1 (h := 39) hT rfl rfl (by decide)) ?_
                refine Eq.trans (x0 (h := 40) hT rfl) ?_
                refine Eq.trans (x31 (r := a0) (cl := 12) (as := [(0, a2), (0, 0)]) (st' := [(2, ((a0 : Nat) : Int))]) (h := 41) hT rfl sm_69 rfl ha0) ?_
                refine xbd (fun q48 => ?_)
                rw [rv_69]
                change zB P 325 42 [(2, ((a0 : Nat) : Int)), (0, a1), (0, a2), (0, a3), (0, 1), (3, 0), (3, 0)] [(0, q48.1), (2, ((a0 : Nat) : Int))] q48.2 = _
                refine Eq.trans (x31 (r := a0) (cl := 12) (as := [(0, q48.1)]) (st' := []) (h := 42) hT rfl sm_134 rfl ha0) ?_
                refine xbd (fun q49 => ?_)
                rw [rv_134]
                change zB P 325 43 [(2, ((a0 : Nat) : Int)), (0, a1), (0, a2), (0, a3), (0, 1), (3, 0), (3, 0)] [(0, q49.1)] q49.2 = _
                refine Eq.trans (x2 (ls' := [(2, ((a0 : Nat) : Int)), (0, a1), (0, a2), (0, a3), (0, 1), (0, q49.1), (3, 0)]) (h := 43) hT rfl (Nat.le_of_ble_eq_true rfl) rfl) ?_
                refine Eq.trans (x1 (h := 44) hT rfl rfl (by decide)) ?_
                refine Eq.trans (x0 (h := 45) hT rfl) ?_
                refine Eq.trans (x17_2 (h := 46) hT rfl) ?_
                refine xit (fun _ => ?_) (fun _ => ?_)
                · refine Eq.trans (x1 (h := 67) hT rfl rfl (by decide)) ?_
                  refine Eq.trans (x19 (h := 68) hT rfl) ?_
                  refine Eq.trans x19c ?_
                  refine xit (fun _ => ?_) (fun _ => ?_)
                  · refine Eq.trans (x1 (h := 69) hT rfl rfl (by decide)) ?_
                    refine Eq.trans (x21r (r := a0) (cl := 12) (o := 22) (h := 70) hT rfl ha0 (by decide) rfl) ?_
                    refine Eq.trans (x1 (h := 71) hT rfl rfl (by decide)) ?_
                    refine Eq.trans (x24 (r := (a0 + 22)) (n := 5400) (h := 72) hT rfl (Or.inl (kd_12_29 ha0)) (ln_12_29 ha0)) ?_
                    refine xig (fun hz50 => ?_)
                    exact x201 (h := 73) hT rfl
                  refine Eq.trans x19c ?_
                  refine xit (fun _ => ?_) (fun _ => ?_)
                  · refine Eq.trans (x1 (h := 74) hT rfl rfl (by decide)) ?_
                    refine Eq.trans (x1 (h := 75) hT rfl rfl (by decide)) ?_
                    refine Eq.trans (x0 (h := 76) hT rfl) ?_
                    refine Eq.trans (x31 (r := a0) (cl := 12) (as := [(0, a2), (0, 0)]) (st' := []) (h := 77) hT rfl sm_69 rfl ha0) ?_
                    refine xbd (fun q51 => ?_)
                    rw [rv_69]
                    change zB P 325 78 [(2, ((a0 : Nat) : Int)), (0, a1), (0, a2), (0, a3), (0, 1), (0, q49.1), (3, 0)] [(0, q51.1)] q51.2 = _
                    refine Eq.trans (x34 (as := [(0, q51.1)]) (st' := []) (h := 78) hT rfl sm_155 rfl) ?_
                    refine xbd (fun q52 => ?_)
                    rw [rv_155]
                    change zB P 325 79 [(2, ((a0 : Nat) : Int)), (0, a1), (0, a2), (0, a3), (0, 1), (0, q49.1), (3, 0)] [(0, q52.1)] q52.2 = _
                    exact x201 (h := 79) hT rfl
                  refine Eq.trans x19c ?_
                  refine xit (fun _ => ?_) (fun _ => ?_)
                  · refine Eq.trans (x1 (h := 80) hT rfl rfl (by decide)) ?_
                    refine Eq.trans (x1 (h := 81) hT rfl rfl (by decide)) ?_
                    refine Eq.trans (x0 (h := 82) hT rfl) ?_
                    refine Eq.trans (x31 (r := a0) (cl := 12) (as := [(0, a2), (0, 1)]) (st' := []) (h := 83) hT rfl sm_69 rfl ha0) ?_
                    refine xbd (fun q53 => ?_)
                    rw [rv_69]
                    change zB P 325 84 [(2, ((a0 : Nat) : Int)), (0, a1), (0, a2), (0, a3), (0, 1), (0, q49.1), (3, 0)] [(0, q53.1)] q53.2 = _
                    refine Eq.trans (x34 (as := [(0, q53.1)]) (st' := []) (h := 84) hT rfl sm_155 rfl) ?_
                    refine xbd (fun q54 => ?_)
                    rw [rv_155]
                    change zB P 325 85 [(2, ((a0 : Nat) : Int)), (0, a1), (0, a2), (0, a3), (0, 1), (0, q49.1), (3, 0)] [(0, q54.1)] q54.2 = _
                    exact x201 (h := 85) hT rfl
                  refine Eq.trans x19c ?_
                  refine xit (fun _ => ?_) (fun _ => ?_)
                  · refine Eq.trans (x1 (h := 86) hT rfl rfl (by decide)) ?_
                    exact x201 (h := 87) hT rfl
                  refine Eq.trans (x1 (h := 88) hT rfl rfl (by decide)) ?_
                  refine Eq.trans (x1 (h := 89) hT rfl rfl (by decide)) ?_
                  refine Eq.trans (x1 (h := 90) hT rfl rfl (by decide)) ?_
                  refine Eq.trans (x31 (r := a0) (cl := 12) (as := [(0, a2), (0, q49.1)]) (st' := []) (h := 91) hT rfl sm_51 rfl ha0) ?_
                  refine xbd (fun q55 => ?_)
                  rw [rv_51]
                  change zB P 325 92 [(2, ((a0 : Nat) : Int)), (0, a1), (0, a2), (0, a3), (0, 1), (0, q49.1), (3, 0)] [(0, q55.1)] q55.2 = _
                  exact x201 (h := 92) hT rfl
                · refine Eq.trans (x1 (h := 47) hT rfl rfl (by decide)) ?_
                  refine Eq.trans (x1 (h := 48) hT rfl rfl (by decide)) ?_
                  refine Eq.trans (x1 (h := 49) hT rfl rfl (by decide)) ?_
                  refine Eq.trans (x0 (h := 50) hT rfl) ?_
                  refine Eq.trans (x17_3 (h := 51) hT rfl) ?_
                  refine xit (fun _ => ?_) (fun _ => ?_)
                  · refine Eq.trans (x0 (h := 54) hT rfl) ?_
                    refine Eq.trans (x31 (r := a0) (cl := 12) (as := [(0, a2), (0, 1)]) (st' := []) (h := 55) hT rfl sm_69 rfl ha0) ?_
                    refine xbd (fun q56 => ?_)
                    rw [rv_69]
                    change zB P 325 56 [(2, ((a0 : Nat) : Int)), (0, a1), (0, a2), (0, a3), (0, 1), (0, q49.1), (3, 0)] [(0, q56.1)] q56.2 = _
                    refine Eq.trans (x1 (h := 56) hT rfl rfl (by decide)) ?_
                    refine Eq.trans (x0 (h := 57) hT rfl) ?_
                    refine Eq.trans (x6c (h := 58) hT rfl (by decide)) ?_
                    refine Eq.trans (x34 (as := [(0, q56.1), (0, (zdiv 1 a3 10))]) (st' := []) (h := 59) hT rfl sm_79 rfl) ?_
                    refine xbd (fun q57 => ?_)
                    rw [rv_79]
                    change zB P 325 60 [(2, ((a0 : Nat) : Int)), (0, a1), (0, a2), (0, a3), (0, 1), (0, q49.1), (3, 0)] [(0, q57.1)] q57.2 = _
                    refine Eq.trans (x2 (ls' := [(2, ((a0 : Nat) : Int)), (0, a1), (0, a2), (0, a3), (0, 1), (0, q49.1), (0, q57.1)]) (h := 60) hT rfl (Nat.le_of_ble_eq_true rfl) rfl) ?_
                    refine Eq.trans (x1 (h := 61) hT rfl rfl (by decide)) ?_
                    refine Eq.trans (x16_3 (h := 62) hT rfl) ?_
                    refine xit (fun _ => ?_) (fun _ => ?_)
                    · refine Eq.trans (x1 (h := 65) hT rfl rfl (by decide)) ?_
                      exact x201 (h := 66) hT rfl
                    · refine Eq.trans (x0 (h := 63) hT rfl) ?_
                      refine Eq.trans (x18 (h := 64) hT rfl) ?_
                      exact x201 (h := 66) hT rfl
                  · refine Eq.trans (x0 (h := 52) hT rfl) ?_
                    refine Eq.trans (x18 (h := 53) hT rfl) ?_
                    refine Eq.trans (x31 (r := a0) (cl := 12) (as := [(0, a2), (0, 0)]) (st' := []) (h := 55) hT rfl sm_69 rfl ha0) ?_
                    refine xbd (fun q58 => ?_)
                    rw [rv_69]
                    change zB P 325 56 [(2, ((a0 : Nat) : Int)), (0, a1), (0, a2), (0, a3), (0, 1), (0, q49.1), (3, 0)] [(0, q58.1)] q58.2 = _
                    refine Eq.trans (x1 (h := 56) hT rfl rfl (by decide)) ?_
                    refine Eq.trans (x0 (h := 57) hT rfl) ?_
                    refine Eq.trans (x6c (h := 58) hT rfl (by decide)) ?_
                    refine Eq.trans (x34 (as := [(0, q58.1), (0, (zdiv 1 a3 10))]) (st' := []) (h := 59) hT rfl sm_79 rfl) ?_
                    refine xbd (fun q59 => ?_)
                    rw [rv_79]
                    change zB P 325 60 [(2, ((a0 : Nat) : Int)), (0, a1), (0, a2), (0, a3), (0, 1), (0, q49.1), (3, 0)] [(0, q59.1)] q59.2 = _
                    refine Eq.trans (x2 (ls' := [(2, ((a0 : Nat) : Int)), (0, a1), (0, a2), (0, a3), (0, 1), (0, q49.1), (0, q59.1)]) (h := 60) hT rfl (Nat.le_of_ble_eq_true rfl) rfl) ?_
                    refine Eq.trans (x1 (h := 61) hT rfl rfl (by decide)) ?_
                    refine Eq.trans (x16_3 (h := 62) hT rfl) ?_
                    refine xit (fun _ => ?_) (fun _ => ?_)
                    · refine Eq.trans (x1 (h := 65) hT rfl rfl (by decide)) ?_
                      exact x201 (h := 66) hT rfl
                    · refine Eq.trans (x0 (h := 63) hT rfl) ?_
                      refine Eq.trans (x18 (h := 64) hT rfl) ?_
                      exact x201 (h := 66) hT rfl
              · refine Eq.trans (x0 (h := 35) hT rfl) ?_
                exact x201 (h := 36) hT rfl
            · refine Eq.trans (x0 (h := 26) hT rfl) ?_
              exact x201 (h := 27) hT rfl
/-! WordLinksModel.phrases(I)I -/
set_option maxRecDepth 100000 in
theorem e_326 {P : zP} {d : zD P} {a0 : Nat} {a1 : Int} (ha0 : zkd a0 = 12) : MM P 326 [(2, ((a0 : Nat) : Int)), (0, a1)] d = ((MM P 143 [(0, a1)] d).bind fun q1 => (if wr q1.1 ≠ 0 then ((MM P 312 [(2, ((a0 : Nat) : Int)), (0, a1)] q1.2).bind fun q2 => some ((q2.2.m a0 30), q2.2)) else some ((-1), q1.2))) := by
  have hT := cT_326
  refine Eq.trans (MM_def sm_326 (Nat.le_of_ble_eq_true rfl)) ?_
  change zB P 326 0 [(2, ((a0 : Nat) : Int)), (0, a1)] [] d = _
  refine Eq.trans (x1 (h := 0) hT rfl rfl (by decide)) ?_
  refine Eq.trans (x34 (as := [(0, a1)]) (st' := []) (h := 1) hT rfl sm_143 rfl) ?_
  refine xbd (fun q1 => ?_)
  rw [rv_143]
  change zB P 326 2 [(2, ((a0 : Nat) : Int)), (0, a1)] [(0, q1.1)] q1.2 = _
  refine Eq.trans (x16_1 (h := 2) hT rfl) ?_
  refine xit (fun _ => ?_) (fun _ => ?_)
  · refine Eq.trans (x1 (h := 5) hT rfl rfl (by decide)) ?_
    refine Eq.trans (x1 (h := 6) hT rfl rfl (by decide)) ?_
    refine Eq.trans (x31 (r := a0) (cl := 12) (as := [(0, a1)]) (st' := []) (h := 7) hT rfl sm_312 rfl ha0) ?_
    refine xbd (fun q2 => ?_)
    rw [rv_312]
    change zB P 326 8 [(2, ((a0 : Nat) : Int)), (0, a1)] [] q2.2 = _
    refine Eq.trans (x1 (h := 8) hT rfl rfl (by decide)) ?_
    refine Eq.trans (x21 (r := a0) (cl := 12) (h := 9) hT rfl ha0) ?_
    exact x201 (h := 10) hT rfl
  · refine Eq.trans (x0 (h := 3) hT rfl) ?_
    exact x201 (h := 4) hT rfl
/-! WordLinksModel.readsSheets(I)Z -/
set_option maxRecDepth 100000 in
theorem e_327 {P : zP} {d : zD P} {a0 : Nat} {a1 : Int} (ha0 : zkd a0 = 12) : MM P 327 [(2, ((a0 : Nat) : Int)), (0, a1)] d = ((MM P 318 [(2, ((a0 : Nat) : Int)), (0, 0)] ((((d.up a0 4 0)).up a0 5 a1))).bind fun q1 => (if wr q1.1 = 0 then (if wr 0 = 0 then some (0, q1.2) else (if wr ((q1.2.m a0 4)) = wr ((q1.2.m a0 5)) then some (1, q1.2) else ((MM P 83 [(2, ((a0 : Nat) : Int)), (0, 1), (0, (q1.2.m a0 4))] q1.2).bind fun q2 => (if wr q2.1 = 0 then some (0, q2.2) else some (1, q2.2))))) else ((MM P 161 [(2, ((a0 : Nat) : Int)), (0, 124)] q1.2).bind fun q3 => (if wr q3.1 = 0 then (if wr 0 = 0 then some (0, q3.2) else (if wr ((q3.2.m a0 4)) = wr ((q3.2.m a0 5)) then some (1, q3.2) else ((MM P 83 [(2, ((a0 : Nat) : Int)), (0, 1), (0, (q3.2.m a0 4))] q3.2).bind fun q4 => (if wr q4.1 = 0 then some (0, q4.2) else some (1, q4.2))))) else ((MM P 318 [(2, ((a0 : Nat) : Int)), (0, 1)] q3.2).bind fun q5 => (if wr q5.1 = 0 then (if wr 0 = 0 then some (0, q5.2) else (if wr ((q5.2.m a0 4)) = wr ((q5.2.m a0 5)) then some (1, q5.2) else ((MM P 83 [(2, ((a0 : Nat) : Int)), (0, 1), (0, (q5.2.m a0 4))] q5.2).bind fun q6 => (if wr q6.1 = 0 then some (0, q6.2) else some (1, q6.2))))) else (if wr 1 = 0 then some (0, q5.2) else (if wr ((q5.2.m a0 4)) = wr ((q5.2.m a0 5)) then some (1, q5.2) else ((MM P 83 [(2, ((a0 : Nat) : Int)), (0, 1), (0, (q5.2.m a0 4))] q5.2).bind fun q7 => (if wr q7.1 = 0 then some (0, q7.2) else some (1, q7.2))))))))))) := by
  have hT := cT_327
  refine Eq.trans (MM_def sm_327 (Nat.le_of_ble_eq_true rfl)) ?_
  change zB P 327 0 [(2, ((a0 : Nat) : Int)), (0, a1), (3, 0)] [] d = _
  refine Eq.trans (x1 (h := 0) hT rfl rfl (by decide)) ?_
  refine Eq.trans (x0 (h := 1) hT rfl) ?_
  refine Eq.trans (x22 (r := a0) (cl := 12) (h := 2) hT rfl ha0 (by decide) rfl (by decide)) ?_
  refine Eq.trans (x1 (h := 3) hT rfl rfl (by decide)) ?_
  refine Eq.trans (x1 (h := 4) hT rfl rfl (by decide)) ?_
  refine Eq.trans (x22 (r := a0) (cl := 12) (h := 5) hT rfl ha0 (by decide) rfl (by decide)) ?_
  refine Eq.trans (x1 (h := 6) hT rfl rfl (by decide)) ?_
  refine Eq.trans (x0 (h := 7) hT rfl) ?_
  refine Eq.trans (x31 (r := a0) (cl := 12) (as := [(0, 0)]) (st' := []) (h := 8) hT rfl sm_318 rfl ha0) ?_
  refine xbd (fun q1 => ?_)
  rw [rv_318]
  change zB P 327 9 [(2, ((a0 : Nat) : Int)), (0, a1), (3, 0)] [(0, q1.1)] q1.2 = _
  refine Eq.trans (x16_0 (h := 9) hT rfl) ?_
  refine xit (fun _ => ?_) (fun _ => ?_)
  · refine Eq.trans (x0 (h := 20) hT rfl) ?_
    refine Eq.trans (x2 (ls' := [(2, ((a0 : Nat) : Int)), (0, a1), (0, 0)]) (h := 21) hT rfl (Nat.le_of_ble_eq_true rfl) rfl) ?_
    refine Eq.trans (x1 (h := 22) hT rfl rfl (by decide)) ?_
    refine Eq.trans (x16_0 (h := 23) hT rfl) ?_
    refine xit (fun _ => ?_) (fun _ => ?_)
    · refine Eq.trans (x0 (h := 37) hT rfl) ?_
      exact x203c (h := 38) hT rfl (by decide)
    · refine Eq.trans (x1 (h := 24) hT rfl rfl (by decide)) ?_
      refine Eq.trans (x21 (r := a0) (cl := 12) (h := 25) hT rfl ha0) ?_
      refine Eq.trans (x1 (h := 26) hT rfl rfl (by decide)) ?_
      refine Eq.trans (x21 (r := a0) (cl := 12) (h := 27) hT rfl ha0) ?_
      refine Eq.trans (x17_0 (h := 28) hT rfl) ?_
      refine xit (fun _ => ?_) (fun _ => ?_)
      · refine Eq.trans (x0 (h := 35) hT rfl) ?_
        refine Eq.trans (x18 (h := 36) hT rfl) ?_
        exact x203c (h := 38) hT rfl (by decide)
      · refine Eq.trans (x1 (h := 29) hT rfl rfl (by decide)) ?_
        refine Eq.trans (x0 (h := 30) hT rfl) ?_
        refine Eq.trans (x1 (h := 31) hT rfl rfl (by decide)) ?_
        refine Eq.trans (x21 (r := a0) (cl := 12) (h := 32) hT rfl ha0) ?_
        refine Eq.trans (x31 (r := a0) (cl := 12) (as := [(0, 1), (0, (q1.2.m a0 4))]) (st' := []) (h := 33) hT rfl sm_83 rfl ha0) ?_
        refine xbd (fun q2 => ?_)
        rw [rv_83]
        change zB P 327 34 [(2, ((a0 : Nat) : Int)), (0, a1), (0, 0)] [(0, q2.1)] q2.2 = _
        refine Eq.trans (x16_0 (h := 34) hT rfl) ?_
        refine xit (fun _ => ?_) (fun _ => ?_)
        · refine Eq.trans (x0 (h := 37) hT rfl) ?_
          exact x203c (h := 38) hT rfl (by decide)
        · refine Eq.trans (x0 (h := 35) hT rfl) ?_
          refine Eq.trans (x18 (h := 36) hT rfl) ?_
          exact x203c (h := 38) hT rfl (by decide)
  · refine Eq.trans (x1 (h := 10) hT rfl rfl (by decide)) ?_
    refine Eq.trans (x0 (h := 11) hT rfl) ?_
    refine Eq.trans (x31 (r := a0) (cl := 12) (as := [(0, 124)]) (st' := []) (h := 12) hT rfl sm_161 rfl ha0) ?_
    refine xbd (fun q3 => ?_)
    rw [rv_161]
    change zB P 327 13 [(2, ((a0 : Nat) : Int)), (0, a1), (3, 0)] [(0, q3.1)] q3.2 = _
    refine Eq.trans (x16_0 (h := 13) hT rfl) ?_
    refine xit (fun _ => ?_) (fun _ => ?_)
    · refine Eq.trans (x0 (h := 20) hT rfl) ?_
      refine Eq.trans (x2 (ls' := [(2, ((a0 : Nat) : Int)), (0, a1), (0, 0)]) (h := 21) hT rfl (Nat.le_of_ble_eq_true rfl) rfl) ?_
      refine Eq.trans (x1 (h := 22) hT rfl rfl (by decide)) ?_
      refine Eq.trans (x16_0 (h := 23) hT rfl) ?_
      refine xit (fun _ => ?_) (fun _ => ?_)
      · refine Eq.trans (x0 (h := 37) hT rfl) ?_
        exact x203c (h := 38) hT rfl (by decide)
      · refine Eq.trans (x1 (h := 24) hT rfl rfl (by decide)) ?_
        refine Eq.trans (x21 (r := a0) (cl := 12) (h := 25) hT rfl ha0) ?_
        refine Eq.trans (x1 (h := 26) hT rfl rfl (by decide)) ?_
        refine Eq.trans (x21 (r := a0) (cl := 12) (h := 27) hT rfl ha0) ?_
        refine Eq.trans (x17_0 (h := 28) hT rfl) ?_
        refine xit (fun _ => ?_) (fun _ => ?_)
        · refine Eq.trans (x0 (h := 35) hT rfl) ?_
          refine Eq.trans (x18 (h := 36) hT rfl) ?_
          exact x203c (h := 38) hT rfl (by decide)
        · refine Eq.trans (x1 (h := 29) hT rfl rfl (by decide)) ?_
          refine Eq.trans (x0 (h := 30) hT rfl) ?_
          refine Eq.trans (x1 (h := 31) hT rfl rfl (by decide)) ?_
          refine Eq.trans (x21 (r := a0) (cl := 12) (h := 32) hT rfl ha0) ?_
          refine Eq.trans (x31 (r := a0) (cl := 12) (as := [(0, 1), (0, (q3.2.m a0 4))]) (st' := []) (h := 33) hT rfl sm_83 rfl ha0) ?_
          refine xbd (fun q4 => ?_)
          rw [rv_83]
          change zB P 327 34 [(2, ((a0 : Nat) : Int)), (0, a1), (0, 0)] [(0, q4.1)] q4.2 = _
          refine Eq.trans (x16_0 (h := 34) hT rfl) ?_
          refine xit (fun _ => ?_) (fun _ => ?_)
          · refine Eq.trans (x0 (h := 37) hT rfl) ?_
            exact x203c (h := 38) hT rfl (by decide)
          · refine Eq.trans (x0 (h := 35) hT rfl) ?_
            refine Eq.trans (x18 (h := 36) hT rfl) ?_
            exact x203c (h := 38) hT rfl (by decide)
    · refine Eq.trans (x1 (h := 14) hT rfl rfl (by decide)) ?_
      refine Eq.trans (x0 (h := 15) hT rfl) ?_
      refine Eq.trans (x31 (r := a0) (cl := 12) (as := [(0, 1)]) (st' := []) (h := 16) hT rfl sm_318 rfl ha0) ?_
      refine xbd (fun q5 => ?_)
      rw [rv_318]
      change zB P 327 17 [(2, ((a0 : Nat) : Int)), (0, a1), (3, 0)] [(0, q5.1)] q5.2 = _
      refine Eq.trans (x16_0 (h := 17) hT rfl) ?_
      refine xit (fun _ => ?_) (fun _ => ?_)
      · refine Eq.trans (x0 (h := 20) hT rfl) ?_
        refine Eq.trans (x2 (ls' := [(2, ((a0 : Nat) : Int)), (0, a1), (0, 0)]) (h := 21) hT rfl (Nat.le_of_ble_eq_true rfl) rfl) ?_
        refine Eq.trans (x1 (h := 22) hT rfl rfl (by decide)) ?_
        refine Eq.trans (x16_0 (h := 23) hT rfl) ?_
        refine xit (fun _ => ?_) (fun _ => ?_)
        · refine Eq.trans (x0 (h := 37) hT rfl) ?_
          exact x203c (h := 38) hT rfl (by decide)
        · refine Eq.trans (x1 (h := 24) hT rfl rfl (by decide)) ?_
          refine Eq.trans (x21 (r := a0) (cl := 12) (h := 25) hT rfl ha0) ?_
          refine Eq.trans (x1 (h := 26) hT rfl rfl (by decide)) ?_
          refine Eq.trans (x21 (r := a0) (cl := 12) (h := 27) hT rfl ha0) ?_
          refine Eq.trans (x17_0 (h := 28) hT rfl) ?_
          refine xit (fun _ => ?_) (fun _ => ?_)
          · refine Eq.trans (x0 (h := 35) hT rfl) ?_
            refine Eq.trans (x18 (h := 36) hT rfl) ?_
            exact x203c (h := 38) hT rfl (by decide)
          · refine Eq.trans (x1 (h := 29) hT rfl rfl (by decide)) ?_
            refine Eq.trans (x0 (h := 30) hT rfl) ?_
            refine Eq.trans (x1 (h := 31) hT rfl rfl (by decide)) ?_
            refine Eq.trans (x21 (r := a0) (cl := 12) (h := 32) hT rfl ha0) ?_
            refine Eq.trans (x31 (r := a0) (cl := 12) (as := [(0, 1), (0, (q5.2.m a0 4))]) (st' := []) (h := 33) hT rfl sm_83 rfl ha0) ?_
            refine xbd (fun q6 => ?_)
            rw [rv_83]
            change zB P 327 34 [(2, ((a0 : Nat) : Int)), (0, a1), (0, 0)] [(0, q6.1)] q6.2 = _
            refine Eq.trans (x16_0 (h := 34) hT rfl) ?_
            refine xit (fun _ => ?_) (fun _ => ?_)
            · refine Eq.trans (x0 (h := 37) hT rfl) ?_
              exact x203c (h := 38) hT rfl (by decide)
            · refine Eq.trans (x0 (h := 35) hT rfl) ?_
              refine Eq.trans (x18 (h := 36) hT rfl) ?_
              exact x203c (h := 38) hT rfl (by decide)
      · refine Eq.trans (x0 (h := 18) hT rfl) ?_
        refine Eq.trans (x18 (h := 19) hT rfl) ?_
        refine Eq.trans (x2 (ls' := [(2, ((a0 : Nat) : Int)), (0, a1), (0, 1)]) (h := 21) hT rfl (Nat.le_of_ble_eq_true rfl) rfl) ?_
        refine Eq.trans (x1 (h := 22) hT rfl rfl (by decide)) ?_
        refine Eq.trans (x16_0 (h := 23) hT rfl) ?_
        refine xit (fun _ => ?_) (fun _ => ?_)
        · refine Eq.trans (x0 (h := 37) hT rfl) ?_
          exact x203c (h := 38) hT rfl (by decide)
        · refine Eq.trans (x1 (h := 24) hT rfl rfl (by decide)) ?_
          refine Eq.trans (x21 (r := a0) (cl := 12) (h := 25) hT rfl ha0) ?_
          refine Eq.trans (x1 (h := 26) hT rfl rfl (by decide)) ?_
          refine Eq.trans (x21 (r := a0) (cl := 12) (h := 27) hT rfl ha0) ?_
          refine Eq.trans (x17_0 (h := 28) hT rfl) ?_
          refine xit (fun _ => ?_) (fun _ => ?_)
          · refine Eq.trans (x0 (h := 35) hT rfl) ?_
            refine Eq.trans (x18 (h := 36) hT rfl) ?_
            exact x203c (h := 38) hT rfl (by decide)
          · refine Eq.trans (x1 (h := 29) hT rfl rfl (by decide)) ?_
            refine Eq.trans (x0 (h := 30) hT rfl) ?_
            refine Eq.trans (x1 (h := 31) hT rfl rfl (by decide)) ?_
            refine Eq.trans (x21 (r := a0) (cl := 12) (h := 32) hT rfl ha0) ?_
            refine Eq.trans (x31 (r := a0) (cl := 12) (as := [(0, 1), (0, (q5.2.m a0 4))]) (st' := []) (h := 33) hT rfl sm_83 rfl ha0) ?_
            refine xbd (fun q7 => ?_)
            rw [rv_83]
            change zB P 327 34 [(2, ((a0 : Nat) : Int)), (0, a1), (0, 1)] [(0, q7.1)] q7.2 = _
            refine Eq.trans (x16_0 (h := 34) hT rfl) ?_
            refine xit (fun _ => ?_) (fun _ => ?_)
            · refine Eq.trans (x0 (h := 37) hT rfl) ?_
              exact x203c (h := 38) hT rfl (by decide)
            · refine Eq.trans (x0 (h := 35) hT rfl) ?_
              refine Eq.trans (x18 (h := 36) hT rfl) ?_
              exact x203c (h := 38) hT rfl (by decide)
/-! WordLinksModel.tried(II)I -/
set_option maxRecDepth 100000 in
theorem e_328 {P : zP} {d : zD P} {a0 : Nat} {a1 : Int} {a2 : Int} (ha0 : zkd a0 = 12) : MM P 328 [(2, ((a0 : Nat) : Int)), (0, a1), (0, a2)] d = ((MM P 55 [(0, a1), (0, 1), (0, 30)] d).bind fun q1 => (if wr q1.1 = 0 then some ((-1), q1.2) else ((MM P 55 [(0, a2), (0, 0), (0, 4)] q1.2).bind fun q2 => (if wr q2.1 ≠ 0 then ((MM P 50 [(2, ((a0 : Nat) : Int)), (0, 0), (0, 3)] q2.2).bind fun q3 => zB P 328 18 [(2, ((a0 : Nat) : Int)), (0, a1), (0, a2), (0, 0)] [] q3.2) else some ((-1), q2.2))))) := by
  have hT := cT_328
  refine Eq.trans (MM_def sm_328 (Nat.le_of_ble_eq_true rfl)) ?_
  change zB P 328 0 [(2, ((a0 : Nat) : Int)), (0, a1), (0, a2), (3, 0)] [] d = _
  refine Eq.trans (x1 (h := 0) hT rfl rfl (by decide)) ?_
  refine Eq.trans (x0 (h := 1) hT rfl) ?_
  refine Eq.trans (x0 (h := 2) hT rfl) ?_
  refine Eq.trans (x34 (as := [(0, a1), (0, 1), (0, 30)]) (st' := []) (h := 3) hT rfl sm_55 rfl) ?_
  refine xbd (fun q1 => ?_)
  rw [rv_55]
  change zB P 328 4 [(2, ((a0 : Nat) : Int)), (0, a1), (0, a2), (3, 0)] [(0, q1.1)] q1.2 = _
  refine Eq.trans (x16_0 (h := 4) hT rfl) ?_
  refine xit (fun _ => ?_) (fun _ => ?_)
  · refine Eq.trans (x0 (h := 10) hT rfl) ?_
    exact x201 (h := 11) hT rfl
  · refine Eq.trans (x1 (h := 5) hT rfl rfl (by decide)) ?_
    refine Eq.trans (x0 (h := 6) hT rfl) ?_
    refine Eq.trans (x0 (h := 7) hT rfl) ?_
    refine Eq.trans (x34 (as := [(0, a2), (0, 0), (0, 4)]) (st' := []) (h := 8) hT rfl sm_55 rfl) ?_
    refine xbd (fun q2 => ?_)
    rw [rv_55]
    change zB P 328 9 [(2, ((a0 : Nat) : Int)), (0, a1), (0, a2), (3, 0)] [(0, q2.1)] q2.2 = _
    refine Eq.trans (x16_1 (h := 9) hT rfl) ?_
    refine xit (fun _ => ?_) (fun _ => ?_)
    · refine Eq.trans (x1 (h := 12) hT rfl rfl (by decide)) ?_
      refine Eq.trans (x0 (h := 13) hT rfl) ?_
      refine Eq.trans (x0 (h := 14) hT rfl) ?_
      refine Eq.trans (x31 (r := a0) (cl := 12) (as := [(0, 0), (0, 3)]) (st' := []) (h := 15) hT rfl sm_50 rfl ha0) ?_
      refine xbd (fun q3 => ?_)
      rw [rv_50]
      change zB P 328 16 [(2, ((a0 : Nat) : Int)), (0, a1), (0, a2), (3, 0)] [] q3.2 = _
      refine Eq.trans (x0 (h := 16) hT rfl) ?_
      refine Eq.trans (x2 (ls' := [(2, ((a0 : Nat) : Int)), (0, a1), (0, a2), (0, 0)]) (h := 17) hT rfl (Nat.le_of_ble_eq_true rfl) rfl) ?_
      exact rfl
    · refine Eq.trans (x0 (h := 10) hT rfl) ?_
      exact x201 (h := 11) hT rfl
set_option maxRecDepth 100000 in
theorem q_328_18 {P : zP} {d : zD P} {a0 : Nat} {a1 : Int} {a2 : Int} {a3 : Int} (ha0 : zkd a0 = 12) : zB P 328 18 [(2, ((a0 : Nat) : Int)), (0, a1), (0, a2), (0, a3)] [] d = (if wr ((2 * a1)) ≤ wr a3 then (if wr a2 ≠ 0 then (if wr a2 ≠ wr 1 then (if wr a2 ≠ wr 2 then (if wr a2 ≠ wr 3 then ((MM P 63 [(2, ((a0 : Nat) : Int))] d).bind fun q4 => ((MM P 50 [(2, ((a0 : Nat) : Int)), (0, 3), (0, 0)] q4.2).bind fun q5 => some (q4.1, q5.2))) else ((MM P 308 [(2, ((a0 : Nat) : Int)), (0, 4)] d).bind fun q6 => ((MM P 50 [(2, ((a0 : Nat) : Int)), (0, 3), (0, 0)] q6.2).bind fun q7 => some (q6.1, q7.2)))) else ((MM P 268 [(2, ((a0 : Nat) : Int))] d).bind fun q8 => ((MM P 50 [(2, ((a0 : Nat) : Int)), (0, 3), (0, 0)] q8.2).bind fun q9 => some (q8.1, q9.2)))) else ((MM P 309 [(2, ((a0 : Nat) : Int)), (0, 3)] d).bind fun q10 => ((MM P 50 [(2, ((a0 : Nat) : Int)), (0, 3), (0, 0)] q10.2).bind fun q11 => some (q10.1, q11.2)))) else ((MM P 309 [(2, ((a0 : Nat) : Int)), (0, 2)] d).bind fun q12 => ((MM P 50 [(2, ((a0 : Nat) : Int)), (0, 3), (0, 0)] q12.2).bind fun q13 => some (q12.1, q13.2)))) else ((MM P 292 [(2, ((a0 : Nat) : Int)), (0, (zdiv 1 a3 2))] d).bind fun q14 => zB P 328 18 [(2, ((a0 : Nat) : Int)), (0, a1), (0, a2), (0, (a3 + 1))] [] q14.2)) := by
  have hT := cT_328
  refine Eq.trans (x1 (h := 18) hT rfl rfl (by decide)) ?_
  refine Eq.trans (x0 (h := 19) hT rfl) ?_
  refine Eq.trans (x1 (h := 20) hT rfl rfl (by decide)) ?_
  refine Eq.trans (x5_2 (h := 21) hT rfl) ?_
  refine Eq.trans (x17_3 (h := 22) hT rfl) ?_
  refine xit (fun _ => ?_) (fun _ => ?_)
  · refine Eq.trans (x1 (h := 30) hT rfl rfl (by decide)) ?_
    refine Eq.trans (x16_1 (h := 31) hT rfl) ?_
    refine xit (fun _ => ?_) (fun _ => ?_)
    · refine Eq.trans (x1 (h := 36) hT rfl rfl (by decide)) ?_
      refine Eq.trans (x0 (h := 37) hT rfl) ?_
      refine Eq.trans (x17_1 (h := 38) hT rfl) ?_
      refine xit (fun _ => ?_) (fun _ => ?_)
      · refine Eq.trans (x1 (h := 43) hT rfl rfl (by decide)) ?_
        refine Eq.trans (x0 (h := 44) hT rfl) ?_
        refine Eq.trans (x17_1 (h := 45) hT rfl) ?_
        refine xit (fun _ => ?_) (fun _ => ?_)
        · refine Eq.trans (x1 (h := 49) hT rfl rfl (by decide)) ?_
          refine Eq.trans (x0 (h := 50) hT rfl) ?_
          refine Eq.trans (x17_1 (h := 51) hT rfl) ?_
          refine xit (fun _ => ?_) (fun _ => ?_)
          · refine Eq.trans (x1 (h := 56) hT rfl rfl (by decide)) ?_
            refine Eq.trans (x31 (r := a0) (cl := 12) (as := []) (st' := []) (h := 57) hT rfl sm_63 rfl ha0) ?_
            refine xbd (fun q4 => ?_)
            rw [rv_63]
            change zB P 328 58 [(2, ((a0 : Nat) : Int)), (0, a1), (0, a2), (0, a3)] [(0, q4.1)] q4.2 = _
            refine Eq.trans (x2 (ls' := [(2, ((a0 : Nat) : Int)), (0, a1), (0, a2), (0, q4.1)]) (h := 58) hT rfl (Nat.le_of_ble_eq_true rfl) rfl) ?_
            refine Eq.trans (x1 (h := 59) hT rfl rfl (by decide)) ?_
            refine Eq.trans (x0 (h := 60) hT rfl) ?_
            refine Eq.trans (x0 (h := 61) hT rfl) ?_
            refine Eq.trans (x31 (r := a0) (cl := 12) (as := [(0, 3), (0, 0)]) (st' := []) (h := 62) hT rfl sm_50 rfl ha0) ?_
            refine xbd (fun q5 => ?_)
            rw [rv_50]
            change zB P 328 63 [(2, ((a0 : Nat) : Int)), (0, a1), (0, a2), (0, q4.1)] [] q5.2 = _
            refine Eq.trans (x1 (h := 63) hT rfl rfl (by decide)) ?_
            exact x201 (h := 64) hT rfl
          · refine Eq.trans (x1 (h := 52) hT rfl rfl (by decide)) ?_
            refine Eq.trans (x0 (h := 53) hT rfl) ?_
            refine Eq.trans (x31 (r := a0) (cl := 12) (as := [(0, 4)]) (st' := []) (h := 54) hT rfl sm_308 rfl ha0) ?_
            refine xbd (fun q6 => ?_)
            rw [rv_308]
            change zB P 328 55 [(2, ((a0 : Nat) : Int)), (0, a1), (0, a2), (0, a3)] [(0, q6.1)] q6.2 = _
            refine Eq.trans (x18 (h := 55) hT rfl) ?_
            refine Eq.trans (x2 (ls' := [(2, ((a0 : Nat) : Int)), (0, a1), (0, a2), (0, q6.1)]) (h := 58) hT rfl (Nat.le_of_ble_eq_true rfl) rfl) ?_
            refine Eq.trans (x1 (h := 59) hT rfl rfl (by decide)) ?_
            refine Eq.trans (x0 (h := 60) hT rfl) ?_
            refine Eq.trans (x0 (h := 61) hT rfl) ?_
            refine Eq.trans (x31 (r := a0) (cl := 12) (as := [(0, 3), (0, 0)]) (st' := []) (h := 62) hT rfl sm_50 rfl ha0) ?_
            refine xbd (fun q7 => ?_)
            rw [rv_50]
            change zB P 328 63 [(2, ((a0 : Nat) : Int)), (0, a1), (0, a2), (0, q6.1)] [] q7.2 = _
            refine Eq.trans (x1 (h := 63) hT rfl rfl (by decide)) ?_
            exact x201 (h := 64) hT rfl
        · refine Eq.trans (x1 (h := 46) hT rfl rfl (by decide)) ?_
          refine Eq.trans (x31 (r := a0) (cl := 12) (as := []) (st' := []) (h := 47) hT rfl sm_268 rfl ha0) ?_
          refine xbd (fun q8 => ?_)
          rw [rv_268]
          change zB P 328 48 [(2, ((a0 : Nat) : Int)), (0, a1), (0, a2), (0, a3)] [(0, q8.1)] q8.2 = _
          refine Eq.trans (x18 (h := 48) hT rfl) ?_
          refine Eq.trans (x2 (ls' := [(2, ((a0 : Nat) : Int)), (0, a1), (0, a2), (0, q8.1)]) (h := 58) hT rfl (Nat.le_of_ble_eq_true rfl) rfl) ?_
          refine Eq.trans (x1 (h := 59) hT rfl rfl (by decide)) ?_
          refine Eq.trans (x0 (h := 60) hT rfl) ?_
          refine Eq.trans (x0 (h := 61) hT rfl) ?_
          refine Eq.trans (x31 (r := a0) (cl := 12) (as := [(0, 3), (0, 0)]) (st' := []) (h := 62) hT rfl sm_50 rfl ha0) ?_
          refine xbd (fun q9 => ?_)
          rw [rv_50]
          change zB P 328 63 [(2, ((a0 : Nat) : Int)), (0, a1), (0, a2), (0, q8.1)] [] q9.2 = _
          refine Eq.trans (x1 (h := 63) hT rfl rfl (by decide)) ?_
          exact x201 (h := 64) hT rfl
      · refine Eq.trans (x1 (h := 39) hT rfl rfl (by decide)) ?_
        refine Eq.trans (x0 (h := 40) hT rfl) ?_
        refine Eq.trans (x31 (r := a0) (cl := 12) (as := [(0, 3)]) (st' := []) (h := 41) hT rfl sm_309 rfl ha0) ?_
        refine xbd (fun q10 => ?_)
        rw [rv_309]
        change zB P 328 42 [(2, ((a0 : Nat) : Int)), (0, a1), (0, a2), (0, a3)] [(0, q10.1)] q10.2 = _
        refine Eq.trans (x18 (h := 42) hT rfl) ?_
        refine Eq.trans (x2 (ls' := [(2, ((a0 : Nat) : Int)), (0, a1), (0, a2), (0, q10.1)]) (h := 58) hT rfl (Nat.le_of_ble_eq_true rfl) rfl) ?_
        refine Eq.trans (x1 (h := 59) hT rfl rfl (by decide)) ?_
        refine Eq.trans (x0 (h := 60) hT rfl) ?_
        refine Eq.trans (x0 (h := 61) hT rfl) ?_
        refine Eq.trans (x31 (r := a0) (cl := 12) (as := [(0, 3), (0, 0)]) (st' := []) (h := 62) hT rfl sm_50 rfl ha0) ?_
        refine xbd (fun q11 => ?_)
        rw [rv_50]
        change zB P 328 63 [(2, ((a0 : Nat) : Int)), (0, a1), (0, a2), (0, q10.1)] [] q11.2 = _
        refine Eq.trans (x1 (h := 63) hT rfl rfl (by decide)) ?_
        exact x201 (h := 64) hT rfl
    · refine Eq.trans (x1 (h := 32) hT rfl rfl (by decide)) ?_
      refine Eq.trans (x0 (h := 33) hT rfl) ?_
      refine Eq.trans (x31 (r := a0) (cl := 12) (as := [(0, 2)]) (st' := []) (h := 34) hT rfl sm_309 rfl ha0) ?_
      refine xbd (fun q12 => ?_)
      rw [rv_309]
      change zB P 328 35 [(2, ((a0 : Nat) : Int)), (0, a1), (0, a2), (0, a3)] [(0, q12.1)] q12.2 = _
      refine Eq.trans (x18 (h := 35) hT rfl) ?_
      refine Eq.trans (x2 (ls' := [(2, ((a0 : Nat) : Int)), (0, a1), (0, a2), (0, q12.1)]) (h := 58) hT rfl (Nat.le_of_ble_eq_true rfl) rfl) ?_
      refine Eq.trans (x1 (h := 59) hT rfl rfl (by decide)) ?_
      refine Eq.trans (x0 (h := 60) hT rfl) ?_
      refine Eq.trans (x0 (h := 61) hT rfl) ?_
      refine Eq.trans (x31 (r := a0) (cl := 12) (as := [(0, 3), (0, 0)]) (st' := []) (h := 62) hT rfl sm_50 rfl ha0) ?_
      refine xbd (fun q13 => ?_)
      rw [rv_50]
      change zB P 328 63 [(2, ((a0 : Nat) : Int)), (0, a1), (0, a2), (0, q12.1)] [] q13.2 = _
      refine Eq.trans (x1 (h := 63) hT rfl rfl (by decide)) ?_
      exact x201 (h := 64) hT rfl
  · refine Eq.trans (x1 (h := 23) hT rfl rfl (by decide)) ?_
    refine Eq.trans (x1 (h := 24) hT rfl rfl (by decide)) ?_
    refine Eq.trans (x0 (h := 25) hT rfl) ?_
    refine Eq.trans (x6c (h := 26) hT rfl (by decide)) ?_
    refine Eq.trans (x31 (r := a0) (cl := 12) (as := [(0, (zdiv 1 a3 2))]) (st' := []) (h := 27) hT rfl sm_292 rfl ha0) ?_
    refine xbd (fun q14 => ?_)
    rw [rv_292]
    change zB P 328 28 [(2, ((a0 : Nat) : Int)), (0, a1), (0, a2), (0, a3)] [] q14.2 = _
    refine Eq.trans (x4 (ls' := [(2, ((a0 : Nat) : Int)), (0, a1), (0, a2), (0, (a3 + 1))]) (h := 28) hT rfl rfl rfl) ?_
    refine Eq.trans (x18 (h := 29) hT rfl) ?_
    exact rfl
/-! WordLinksModel.findsSheets()V -/
set_option maxRecDepth 100000 in
theorem e_329 {P : zP} {d : zD P} {a0 : Nat} (ha0 : zkd a0 = 12) : MM P 329 [(2, ((a0 : Nat) : Int))] d = (if zin 4344 18180 then ((MM P 327 [(2, ((a0 : Nat) : Int)), (0, (((d.up a0 8 1)).m ((a0 + 1)) (zix 4344)))] ((d.up a0 8 1))).bind fun q2 => zB P 329 12 [(2, ((a0 : Nat) : Int)), (0, q2.1), (0, 0), (3, 0)] [] q2.2) else none) := by
  have hT := cT_329
  refine Eq.trans (MM_def sm_329 (Nat.le_of_ble_eq_true rfl)) ?_
  change zB P 329 0 [(2, ((a0 : Nat) : Int)), (3, 0), (3, 0), (3, 0)] [] d = _
  refine Eq.trans (x1 (h := 0) hT rfl rfl (by decide)) ?_
  refine Eq.trans (x0 (h := 1) hT rfl) ?_
  refine Eq.trans (x22b (r := a0) (cl := 12) (h := 2) hT rfl ha0 (by decide) rfl) ?_
  refine Eq.trans (if_pos (by decide)) ?_
  refine Eq.trans (x1 (h := 3) hT rfl rfl (by decide)) ?_
  refine Eq.trans (x1 (h := 4) hT rfl rfl (by decide)) ?_
  refine Eq.trans (x21r (r := a0) (cl := 12) (o := 1) (h := 5) hT rfl ha0 (by decide) rfl) ?_
  refine Eq.trans (x0 (h := 6) hT rfl) ?_
  refine Eq.trans (x24 (r := (a0 + 1)) (n := 18180) (h := 7) hT rfl (Or.inl (kd_12_0 ha0)) (ln_12_0 ha0)) ?_
  refine xig (fun hz1 => ?_)
  refine Eq.trans (x31 (r := a0) (cl := 12) (as := [(0, (((d.up a0 8 1)).m ((a0 + 1)) (zix 4344)))]) (st' := []) (h := 8) hT rfl sm_327 rfl ha0) ?_
  refine xbd (fun q2 => ?_)
  rw [rv_327]
  change zB P 329 9 [(2, ((a0 : Nat) : Int)), (3, 0), (3, 0), (3, 0)] [(0, q2.1)] q2.2 = _
  refine Eq.trans (x2 (ls' := [(2, ((a0 : Nat) : Int)), (0, q2.1), (3, 0), (3, 0)]) (h := 9) hT rfl (Nat.le_of_ble_eq_true rfl) rfl) ?_
  refine Eq.trans (x0 (h := 10) hT rfl) ?_
  refine Eq.trans (x2 (ls' := [(2, ((a0 : Nat) : Int)), (0, q2.1), (0, 0), (3, 0)]) (h := 11) hT rfl (Nat.le_of_ble_eq_true rfl) rfl) ?_
  exact rfl
set_option maxRecDepth 100000 in
theorem q_329_12 {P : zP} {d : zD P} {a0 : Nat} {a1 : Int} {a2 : Int} {g3 : zV} (ha0 : zkd a0 = 12) : zB P 329 12 [(2, ((a0 : Nat) : Int)), (0, a1), (0, a2), g3] [] d = (if wr 16 ≤ wr a2 then some (0, (d.up a0 8 0)) else (if wr a1 = 0 then some (0, (d.up a0 8 0)) else (if zin ((zdiv 0 a2 8)) 2 then (if wr ((zdiv 1 a2 8)) < wr ((d.m ((a0 + 8)) (zix ((zdiv 0 a2 8))))) then (if zin a2 16 then (if zin a2 16 then (if zin a2 16 then zB P 329 43 [(2, ((a0 : Nat) : Int)), (0, a1), (0, a2), (0, (((((d.up ((a0 + 7)) (zix a2) 1)).up ((a0 + 6)) (zix a2) 0)).m ((a0 + 4)) (zix a2)))] [] ((((d.up ((a0 + 7)) (zix a2) 1)).up ((a0 + 6)) (zix a2) 0)) else none) else none) else none) else zB P 329 12 [(2, ((a0 : Nat) : Int)), (0, a1), (0, (a2 + 1)), g3] [] d) else none))) := by
  have hT := cT_329
  refine Eq.trans (x1 (h := 12) hT rfl rfl (by decide)) ?_
  refine Eq.trans (x0 (h := 13) hT rfl) ?_
  refine Eq.trans (x17_3 (h := 14) hT rfl) ?_
  refine xit (fun _ => ?_) (fun _ => ?_)
  · refine Eq.trans (x1 (h := 82) hT rfl rfl (by decide)) ?_
    refine Eq.trans (x0 (h := 83) hT rfl) ?_
    refine Eq.trans (x22b (r := a0) (cl := 12) (h := 84) hT rfl ha0 (by decide) rfl) ?_
    refine Eq.trans (if_pos (by decide)) ?_
    exact x20 (h := 85) hT rfl
  · refine Eq.trans (x1 (h := 15) hT rfl rfl (by decide)) ?_
    refine Eq.trans (x16_0 (h := 16) hT rfl) ?_
    refine xit (fun _ => ?_) (fun _ => ?_)
    · refine Eq.trans (x1 (h := 82) hT rfl rfl (by decide)) ?_
      refine Eq.trans (x0 (h := 83) hT rfl) ?_
      refine Eq.trans (x22b (r := a0) (cl := 12) (h := 84) hT rfl ha0 (by decide) rfl) ?_
      refine Eq.trans (if_pos (by decide)) ?_
      exact x20 (h := 85) hT rfl
    · refine Eq.trans (x1 (h := 17) hT rfl rfl (by decide)) ?_
      refine Eq.trans (x0 (h := 18) hT rfl) ?_
      refine Eq.trans (x6c (h := 19) hT rfl (by decide)) ?_
      refine Eq.trans (x1 (h := 20) hT rfl rfl (by decide)) ?_
      refine Eq.trans (x21r (r := a0) (cl := 12) (o := 8) (h := 21) hT rfl ha0 (by decide) rfl) ?_
      refine Eq.trans (x1 (h := 22) hT rfl rfl (by decide)) ?_
      refine Eq.trans (x0 (h := 23) hT rfl) ?_
      refine Eq.trans (x6c (h := 24) hT rfl (by decide)) ?_
      refine Eq.trans (x24 (r := (a0 + 8)) (n := 2) (h := 25) hT rfl (Or.inl (kd_12_15 ha0)) (ln_12_15 ha0)) ?_
      refine xig (fun hz3 => ?_)
      refine Eq.trans (x17_2 (h := 26) hT rfl) ?_
      refine xit (fun _ => ?_) (fun _ => ?_)
      · refine Eq.trans (x1 (h := 28) hT rfl rfl (by decide)) ?_
        refine Eq.trans (x21r (r := a0) (cl := 12) (o := 7) (h := 29) hT rfl ha0 (by decide) rfl) ?_
        refine Eq.trans (x1 (h := 30) hT rfl rfl (by decide)) ?_
        refine Eq.trans (x0 (h := 31) hT rfl) ?_
        refine Eq.trans (x25a (r := (a0 + 7)) (n := 16) (h := 32) hT rfl (kd_12_14 ha0) (ln_12_14 ha0) (by decide) rfl) ?_
        refine xig (fun hz4 => ?_)
        refine Eq.trans (x1 (h := 33) hT rfl rfl (by decide)) ?_
        refine Eq.trans (x21r (r := a0) (cl := 12) (o := 6) (h := 34) hT rfl ha0 (by decide) rfl) ?_
        refine Eq.trans (x1 (h := 35) hT rfl rfl (by decide)) ?_
        refine Eq.trans (x0 (h := 36) hT rfl) ?_
        refine Eq.trans (x25a (r := (a0 + 6)) (n := 16) (h := 37) hT rfl (kd_12_13 ha0) (ln_12_13 ha0) (by decide) rfl) ?_
        refine xig (fun hz5 => ?_)
        refine Eq.trans (x1 (h := 38) hT rfl rfl (by decide)) ?_
        refine Eq.trans (x21r (r := a0) (cl := 12) (o := 4) (h := 39) hT rfl ha0 (by decide) rfl) ?_
        refine Eq.trans (x1 (h := 40) hT rfl rfl (by decide)) ?_
        refine Eq.trans (x24 (r := (a0 + 4)) (n := 16) (h := 41) hT rfl (Or.inl (kd_12_11 ha0)) (ln_12_11 ha0)) ?_
        refine xig (fun hz6 => ?_)
        refine Eq.trans (x2 (ls' := [(2, ((a0 : Nat) : Int)), (0, a1), (0, a2), (0, (((((d.up ((a0 + 7)) (zix a2) 1)).up ((a0 + 6)) (zix a2) 0)).m ((a0 + 4)) (zix a2)))]) (h := 42) hT rfl (Nat.le_of_ble_eq_true rfl) rfl) ?_
        exact rfl
      · refine Eq.trans (x18 (h := 27) hT rfl) ?_
        refine Eq.trans (x4 (ls' := [(2, ((a0 : Nat) : Int)), (0, a1), (0, (a2 + 1)), g3]) (h := 80) hT rfl rfl rfl) ?_
        refine Eq.trans (x18 (h := 81) hT rfl) ?_
        exact rfl
set_option maxRecDepth 100000 in
theorem q_329_43 {P : zP} {d : zD P} {a0 : Nat} {a1 : Int} {a2 : Int} {a3 : Int} (ha0 : zkd a0 = 12) : zB P 329 43 [(2, ((a0 : Nat) : Int)), (0, a1), (0, a2), (0, a3)] [] d = (if zin a2 16 then (if wr ((d.m ((a0 + 5)) (zix a2))) ≤ wr a3 then zB P 329 12 [(2, ((a0 : Nat) : Int)), (0, a1), (0, (a2 + 1)), (0, a3)] [] d else (if zin ((4345 + a3)) 18180 then (if wr ((d.m ((a0 + 1)) (zix ((4345 + a3))))) ≠ wr 32 then (if zin a2 16 then (if zin a2 16 then zB P 329 43 [(2, ((a0 : Nat) : Int)), (0, a1), (0, a2), (0, (a3 + 1))] [] ((d.up ((a0 + 6)) (zix a2) (((d.m ((a0 + 6)) (zix a2)) + 1)))) else none) else none) else (if zin a2 16 then (if zin a2 16 then zB P 329 43 [(2, ((a0 : Nat) : Int)), (0, a1), (0, a2), (0, (a3 + 1))] [] ((d.up ((a0 + 7)) (zix a2) (((d.m ((a0 + 7)) (zix a2)) + 1)))) else none) else none)) else none)) else none) := by
  have hT := cT_329
  refine Eq.trans (x1 (h := 43) hT rfl rfl (by decide)) ?_
  refine Eq.trans (x1 (h := 44) hT rfl rfl (by decide)) ?_
  refine Eq.trans (x21r (r := a0) (cl := 12) (o := 5) (h := 45) hT rfl ha0 (by decide) rfl) ?_
  refine Eq.trans (x1 (h := 46) hT rfl rfl (by decide)) ?_
  refine Eq.trans (x24 (r := (a0 + 5)) (n := 16) (h := 47) hT rfl (Or.inl (kd_12_12 ha0)) (ln_12_12 ha0)) ?_
  refine xig (fun hz7 => ?_)
  refine Eq.trans (x17_3 (h := 48) hT rfl) ?_
  refine xit (fun _ => ?_) (fun _ => ?_)
  · refine Eq.trans (x4 (ls' := [(2, ((a0 : Nat) : Int)), (0, a1), (0, (a2 + 1)), (0, a3)]) (h := 80) hT rfl rfl rfl) ?_
    refine Eq.trans (x18 (h := 81) hT rfl) ?_
    exact rfl
  · refine Eq.trans (x1 (h := 49) hT rfl rfl (by decide)) ?_
    refine Eq.trans (x21r (r := a0) (cl := 12) (o := 1) (h := 50) hT rfl ha0 (by decide) rfl) ?_
    refine Eq.trans (x0 (h := 51) hT rfl) ?_
    refine Eq.trans (x1 (h := 52) hT rfl rfl (by decide)) ?_
    refine Eq.trans (x5_0 (h := 53) hT rfl) ?_
    refine Eq.trans (x24 (r := (a0 + 1)) (n := 18180) (h := 54) hT rfl (Or.inl (kd_12_0 ha0)) (ln_12_0 ha0)) ?_
    refine xig (fun hz8 => ?_)
    refine Eq.trans (x0 (h := 55) hT rfl) ?_
    refine Eq.trans (x17_1 (h := 56) hT rfl) ?_
    refine xit (fun _ => ?_) (fun _ => ?_)
    · refine Eq.trans (x1 (h := 68) hT rfl rfl (by decide)) ?_
      refine Eq.trans (x21r (r := a0) (cl := 12) (o := 6) (h := 69) hT rfl ha0 (by decide) rfl) ?_
      refine Eq.trans (x1 (h := 70) hT rfl rfl (by decide)) ?_
      refine Eq.trans (x1 (h := 71) hT rfl rfl (by decide)) ?_
      refine Eq.trans (x21r (r := a0) (cl := 12) (o := 6) (h := 72) hT rfl ha0 (by decide) rfl) ?_
      refine Eq.trans (x1 (h := 73) hT rfl rfl (by decide)) ?_
      refine Eq.trans (x24 (r := (a0 + 6)) (n := 16) (h := 74) hT rfl (Or.inl (kd_12_13 ha0)) (ln_12_13 ha0)) ?_
      refine xig (fun hz9 => ?_)
      refine Eq.trans (x0 (h := 75) hT rfl) ?_
      refine Eq.trans (x5_0 (h := 76) hT rfl) ?_
      refine Eq.trans (x25a (r := (a0 + 6)) (n := 16) (h := 77) hT rfl (kd_12_13 ha0) (ln_12_13 ha0) (by decide) rfl) ?_
      refine xig (fun hz10 => ?_)
      refine Eq.trans (x4 (ls' := [(2, ((a0 : Nat) : Int)), (0, a1), (0, a2), (0, (a3 + 1))]) (h := 78) hT rfl rfl rfl) ?_
      refine Eq.trans (x18 (h := 79) hT rfl) ?_
      exact rfl
    · refine Eq.trans (x1 (h := 57) hT rfl rfl (by decide)) ?_
      refine Eq.trans (x21r (r := a0) (cl := 12) (o := 7) (h := 58) hT rfl ha0 (by decide) rfl) ?_
      refine Eq.trans (x1 (h := 59) hT rfl rfl (by decide)) ?_
      refine Eq.trans (x1 (h := 60) hT rfl rfl (by decide)) ?_
      refine Eq.trans (x21r (r := a0) (cl := 12) (o := 7) (h := 61) hT rfl ha0 (by decide) rfl) ?_
      refine Eq.trans (x1 (h := 62) hT rfl rfl (by decide)) ?_
      refine Eq.trans (x24 (r := (a0 + 7)) (n := 16) (h := 63) hT rfl (Or.inl (kd_12_14 ha0)) (ln_12_14 ha0)) ?_
      refine xig (fun hz11 => ?_)
      refine Eq.trans (x0 (h := 64) hT rfl) ?_
      refine Eq.trans (x5_0 (h := 65) hT rfl) ?_
      refine Eq.trans (x25a (r := (a0 + 7)) (n := 16) (h := 66) hT rfl (kd_12_14 ha0) (ln_12_14 ha0) (by decide) rfl) ?_
      refine xig (fun hz12 => ?_)
      refine Eq.trans (x18 (h := 67) hT rfl) ?_
      refine Eq.trans (x4 (ls' := [(2, ((a0 : Nat) : Int)), (0, a1), (0, a2), (0, (a3 + 1))]) (h := 78) hT rfl rfl rfl) ?_
      refine Eq.trans (x18 (h := 79) hT rfl) ?_
      exact rfl
/-! WordLinksModel.sheets(I)I -/
set_option maxRecDepth 100000 in
theorem e_330 {P : zP} {d : zD P} {a0 : Nat} {a1 : Int} (ha0 : zkd a0 = 12) : MM P 330 [(2, ((a0 : Nat) : Int)), (0, a1)] d = ((MM P 55 [(0, a1), (0, 1), (0, 200)] d).bind fun q1 => (if wr q1.1 = 0 then some ((-1), q1.2) else (if wr a1 ≤ wr ((q1.2.m a0 3)) then ((MM P 327 [(2, ((a0 : Nat) : Int)), (0, a1)] ((q1.2.up a0 3 0))).bind fun q2 => (if wr q2.1 ≠ 0 then (if zin 4344 18180 then zB P 330 28 [(2, ((a0 : Nat) : Int)), (0, a1), (0, 0)] [] ((q2.2.up ((a0 + 1)) (zix 4344) a1)) else none) else some ((q2.2.m a0 6), q2.2))) else some ((-1), q1.2)))) := by
  have hT := cT_330
  refine Eq.trans (MM_def sm_330 (Nat.le_of_ble_eq_true rfl)) ?_
  change zB P 330 0 [(2, ((a0 : Nat) : Int)), (0, a1), (3, 0)] [] d = _
  refine Eq.trans (x1 (h := 0) hT rfl rfl (by decide)) ?_
  refine Eq.trans (x0 (h := 1) hT rfl) ?_
  refine Eq.trans (x0 (h := 2) hT rfl) ?_
  refine Eq.trans (x34 (as := [(0, a1), (0, 1), (0, 200)]) (st' := []) (h := 3) hT rfl sm_55 rfl) ?_
  refine xbd (fun q1 => ?_)
  rw [rv_55]
  change zB P 330 4 [(2, ((a0 : Nat) : Int)), (0, a1), (3, 0)] [(0, q1.1)] q1.2 = _
  refine Eq.trans (x16_0 (h := 4) hT rfl) ?_
  refine xit (fun _ => ?_) (fun _ => ?_)
  · refine Eq.trans (x0 (h := 9) hT rfl) ?_
    exact x201 (h := 10) hT rfl
  · refine Eq.trans (x1 (h := 5) hT rfl rfl (by decide)) ?_
    refine Eq.trans (x1 (h := 6) hT rfl rfl (by decide)) ?_
    refine Eq.trans (x21 (r := a0) (cl := 12) (h := 7) hT rfl ha0) ?_
    refine Eq.trans (x17_5 (h := 8) hT rfl) ?_
    refine xit (fun _ => ?_) (fun _ => ?_)
    · refine Eq.trans (x1 (h := 11) hT rfl rfl (by decide)) ?_
      refine Eq.trans (x0 (h := 12) hT rfl) ?_
      refine Eq.trans (x22 (r := a0) (cl := 12) (h := 13) hT rfl ha0 (by decide) rfl (by decide)) ?_
      refine Eq.trans (x1 (h := 14) hT rfl rfl (by decide)) ?_
      refine Eq.trans (x1 (h := 15) hT rfl rfl (by decide)) ?_
      refine Eq.trans (x31 (r := a0) (cl := 12) (as := [(0, a1)]) (st' := []) (h := 16) hT rfl sm_327 rfl ha0) ?_
      refine xbd (fun q2 => ?_)
      rw [rv_327]
      change zB P 330 17 [(2, ((a0 : Nat) : Int)), (0, a1), (3, 0)] [(0, q2.1)] q2.2 = _
      refine Eq.trans (x16_1 (h := 17) hT rfl) ?_
      refine xit (fun _ => ?_) (fun _ => ?_)
      · refine Eq.trans (x1 (h := 21) hT rfl rfl (by decide)) ?_
        refine Eq.trans (x21r (r := a0) (cl := 12) (o := 1) (h := 22) hT rfl ha0 (by decide) rfl) ?_
        refine Eq.trans (x0 (h := 23) hT rfl) ?_
        refine Eq.trans (x1 (h := 24) hT rfl rfl (by decide)) ?_
        refine Eq.trans (x25a (r := (a0 + 1)) (n := 18180) (h := 25) hT rfl (kd_12_0 ha0) (ln_12_0 ha0) (by decide) rfl) ?_
        refine xig (fun hz3 => ?_)
        refine Eq.trans (x0 (h := 26) hT rfl) ?_
        refine Eq.trans (x2 (ls' := [(2, ((a0 : Nat) : Int)), (0, a1), (0, 0)]) (h := 27) hT rfl (Nat.le_of_ble_eq_true rfl) rfl) ?_
        exact rfl
      · refine Eq.trans (x1 (h := 18) hT rfl rfl (by decide)) ?_
        refine Eq.trans (x21 (r := a0) (cl := 12) (h := 19) hT rfl ha0) ?_
        exact x201 (h := 20) hT rfl
    · refine Eq.trans (x0 (h := 9) hT rfl) ?_
      exact x201 (h := 10) hT rfl
set_option maxRecDepth 100000 in
theorem q_330_28 {P : zP} {d : zD P} {a0 : Nat} {a1 : Int} {a2 : Int} (ha0 : zkd a0 = 12) : zB P 330 28 [(2, ((a0 : Nat) : Int)), (0, a1), (0, a2)] [] d = (if wr a1 ≤ wr a2 then (if zin 0 2 then (if zin 1 2 then some (((d.m ((a0 + 8)) (zix 0)) + (d.m ((a0 + 8)) (zix 1))), d) else none) else none) else (if zin a2 240 then (if zin ((4345 + a2)) 18180 then zB P 330 28 [(2, ((a0 : Nat) : Int)), (0, a1), (0, (a2 + 1))] [] ((d.up ((a0 + 1)) (zix ((4345 + a2))) ((zbin 3 ((d.m ((a0 + 2)) (zix a2))) 255)))) else none) else none)) := by
  have hT := cT_330
  refine Eq.trans (x1 (h := 28) hT rfl rfl (by decide)) ?_
  refine Eq.trans (x1 (h := 29) hT rfl rfl (by decide)) ?_
  refine Eq.trans (x17_3 (h := 30) hT rfl) ?_
  refine xit (fun _ => ?_) (fun _ => ?_)
  · refine Eq.trans (x1 (h := 45) hT rfl rfl (by decide)) ?_
    refine Eq.trans (x21r (r := a0) (cl := 12) (o := 8) (h := 46) hT rfl ha0 (by decide) rfl) ?_
    refine Eq.trans (x0 (h := 47) hT rfl) ?_
    refine Eq.trans (x24 (r := (a0 + 8)) (n := 2) (h := 48) hT rfl (Or.inl (kd_12_15 ha0)) (ln_12_15 ha0)) ?_
    refine xig (fun hz4 => ?_)
    refine Eq.trans (x1 (h := 49) hT rfl rfl (by decide)) ?_
    refine Eq.trans (x21r (r := a0) (cl := 12) (o := 8) (h := 50) hT rfl ha0 (by decide) rfl) ?_
    refine Eq.trans (x0 (h := 51) hT rfl) ?_
    refine Eq.trans (x24 (r := (a0 + 8)) (n := 2) (h := 52) hT rfl (Or.inl (kd_12_15 ha0)) (ln_12_15 ha0)) ?_
    refine xig (fun hz5 => ?_)
    refine Eq.trans (x5_0 (h := 53) hT rfl) ?_
    exact x201 (h := 54) hT rfl
  · refine Eq.trans (x1 (h := 31) hT rfl rfl (by decide)) ?_
    refine Eq.trans (x21r (r := a0) (cl := 12) (o := 1) (h := 32) hT rfl ha0 (by decide) rfl) ?_
    refine Eq.trans (x0 (h := 33) hT rfl) ?_
    refine Eq.trans (x1 (h := 34) hT rfl rfl (by decide)) ?_
    refine Eq.trans (x5_0 (h := 35) hT rfl) ?_
    refine Eq.trans (x1 (h := 36) hT rfl rfl (by decide)) ?_
    refine Eq.trans (x21r (r := a0) (cl := 12) (o := 2) (h := 37) hT rfl ha0 (by decide) rfl) ?_
    refine Eq.trans (x1 (h := 38) hT rfl rfl (by decide)) ?_
    refine Eq.trans (x24 (r := (a0 + 2)) (n := 240) (h := 39) hT rfl (Or.inl (kd_12_2 ha0)) (ln_12_2 ha0)) ?_
    refine xig (fun hz6 => ?_)
    refine Eq.trans (x0 (h := 40) hT rfl) ?_
    refine Eq.trans (x5n (h := 41) hT rfl) ?_
    refine Eq.trans (x25a (r := (a0 + 1)) (n := 18180) (h := 42) hT rfl (kd_12_0 ha0) (ln_12_0 ha0) (by decide) rfl) ?_
    refine xig (fun hz7 => ?_)
    refine Eq.trans (x4 (ls' := [(2, ((a0 : Nat) : Int)), (0, a1), (0, (a2 + 1))]) (h := 43) hT rfl rfl rfl) ?_
    refine Eq.trans (x18 (h := 44) hT rfl) ?_
    exact rfl
/-! WordLinksModel.matches()V -/
set_option maxRecDepth 100000 in
theorem e_331 {P : zP} {d : zD P} {a0 : Nat} (ha0 : zkd a0 = 12) : MM P 331 [(2, ((a0 : Nat) : Int))] d = ((MM P 329 [(2, ((a0 : Nat) : Int))] d).bind fun q1 => (if zin 0 2 then zB P 331 7 [(2, ((a0 : Nat) : Int)), (0, (q1.2.m ((a0 + 8)) (zix 0))), (3, 0), (3, 0), (3, 0), (3, 0), (3, 0), (3, 0), (3, 0)] [] q1.2 else none)) := by
  have hT := cT_331
  refine Eq.trans (MM_def sm_331 (Nat.le_of_ble_eq_true rfl)) ?_
  change zB P 331 0 [(2, ((a0 : Nat) : Int)), (3, 0), (3, 0), (3, 0), (3, 0), (3, 0), (3, 0), (3, 0), (3, 0)] [] d = _
  refine Eq.trans (x1 (h := 0) hT rfl rfl (by decide)) ?_
  refine Eq.trans (x31 (r := a0) (cl := 12) (as := []) (st' := []) (h := 1) hT rfl sm_329 rfl ha0) ?_
  refine xbd (fun q1 => ?_)
  rw [rv_329]
  change zB P 331 2 [(2, ((a0 : Nat) : Int)), (3, 0), (3, 0), (3, 0), (3, 0), (3, 0), (3, 0), (3, 0), (3, 0)] [] q1.2 = _
  refine Eq.trans (x1 (h := 2) hT rfl rfl (by decide)) ?_
  refine Eq.trans (x21r (r := a0) (cl := 12) (o := 8) (h := 3) hT rfl ha0 (by decide) rfl) ?_
  refine Eq.trans (x0 (h := 4) hT rfl) ?_
  refine Eq.trans (x24 (r := (a0 + 8)) (n := 2) (h := 5) hT rfl (Or.inl (kd_12_15 ha0)) (ln_12_15 ha0)) ?_
  refine xig (fun hz2 => ?_)
  refine Eq.trans (x2 (ls' := [(2, ((a0 : Nat) : Int)), (0, (q1.2.m ((a0 + 8)) (zix 0))), (3, 0), (3, 0), (3, 0), (3, 0), (3, 0), (3, 0), (3, 0)]) (h := 6) hT rfl (Nat.le_of_ble_eq_true rfl) rfl) ?_
  exact rfl
set_option maxRecDepth 100000 in
theorem q_331_7 {P : zP} {d : zD P} {a0 : Nat} {a1 : Int} {g2 : zV} {g3 : zV} {g4 : zV} {g5 : zV} {g6 : zV} {g7 : zV} {g8 : zV} (ha0 : zkd a0 = 12) : zB P 331 7 [(2, ((a0 : Nat) : Int)), (0, a1), g2, g3, g4, g5, g6, g7, g8] [] d = (if wr a1 < 0 then some (0, d) else (if zin 1 2 then zB P 331 14 [(2, ((a0 : Nat) : Int)), (0, a1), (0, (d.m ((a0 + 8)) (zix 1))), g3, g4, g5, g6, g7, g8] [] d else none)) := by
  have hT := cT_331
  refine Eq.trans (x1 (h := 7) hT rfl rfl (by decide)) ?_
  refine Eq.trans (x16_2 (h := 8) hT rfl) ?_
  refine xit (fun _ => ?_) (fun _ => ?_)
  · exact x20 (h := 121) hT rfl
  · refine Eq.trans (x1 (h := 9) hT rfl rfl (by decide)) ?_
    refine Eq.trans (x21r (r := a0) (cl := 12) (o := 8) (h := 10) hT rfl ha0 (by decide) rfl) ?_
    refine Eq.trans (x0 (h := 11) hT rfl) ?_
    refine Eq.trans (x24 (r := (a0 + 8)) (n := 2) (h := 12) hT rfl (Or.inl (kd_12_15 ha0)) (ln_12_15 ha0)) ?_
    refine xig (fun hz3 => ?_)
    refine Eq.trans (x2 (ls' := [(2, ((a0 : Nat) : Int)), (0, a1), (0, (d.m ((a0 + 8)) (zix 1))), g3, g4, g5, g6, g7, g8]) (h := 13) hT rfl (Nat.le_of_ble_eq_true rfl) rfl) ?_
    exact rfl
set_option maxRecDepth 100000 in
theorem q_331_14 {P : zP} {d : zD P} {a0 : Nat} {a1 : Int} {a2 : Int} {g3 : zV} {g4 : zV} {g5 : zV} {g6 : zV} {g7 : zV} {g8 : zV} (ha0 : zkd a0 = 12) : zB P 331 14 [(2, ((a0 : Nat) : Int)), (0, a1), (0, a2), g3, g4, g5, g6, g7, g8] [] d = (if wr a2 < 0 then zB P 331 7 [(2, ((a0 : Nat) : Int)), (0, (a1 + (-1))), (0, a2), g3, g4, g5, g6, g7, g8] [] d else (if zin 0 2 then (if wr a1 ≠ wr ((d.m ((a0 + 8)) (zix 0))) then (if wr 0 = 0 then (if zin (((9 * a1) + a2)) 81 then zB P 331 49 [(2, ((a0 : Nat) : Int)), (0, a1), (0, a2), (0, ((9 * a1) + a2)), (0, 0), (0, 0), g6, g7, g8] [] ((d.up ((a0 + 9)) (zix (((9 * a1) + a2))) 1000000000)) else none) else (if zin (((9 * a1) + a2)) 81 then zB P 331 49 [(2, ((a0 : Nat) : Int)), (0, a1), (0, a2), (0, ((9 * a1) + a2)), (0, 0), (0, 0), g6, g7, g8] [] ((d.up ((a0 + 9)) (zix (((9 * a1) + a2))) 0)) else none)) else (if zin 1 2 then (if wr a2 ≠ wr ((d.m ((a0 + 8)) (zix 1))) then (if wr 0 = 0 then (if zin (((9 * a1) + a2)) 81 then zB P 331 49 [(2, ((a0 : Nat) : Int)), (0, a1), (0, a2), (0, ((9 * a1) + a2)), (0, 0), (0, 0), g6, g7, g8] [] ((d.up ((a0 + 9)) (zix (((9 * a1) + a2))) 1000000000)) else none) else (if zin (((9 * a1) + a2)) 81 then zB P 331 49 [(2, ((a0 : Nat) : Int)), (0, a1), (0, a2), (0, ((9 * a1) + a2)), (0, 0), (0, 0), g6, g7, g8] [] ((d.up ((a0 + 9)) (zix (((9 * a1) + a2))) 0)) else none)) else (if wr 1 = 0 then (if zin (((9 * a1) + a2)) 81 then zB P 331 49 [(2, ((a0 : Nat) : Int)), (0, a1), (0, a2), (0, ((9 * a1) + a2)), (0, 1), (0, 0), g6, g7, g8] [] ((d.up ((a0 + 9)) (zix (((9 * a1) + a2))) 1000000000)) else none) else (if zin (((9 * a1) + a2)) 81 then zB P 331 49 [(2, ((a0 : Nat) : Int)), (0, a1), (0, a2), (0, ((9 * a1) + a2)), (0, 1), (0, 0), g6, g7, g8] [] ((d.up ((a0 + 9)) (zix (((9 * a1) + a2))) 0)) else none))) else none)) else none)) := by
  have hT := cT_331
  refine Eq.trans (x1 (h := 14) hT rfl rfl (by decide)) ?_
  refine Eq.trans (x16_2 (h := 15) hT rfl) ?_
  refine xit (fun _ => ?_) (fun _ => ?_)
  · refine Eq.trans (x4 (ls' := [(2, ((a0 : Nat) : Int)), (0, (a1 + (-1))), (0, a2), g3, g4, g5, g6, g7, g8]) (h := 119) hT rfl rfl rfl) ?_
    refine Eq.trans (x18 (h := 120) hT rfl) ?_
    exact rfl
  · refine Eq.trans (x0 (h := 16) hT rfl) ?_
    refine Eq.trans (x1 (h := 17) hT rfl rfl (by decide)) ?_
    refine Eq.trans (x5_2 (h := 18) hT rfl) ?_
    refine Eq.trans (x1 (h := 19) hT rfl rfl (by decide)) ?_
    refine Eq.trans (x5_0 (h := 20) hT rfl) ?_
    refine Eq.trans (x2 (ls' := [(2, ((a0 : Nat) : Int)), (0, a1), (0, a2), (0, ((9 * a1) + a2)), g4, g5, g6, g7, g8]) (h := 21) hT rfl (Nat.le_of_ble_eq_true rfl) rfl) ?_
    refine Eq.trans (x1 (h := 22) hT rfl rfl (by decide)) ?_
    refine Eq.trans (x1 (h := 23) hT rfl rfl (by decide)) ?_
    refine Eq.trans (x21r (r := a0) (cl := 12) (o := 8) (h := 24) hT rfl ha0 (by decide) rfl) ?_
    refine Eq.trans (x0 (h := 25) hT rfl) ?_
    refine Eq.trans (x24 (r := (a0 + 8)) (n := 2) (h := 26) hT rfl (Or.inl (kd_12_15 ha0)) (ln_12_15 ha0)) ?_
    refine xig (fun hz4 => ?_)
    refine Eq.trans (x17_1 (h := 27) hT rfl) ?_
    refine xit (fun _ => ?_) (fun _ => ?_)
    · refine Eq.trans (x0 (h := 36) hT rfl) ?_
      refine Eq.trans (x2 (ls' := [(2, ((a0 : Nat) : Int)), (0, a1), (0, a2), (0, ((9 * a1) + a2)), (0, 0), g5, g6, g7, g8]) (h := 37) hT rfl (Nat.le_of_ble_eq_true rfl) rfl) ?_
      refine Eq.trans (x1 (h := 38) hT rfl rfl (by decide)) ?_
      refine Eq.trans (x21r (r := a0) (cl := 12) (o := 9) (h := 39) hT rfl ha0 (by decide) rfl) ?_
      refine Eq.trans (x1 (h := 40) hT rfl rfl (by decide)) ?_
      refine Eq.trans (x1 (h := 41) hT rfl rfl (by decide)) ?_
      refine Eq.trans (x16_0 (h := 42) hT rfl) ?_
      refine xit (fun _ => ?_) (fun _ => ?_)
      · refine Eq.trans (x0 (h := 45) hT rfl) ?_
        refine Eq.trans (x25a (r := (a0 + 9)) (n := 81) (h := 46) hT rfl (kd_12_16 ha0) (ln_12_16 ha0) (by decide) rfl) ?_
        refine xig (fun hz5 => ?_)
        refine Eq.trans (x0 (h := 47) hT rfl) ?_
        refine Eq.trans (x2 (ls' := [(2, ((a0 : Nat) : Int)), (0, a1), (0, a2), (0, ((9 * a1) + a2)), (0, 0), (0, 0), g6, g7, g8]) (h := 48) hT rfl (Nat.le_of_ble_eq_true rfl) rfl) ?_
        exact rfl
      · refine Eq.trans (x0 (h := 43) hT rfl) ?_
        refine Eq.trans (x18 (h := 44) hT rfl) ?_
        refine Eq.trans (x25a (r := (a0 + 9)) (n := 81) (h := 46) hT rfl (kd_12_16 ha0) (ln_12_16 ha0) (by decide) rfl) ?_
        refine xig (fun hz6 => ?_)
        refine Eq.trans (x0 (h := 47) hT rfl) ?_
        refine Eq.trans (x2 (ls' := [(2, ((a0 : Nat) : Int)), (0, a1), (0, a2), (0, ((9 * a1) + a2)), (0, 0), (0, 0), g6, g7, g8]) (h := 48) hT rfl (Nat.le_of_ble_eq_true rfl) rfl) ?_
        exact rfl
    · refine Eq.trans (x1 (h := 28) hT rfl rfl (by decide)) ?_
      refine Eq.trans (x1 (h := 29) hT rfl rfl (by decide)) ?_
      refine Eq.trans (x21r (r := a0) (cl := 12) (o := 8) (h := 30) hT rfl ha0 (by decide) rfl) ?_
      refine Eq.trans (x0 (h := 31) hT rfl) ?_
      refine Eq.trans (x24 (r := (a0 + 8)) (n := 2) (h := 32) hT rfl (Or.inl (kd_12_15 ha0)) (ln_12_15 ha0)) ?_
      refine xig (fun hz7 => ?_)
      refine Eq.trans (x17_1 (h := 33) hT rfl) ?_
      refine xit (fun _ => ?_) (fun _ => ?_)
      · refine Eq.trans (x0 (h := 36) hT rfl) ?_
        refine Eq.trans (x2 (ls' := [(2, ((a0 : Nat) : Int)), (0, a1), (0, a2), (0, ((9 * a1) + a2)), (0, 0), g5, g6, g7, g8]) (h := 37) hT rfl (Nat.le_of_ble_eq_true rfl) rfl) ?_
        refine Eq.trans (x1 (h := 38) hT rfl rfl (by decide)) ?_
        refine Eq.trans (x21r (r := a0) (cl := 12) (o := 9) (h := 39) hT rfl ha0 (by decide) rfl) ?_
        refine Eq.trans (x1 (h := 40) hT rfl rfl (by decide)) ?_
        refine Eq.trans (x1 (h := 41) hT rfl rfl (by decide)) ?_
        refine Eq.trans (x16_0 (h := 42) hT rfl) ?_
        refine xit (fun _ => ?_) (fun _ => ?_)
        · refine Eq.trans (x0 (h := 45) hT rfl) ?_
          refine Eq.trans (x25a (r := (a0 + 9)) (n := 81) (h := 46) hT rfl (kd_12_16 ha0) (ln_12_16 ha0) (by decide) rfl) ?_
          refine xig (fun hz8 => ?_)
          refine Eq.trans (x0 (h := 47) hT rfl) ?_
          refine Eq.trans (x2 (ls' := [(2, ((a0 : Nat) : Int)), (0, a1), (0, a2), (0, ((9 * a1) + a2)), (0, 0), (0, 0), g6, g7, g8]) (h := 48) hT rfl (Nat.le_of_ble_eq_true rfl) rfl) ?_
          exact rfl
        · refine Eq.trans (x0 (h := 43) hT rfl) ?_
          refine Eq.trans (x18 (h := 44) hT rfl) ?_
          refine Eq.trans (x25a (r := (a0 + 9)) (n := 81) (h := 46) hT rfl (kd_12_16 ha0) (ln_12_16 ha0) (by decide) rfl) ?_
          refine xig (fun hz9 => ?_)
          refine Eq.trans (x0 (h := 47) hT rfl) ?_
          refine Eq.trans (x2 (ls' := [(2, ((a0 : Nat) : Int)), (0, a1), (0, a2), (0, ((9 * a1) + a2)), (0, 0), (0, 0), g6, g7, g8]) (h := 48) hT rfl (Nat.le_of_ble_eq_true rfl) rfl) ?_
          exact rfl
      · refine Eq.trans (x0 (h := 34) hT rfl) ?_
        refine Eq.trans (x18 (h := 35) hT rfl) ?_
        refine Eq.trans (x2 (ls' := [(2, ((a0 : Nat) : Int)), (0, a1), (0, a2), (0, ((9 * a1) + a2)), (0, 1), g5, g6, g7, g8]) (h := 37) hT rfl (Nat.le_of_ble_eq_true rfl) rfl) ?_
        refine Eq.trans (x1 (h := 38) hT rfl rfl (by decide)) ?_
        refine Eq.trans (x21r (r := a0) (cl := 12) (o := 9) (h := 39) hT rfl ha0 (by decide) rfl) ?_
        refine Eq.trans (x1 (h := 40) hT rfl rfl (by decide)) ?_
        refine Eq.trans (x1 (h := 41) hT rfl rfl (by decide)) ?_
        refine Eq.trans (x16_0 (h := 42) hT rfl) ?_
        refine xit (fun _ => ?_) (fun _ => ?_)
        · refine Eq.trans (x0 (h := 45) hT rfl) ?_
          refine Eq.trans (x25a (r := (a0 + 9)) (n := 81) (h := 46) hT rfl (kd_12_16 ha0) (ln_12_16 ha0) (by decide) rfl) ?_
          refine xig (fun hz10 => ?_)
          refine Eq.trans (x0 (h := 47) hT rfl) ?_
          refine Eq.trans (x2 (ls' := [(2, ((a0 : Nat) : Int)), (0, a1), (0, a2), (0, ((9 * a1) + a2)), (0, 1), (0, 0), g6, g7, g8]) (h := 48) hT rfl (Nat.le_of_ble_eq_true rfl) rfl) ?_
          exact rfl
        · refine Eq.trans (x0 (h := 43) hT rfl) ?_
          refine Eq.trans (x18 (h := 44) hT rfl) ?_
          refine Eq.trans (x25a (r := (a0 + 9)) (n := 81) (h := 46) hT rfl (kd_12_16 ha0) (ln_12_16 ha0) (by decide) rfl) ?_
          refine xig (fun hz11 => ?_)
          refine Eq.trans (x0 (h := 47) hT rfl) ?_
          refine Eq.trans (x2 (ls' := [(2, ((a0 : Nat) : Int)), (0, a1), (0, a2), (0, ((9 * a1) + a2)), (0, 1), (0, 0), g6, g7, g8]) (h := 48) hT rfl (Nat.le_of_ble_eq_true rfl) rfl) ?_
          exact rfl
set_option maxRecDepth 100000 in
theorem q_331_49 {P : zP} {d : zD P} {a0 : Nat} {a1 : Int} {a2 : Int} {a3 : Int} {a4 : Int} {a5 : Int} {g6 : zV} {g7 : zV} {g8 : zV} (ha0 : zkd a0 = 12) : zB P 331 49 [(2, ((a0 : Nat) : Int)), (0, a1), (0, a2), (0, a3), (0, a4), (0, a5), g6, g7, g8] [] d = (if wr 5 ≤ wr a5 then zB P 331 14 [(2, ((a0 : Nat) : Int)), (0, a1), (0, (a2 + (-1))), (0, a3), (0, a4), (0, a5), g6, g7, g8] [] d else (if wr a4 ≠ 0 then zB P 331 14 [(2, ((a0 : Nat) : Int)), (0, a1), (0, (a2 + (-1))), (0, a3), (0, a4), (0, a5), g6, g7, g8] [] d else ((MM P 76 [(0, a5), (0, 0)] d).bind fun q12 => ((MM P 76 [(0, a5), (0, 1)] q12.2).bind fun q13 => (if zin 0 2 then (if wr ((q13.2.m ((a0 + 8)) (zix 0))) < wr ((a1 + q12.1)) then zB P 331 49 [(2, ((a0 : Nat) : Int)), (0, a1), (0, a2), (0, a3), (0, a4), (0, (a5 + 1)), (0, (a1 + q12.1)), (0, (a2 + q13.1)), g8] [] q13.2 else (if zin 1 2 then (if wr ((a2 + q13.1)) ≤ wr ((q13.2.m ((a0 + 8)) (zix 1))) then ((MM P 157 [(2, ((a0 : Nat) : Int)), (0, a5), (0, a1), (0, a2)] q13.2).bind fun q16 => (if zin (((9 * (a1 + q12.1)) + (a2 + q13.1))) 81 then (if zin a3 81 then (if wr ((q16.2.m ((a0 + 9)) (zix a3))) ≤ wr ((q16.1 + (q16.2.m ((a0 + 9)) (zix (((9 * (a1 + q12.1)) + (a2 + q13.1))))))) then (if zin a3 81 then ((MM P 62 [(0, (q16.2.m ((a0 + 9)) (zix a3))), (0, (q16.1 + (q16.2.m ((a0 + 9)) (zix (((9 * (a1 + q12.1)) + (a2 + q13.1)))))))] q16.2).bind fun q20 => (if zin a3 81 then zB P 331 49 [(2, ((a0 : Nat) : Int)), (0, a1), (0, a2), (0, a3), (0, a4), (0, (a5 + 1)), (0, (a1 + q12.1)), (0, (a2 + q13.1)), (0, (q16.1 + (q16.2.m ((a0 + 9)) (zix (((9 * (a1 + q12.1)) + (a2 + q13.1)))))))] [] ((q20.2.up ((a0 + 9)) (zix a3) q20.1)) else none)) else none) else (if zin a3 81 then (if zin a3 81 then ((MM P 62 [(0, (((q16.2.up ((a0 + 10)) (zix a3) a5)).m ((a0 + 9)) (zix a3))), (0, (q16.1 + (q16.2.m ((a0 + 9)) (zix (((9 * (a1 + q12.1)) + (a2 + q13.1)))))))] ((q16.2.up ((a0 + 10)) (zix a3) a5))).bind fun q24 => (if zin a3 81 then zB P 331 49 [(2, ((a0 : Nat) : Int)), (0, a1), (0, a2), (0, a3), (0, a4), (0, (a5 + 1)), (0, (a1 + q12.1)), (0, (a2 + q13.1)), (0, (q16.1 + (q16.2.m ((a0 + 9)) (zix (((9 * (a1 + q12.1)) + (a2 + q13.1)))))))] [] ((q24.2.up ((a0 + 9)) (zix a3) q24.1)) else none)) else none) else none)) else none) else none)) else zB P 331 49 [(2, ((a0 : Nat) : Int)), (0, a1), (0, a2), (0, a3), (0, a4), (0, (a5 + 1)), (0, (a1 + q12.1)), (0, (a2 + q13.1)), g8] [] q13.2) else none)) else none))))) := by
  have hT := cT_331
  refine Eq.trans (x1 (h := 49) hT rfl rfl (by decide)) ?_
  refine Eq.trans (x0 (h := 50) hT rfl) ?_
  refine Eq.trans (x17_3 (h := 51) hT rfl) ?_
  refine xit (fun _ => ?_) (fun _ => ?_)
  · refine Eq.trans (x4 (ls' := [(2, ((a0 : Nat) : Int)), (0, a1), (0, (a2 + (-1))), (0, a3), (0, a4), (0, a5), g6, g7, g8]) (h := 117) hT rfl rfl rfl) ?_
    refine Eq.trans (x18 (h := 118) hT rfl) ?_
    exact rfl
  · refine Eq.trans (x1 (h := 52) hT rfl rfl (by decide)) ?_
    refine Eq.trans (x16_1 (h := 53) hT rfl) ?_
    refine xit (fun _ => ?_) (fun _ => ?_)
    · refine Eq.trans (x4 (ls' := [(2, ((a0 : Nat) : Int)), (0, a1), (0, (a2 + (-1))), (0, a3), (0, a4), (0, a5), g6, g7, g8]) (h := 117) hT rfl rfl rfl) ?_
      refine Eq.trans (x18 (h := 118) hT rfl) ?_
      exact rfl
    · refine Eq.trans (x1 (h := 54) hT rfl rfl (by decide)) ?_
      refine Eq.trans (x1 (h := 55) hT rfl rfl (by decide)) ?_
      refine Eq.trans (x0 (h := 56) hT rfl) ?_
      refine Eq.trans (x34 (as := [(0, a5), (0, 0)]) (st' := [(0, a1)]) (h := 57) hT rfl sm_76 rfl) ?_
      refine xbd (fun q12 => ?_)
      rw [rv_76]
      change zB P 331 58 [(2, ((a0 : Nat) : Int)), (0, a1), (0, a2), (0, a3), (0, a4), (0, a5), g6, g7, g8] [(0, q12.1), (0, a1)] q12.2 = _
      refine Eq.trans (x5_0 (h := 58) hT rfl) ?_
      refine Eq.trans (x2 (ls' := [(2, ((a0 : Nat) : Int)), (0, a1), (0, a2), (0, a3), (0, a4), (0, a5), (0, (a1 + q12.1)), g7, g8]) (h := 59) hT rfl (Nat.le_of_ble_eq_true rfl) rfl) ?_
      refine Eq.trans (x1 (h := 60) hT rfl rfl (by decide)) ?_
      refine Eq.trans (x1 (h := 61) hT rfl rfl (by decide)) ?_
      refine Eq.trans (x0 (h := 62) hT rfl) ?_
      refine Eq.trans (x34 (as := [(0, a5), (0, 1)]) (st' := [(0, a2)]) (h := 63) hT rfl sm_76 rfl) ?_
      refine xbd (fun q13 => ?_)
      rw [rv_76]
      change zB P 331 64 [(2, ((a0 : Nat) : Int)), (0, a1), (0, a2), (0, a3), (0, a4), (0, a5), (0, (a1 + q12.1)), g7, g8] [(0, q13.1), (0, a2)] q13.2 = _
      refine Eq.trans (x5_0 (h := 64) hT rfl) ?_
      refine Eq.trans (x2 (ls' := [(2, ((a0 : Nat) : Int)), (0, a1), (0, a2), (0, a3), (0, a4), (0, a5), (0, (a1 + q12.1)), (0, (a2 + q13.1)), g8]) (h := 65) hT rfl (Nat.le_of_ble_eq_true rfl) rfl) ?_
      refine Eq.trans (x1 (h := 66) hT rfl rfl (by decide)) ?_
      refine Eq.trans (x1 (h := 67) hT rfl rfl (by decide)) ?_
      refine Eq.trans (x21r (r := a0) (cl := 12) (o := 8) (h := 68) hT rfl ha0 (by decide) rfl) ?_
      refine Eq.trans (x0 (h := 69) hT rfl) ?_
      refine Eq.trans (x24 (r := (a0 + 8)) (n := 2) (h := 70) hT rfl (Or.inl (kd_12_15 ha0)) (ln_12_15 ha0)) ?_
      refine xig (fun hz14 => ?_)
      refine Eq.trans (x17_4 (h := 71) hT rfl) ?_
      refine xit (fun _ => ?_) (fun _ => ?_)
      · refine Eq.trans (x4 (ls' := [(2, ((a0 : Nat) : Int)), (0, a1), (0, a2), (0, a3), (0, a4), (0, (a5 + 1)), (0, (a1 + q12.1)), (0, (a2 + q13.1)), g8]) (h := 115) hT rfl rfl rfl) ?_
        refine Eq.trans (x18 (h := 116) hT rfl) ?_
        exact rfl
      · refine Eq.trans (x1 (h := 72) hT rfl rfl (by decide)) ?_
        refine Eq.trans (x1 (h := 73) hT rfl rfl (by decide)) ?_
        refine Eq.trans (x21r (r := a0) (cl := 12) (o := 8) (h := 74) hT rfl ha0 (by decide) rfl) ?_
        refine Eq.trans (x0 (h := 75) hT rfl) ?_
        refine Eq.trans (x24 (r := (a0 + 8)) (n := 2) (h := 76) hT rfl (Or.inl (kd_12_15 ha0)) (ln_12_15 ha0)) ?_
        refine xig (fun hz15 => ?_)
        refine Eq.trans (x17_5 (h := 77) hT rfl) ?_
        refine xit (fun _ => ?_) (fun _ => ?_)
        · refine Eq.trans (x1 (h := 79) hT rfl rfl (by decide)) ?_
          refine Eq.trans (x1 (h := 80) hT rfl rfl (by decide)) ?_
          refine Eq.trans (x1 (h := 81) hT rfl rfl (by decide)) ?_
          refine Eq.trans (x1 (h := 82) hT rfl rfl (by decide)) ?_
          refine Eq.trans (x31 (r := a0) (cl := 12) (as := [(0, a5), (0, a1), (0, a2)]) (st' := []) (h := 83) hT rfl sm_157 rfl ha0) ?_
          refine xbd (fun q16 => ?_)
          rw [rv_157]
          change zB P 331 84 [(2, ((a0 : Nat) : Int)), (0, a1), (0, a2), (0, a3), (0, a4), (0, a5), (0, (a1 + q12.1)), (0, (a2 + q13.1)), g8] [(0, q16.1)] q16.2 = _
          refine Eq.trans (x1 (h := 84) hT rfl rfl (by decide)) ?_
          refine Eq.trans (x21r (r := a0) (cl := 12) (o := 9) (h := 85) hT rfl ha0 (by decide) rfl) ?_
          refine Eq.trans (x0 (h := 86) hT rfl) ?_
          refine Eq.trans (x1 (h := 87) hT rfl rfl (by decide)) ?_
          refine Eq.trans (x5_2 (h := 88) hT rfl) ?_
          refine Eq.trans (x1 (h := 89) hT rfl rfl (by decide)) ?_
          refine Eq.trans (x5_0 (h := 90) hT rfl) ?_
          refine Eq.trans (x24 (r := (a0 + 9)) (n := 81) (h := 91) hT rfl (Or.inl (kd_12_16 ha0)) (ln_12_16 ha0)) ?_
          refine xig (fun hz17 => ?_)
          refine Eq.trans (x5_0 (h := 92) hT rfl) ?_
          refine Eq.trans (x2 (ls' := [(2, ((a0 : Nat) : Int)), (0, a1), (0, a2), (0, a3), (0, a4), (0, a5), (0, (a1 + q12.1)), (0, (a2 + q13.1)), (0, (q16.1 + (q16.2.m ((a0 + 9)) (zix (((9 * (a1 + q12.1)) + (a2 + q13.1)))))))]) (h := 93) hT rfl (Nat.le_of_ble_eq_true rfl) rfl) ?_
          refine Eq.trans (x1 (h := 94) hT rfl rfl (by decide)) ?_
          refine Eq.trans (x1 (h := 95) hT rfl rfl (by decide)) ?_
          refine Eq.trans (x21r (r := a0) (cl := 12) (o := 9) (h := 96) hT rfl ha0 (by decide) rfl) ?_
          refine Eq.trans (x1 (h := 97) hT rfl rfl (by decide)) ?_
          refine Eq.trans (x24 (r := (a0 + 9)) (n := 81) (h := 98) hT rfl (Or.inl (kd_12_16 ha0)) (ln_12_16 ha0)) ?_
          refine xig (fun hz18 => ?_)
          refine Eq.trans (x17_3 (h := 99) hT rfl) ?_
          refine xit (fun _ => ?_) (fun _ => ?_)
          · refine Eq.trans (x1 (h := 105) hT rfl rfl (by decide)) ?_
            refine Eq.trans (x21r (r := a0) (cl := 12) (o := 9) (h := 106) hT rfl ha0 (by decide) rfl) ?_
            refine Eq.trans (x1 (h := 107) hT rfl rfl (by decide)) ?_
            refine Eq.trans (x1 (h := 108) hT rfl rfl (by decide)) ?_
            refine Eq.trans (x21r (r := a0) (cl := 12) (o := 9) (h := 109) hT rfl ha0 (by decide) rfl) ?_
            refine Eq.trans (x1 (h := 110) hT rfl rfl (by decide)) ?_
            refine Eq.trans (x24 (r := (a0 + 9)) (n := 81) (h := 111) hT rfl (Or.inl (kd_12_16 ha0)) (ln_12_16 ha0)) ?_
            refine xig (fun hz19 => ?_)
            refine Eq.trans (x1 (h := 112) hT rfl rfl (by decide)) ?_
            refine Eq.trans (x34 (as := [(0, (q16.2.m ((a0 + 9)) (zix a3))), (0, (q16.1 + (q16.2.m ((a0 + 9)) (zix (((9 * (a1 + q12.1)) + (a2 + q13.1)))))))]) (st' := [(0, a3), (2, (((a0 + 9) : Nat) : Int))]) (h := 113) hT rfl sm_62 rfl) ?_
            refine xbd (fun q20 => ?_)
            rw [rv_62]
            change zB P 331 114 [(2, ((a0 : Nat) : Int)), (0, a1), (0, a2), (0, a3), (0, a4), (0, a5), (0, (a1 + q12.1)), (0, (a2 + q13.1)), (0, (q16.1 + (q16.2.m ((a0 + 9)) (zix (((9 * (a1 + q12.1)) + (a2 + q13.1)))))))] [(0, q20.1), (0, a3), (2, (((a0 + 9) : Nat) : Int))] q20.2 = _
            refine Eq.trans (x25a (r := (a0 + 9)) (n := 81) (h := 114) hT rfl (kd_12_16 ha0) (ln_12_16 ha0) (by decide) rfl) ?_
            refine xig (fun hz21 => ?_)
            refine Eq.trans (x4 (ls' := [(2, ((a0 : Nat) : Int)), (0, a1), (0, a2), (0, a3), (0, a4), (0, (a5 + 1)), (0, (a1 + q12.1)), (0, (a2 + q13.1)), (0, (q16.1 + (q16.2.m ((a0 + 9)) (zix (((9 * (a1 + q12.1)) + (a2 + q13.1)))))))]) (h := 115) hT rfl rfl rfl) ?_
            refine Eq.trans (x18 (h := 116) hT rfl) ?_
            exact rfl
          · refine Eq.trans (x1 (h := 100) hT rfl rfl (by decide)) ?_
            refine Eq.trans (x21r (r := a0) (cl := 12) (o := 10) (h := 101) hT rfl ha0 (by decide) rfl) ?_
            refine Eq.trans (x1 (h := 102) hT rfl rfl (by decide)) ?_
            refine Eq.trans (x1 (h := 103) hT rfl rfl (by decide)) ?_
            refine Eq.trans (x25a (r := (a0 + 10)) (n := 81) (h := 104) hT rfl (kd_12_17 ha0) (ln_12_17 ha0) (by decide) rfl) ?_
            refine xig (fun hz22 => ?_)
            refine Eq.trans (x1 (h := 105) hT rfl rfl (by decide)) ?_
            refine Eq.trans (x21r (r := a0) (cl := 12) (o := 9) (h := 106) hT rfl ha0 (by decide) rfl) ?_
            refine Eq.trans (x1 (h := 107) hT rfl rfl (by decide)) ?_
            refine Eq.trans (x1 (h := 108) hT rfl rfl (by decide)) ?_
            refine Eq.trans (x21r (r := a0) (cl := 12) (o := 9) (h := 109) hT rfl ha0 (by decide) rfl) ?_
            refine Eq.trans (x1 (h := 110) hT rfl rfl (by decide)) ?_
            refine Eq.trans (x24 (r := (a0 + 9)) (n := 81) (h := 111) hT rfl (Or.inl (kd_12_16 ha0)) (ln_12_16 ha0)) ?_
            refine xig (fun hz23 => ?_)
            refine Eq.trans (x1 (h := 112) hT rfl rfl (by decide)) ?_
            refine Eq.trans (x34 (as := [(0, (((q16.2.up ((a0 + 10)) (zix a3) a5)).m ((a0 + 9)) (zix a3))), (0, (q16.1 + (q16.2.m ((a0 + 9)) (zix (((9 * (a1 + q12.1)) + (a2 + q13.1)))))))]) (st' := [(0, a3), (2, (((a0 + 9) : Nat) : Int))]) (h := 113) hT rfl sm_62 rfl) ?_
            refine xbd (fun q24 => ?_)
            rw [rv_62]
            change zB P 331 114 [(2, ((a0 : Nat) : Int)), (0, a1), (0, a2), (0, a3), (0, a4), (0, a5), (0, (a1 + q12.1)), (0, (a2 + q13.1)), (0, (q16.1 + (q16.2.m ((a0 + 9)) (zix (((9 * (a1 + q12.1)) + (a2 + q13.1)))))))] [(0, q24.1), (0, a3), (2, (((a0 + 9) : Nat) : Int))] q24.2 = _
            refine Eq.trans (x25a (r := (a0 + 9)) (n := 81) (h := 114) hT rfl (kd_12_16 ha0) (ln_12_16 ha0) (by decide) rfl) ?_
            refine xig (fun hz25 => ?_)
            refine Eq.trans (x4 (ls' := [(2, ((a0 : Nat) : Int)), (0, a1), (0, a2), (0, a3), (0, a4), (0, (a5 + 1)), (0, (a1 + q12.1)), (0, (a2 + q13.1)), (0, (q16.1 + (q16.2.m ((a0 + 9)) (zix (((9 * (a1 + q12.1)) + (a2 + q13.1)))))))]) (h := 115) hT rfl rfl rfl) ?_
            refine Eq.trans (x18 (h := 116) hT rfl) ?_
            exact rfl
        · refine Eq.trans (x18 (h := 78) hT rfl) ?_
          refine Eq.trans (x4 (ls' := [(2, ((a0 : Nat) : Int)), (0, a1), (0, a2), (0, a3), (0, a4), (0, (a5 + 1)), (0, (a1 + q12.1)), (0, (a2 + q13.1)), g8]) (h := 115) hT rfl rfl rfl) ?_
          refine Eq.trans (x18 (h := 116) hT rfl) ?_
          exact rfl
/-! WordLinksModel.joins()I -/
set_option maxRecDepth 100000 in
theorem e_332 {P : zP} {d : zD P} {a0 : Nat} (ha0 : zkd a0 = 12) : MM P 332 [(2, ((a0 : Nat) : Int))] d = (if zin 4344 18180 then (if wr ((d.m ((a0 + 1)) (zix 4344))) ≠ 0 then ((MM P 331 [(2, ((a0 : Nat) : Int))] d).bind fun q2 => ((MM P 313 [(2, ((a0 : Nat) : Int)), (0, 0)] q2.2).bind fun q3 => (if 0 ≤ wr q3.1 then (if zin 0 18180 then (if wr (((q3.2.m ((a0 + 1)) (zix 0)) + q3.1)) ≤ wr 24 then ((MM P 50 [(2, ((a0 : Nat) : Int)), (0, 0), (0, 2)] q3.2).bind fun q5 => ((MM P 313 [(2, ((a0 : Nat) : Int)), (0, 1)] ((((q5.2.up a0 10 1)).up a0 8 1))).bind fun q6 => (if wr ((((q6.2.up a0 8 0)).m a0 10)) ≠ 0 then ((MM P 265 [(2, ((a0 : Nat) : Int))] ((q6.2.up a0 8 0))).bind fun q7 => (if zin 0 18180 then some ((q7.2.m ((a0 + 1)) (zix 0)), q7.2) else none)) else ((MM P 50 [(2, ((a0 : Nat) : Int)), (0, 2), (0, 0)] ((q6.2.up a0 8 0))).bind fun q9 => some ((-4), q9.2))))) else some ((-3), q3.2)) else none) else some (q3.1, q3.2)))) else some ((-2), d)) else none) := by
  have hT := cT_332
  refine Eq.trans (MM_def sm_332 (Nat.le_of_ble_eq_true rfl)) ?_
  change zB P 332 0 [(2, ((a0 : Nat) : Int)), (3, 0)] [] d = _
  refine Eq.trans (x1 (h := 0) hT rfl rfl (by decide)) ?_
  refine Eq.trans (x21r (r := a0) (cl := 12) (o := 1) (h := 1) hT rfl ha0 (by decide) rfl) ?_
  refine Eq.trans (x0 (h := 2) hT rfl) ?_
  refine Eq.trans (x24 (r := (a0 + 1)) (n := 18180) (h := 3) hT rfl (Or.inl (kd_12_0 ha0)) (ln_12_0 ha0)) ?_
  refine xig (fun hz1 => ?_)
  refine Eq.trans (x16_1 (h := 4) hT rfl) ?_
  refine xit (fun _ => ?_) (fun _ => ?_)
  · refine Eq.trans (x1 (h := 7) hT rfl rfl (by decide)) ?_
    refine Eq.trans (x31 (r := a0) (cl := 12) (as := []) (st' := []) (h := 8) hT rfl sm_331 rfl ha0) ?_
    refine xbd (fun q2 => ?_)
    rw [rv_331]
    change zB P 332 9 [(2, ((a0 : Nat) : Int)), (3, 0)] [] q2.2 = _
    refine Eq.trans (x1 (h := 9) hT rfl rfl (by decide)) ?_
    refine Eq.trans (x0 (h := 10) hT rfl) ?_
    refine Eq.trans (x31 (r := a0) (cl := 12) (as := [(0, 0)]) (st' := []) (h := 11) hT rfl sm_313 rfl ha0) ?_
    refine xbd (fun q3 => ?_)
    rw [rv_313]
    change zB P 332 12 [(2, ((a0 : Nat) : Int)), (3, 0)] [(0, q3.1)] q3.2 = _
    refine Eq.trans (x2 (ls' := [(2, ((a0 : Nat) : Int)), (0, q3.1)]) (h := 12) hT rfl (Nat.le_of_ble_eq_true rfl) rfl) ?_
    refine Eq.trans (x1 (h := 13) hT rfl rfl (by decide)) ?_
    refine Eq.trans (x16_3 (h := 14) hT rfl) ?_
    refine xit (fun _ => ?_) (fun _ => ?_)
    · refine Eq.trans (x1 (h := 17) hT rfl rfl (by decide)) ?_
      refine Eq.trans (x21r (r := a0) (cl := 12) (o := 1) (h := 18) hT rfl ha0 (by decide) rfl) ?_
      refine Eq.trans (x0 (h := 19) hT rfl) ?_
      refine Eq.trans (x24 (r := (a0 + 1)) (n := 18180) (h := 20) hT rfl (Or.inl (kd_12_0 ha0)) (ln_12_0 ha0)) ?_
      refine xig (fun hz4 => ?_)
      refine Eq.trans (x1 (h := 21) hT rfl rfl (by decide)) ?_
      refine Eq.trans (x5_0 (h := 22) hT rfl) ?_
      refine Eq.trans (x0 (h := 23) hT rfl) ?_
      refine Eq.trans (x17_5 (h := 24) hT rfl) ?_
      refine xit (fun _ => ?_) (fun _ => ?_)
      · refine Eq.trans (x1 (h := 27) hT rfl rfl (by decide)) ?_
        refine Eq.trans (x0 (h := 28) hT rfl) ?_
        refine Eq.trans (x0 (h := 29) hT rfl) ?_
        refine Eq.trans (x31 (r := a0) (cl := 12) (as := [(0, 0), (0, 2)]) (st' := []) (h := 30) hT rfl sm_50 rfl ha0) ?_
        refine xbd (fun q5 => ?_)
        rw [rv_50]
        change zB P 332 31 [(2, ((a0 : Nat) : Int)), (0, q3.1)] [] q5.2 = _
        refine Eq.trans (x1 (h := 31) hT rfl rfl (by decide)) ?_
        refine Eq.trans (x0 (h := 32) hT rfl) ?_
        refine Eq.trans (x22b (r := a0) (cl := 12) (h := 33) hT rfl ha0 (by decide) rfl) ?_
        refine Eq.trans (if_pos (by decide)) ?_
        refine Eq.trans (x1 (h := 34) hT rfl rfl (by decide)) ?_
        refine Eq.trans (x0 (h := 35) hT rfl) ?_
        refine Eq.trans (x22b (r := a0) (cl := 12) (h := 36) hT rfl ha0 (by decide) rfl) ?_
        refine Eq.trans (if_pos (by decide)) ?_
        refine Eq.trans (x1 (h := 37) hT rfl rfl (by decide)) ?_
        refine Eq.trans (x0 (h := 38) hT rfl) ?_
        refine Eq.trans (x31 (r := a0) (cl := 12) (as := [(0, 1)]) (st' := []) (h := 39) hT rfl sm_313 rfl ha0) ?_
        refine xbd (fun q6 => ?_)
        rw [rv_313]
        change zB P 332 40 [(2, ((a0 : Nat) : Int)), (0, q3.1)] [(0, q6.1)] q6.2 = _
        refine Eq.trans (x2 (ls' := [(2, ((a0 : Nat) : Int)), (0, q6.1)]) (h := 40) hT rfl (Nat.le_of_ble_eq_true rfl) rfl) ?_
        refine Eq.trans (x1 (h := 41) hT rfl rfl (by decide)) ?_
        refine Eq.trans (x0 (h := 42) hT rfl) ?_
        refine Eq.trans (x22b (r := a0) (cl := 12) (h := 43) hT rfl ha0 (by decide) rfl) ?_
        refine Eq.trans (if_pos (by decide)) ?_
        refine Eq.trans (x1 (h := 44) hT rfl rfl (by decide)) ?_
        refine Eq.trans (x21 (r := a0) (cl := 12) (h := 45) hT rfl ha0) ?_
        refine Eq.trans (x16_1 (h := 46) hT rfl) ?_
        refine xit (fun _ => ?_) (fun _ => ?_)
        · refine Eq.trans (x1 (h := 53) hT rfl rfl (by decide)) ?_
          refine Eq.trans (x31 (r := a0) (cl := 12) (as := []) (st' := []) (h := 54) hT rfl sm_265 rfl ha0) ?_
          refine xbd (fun q7 => ?_)
          rw [rv_265]
          change zB P 332 55 [(2, ((a0 : Nat) : Int)), (0, q6.1)] [] q7.2 = _
          refine Eq.trans (x1 (h := 55) hT rfl rfl (by decide)) ?_
          refine Eq.trans (x21r (r := a0) (cl := 12) (o := 1) (h := 56) hT rfl ha0 (by decide) rfl) ?_
          refine Eq.trans (x0 (h := 57) hT rfl) ?_
          refine Eq.trans (x24 (r := (a0 + 1)) (n := 18180) (h := 58) hT rfl (Or.inl (kd_12_0 ha0)) (ln_12_0 ha0)) ?_
          refine xig (fun hz8 => ?_)
          exact x201 (h := 59) hT rfl
        · refine Eq.trans (x1 (h := 47) hT rfl rfl (by decide)) ?_
          refine Eq.trans (x0 (h := 48) hT rfl) ?_
          refine Eq.trans (x0 (h := 49) hT rfl) ?_
          refine Eq.trans (x31 (r := a0) (cl := 12) (as := [(0, 2), (0, 0)]) (st' := []) (h := 50) hT rfl sm_50 rfl ha0) ?_
          refine xbd (fun q9 => ?_)
          rw [rv_50]
          change zB P 332 51 [(2, ((a0 : Nat) : Int)), (0, q6.1)] [] q9.2 = _
          refine Eq.trans (x0 (h := 51) hT rfl) ?_
          exact x201 (h := 52) hT rfl
      · refine Eq.trans (x0 (h := 25) hT rfl) ?_
        exact x201 (h := 26) hT rfl
    · refine Eq.trans (x1 (h := 15) hT rfl rfl (by decide)) ?_
      exact x201 (h := 16) hT rfl
  · refine Eq.trans (x0 (h := 5) hT rfl) ?_
    exact x201 (h := 6) hT rfl
/-! WordLinksModel.matched(I)I -/
set_option maxRecDepth 100000 in
theorem e_333 {P : zP} {d : zD P} {a0 : Nat} {a1 : Int} (ha0 : zkd a0 = 12) : MM P 333 [(2, ((a0 : Nat) : Int)), (0, a1)] d = ((MM P 55 [(0, a1), (0, 0), (0, 3)] d).bind fun q1 => (if wr q1.1 ≠ 0 then (if zin 4344 18180 then (if wr ((q1.2.m ((a0 + 1)) (zix 4344))) ≠ 0 then ((MM P 331 [(2, ((a0 : Nat) : Int))] q1.2).bind fun q3 => (if wr a1 ≠ 0 then (if wr a1 = wr 2 then (if zin ((a1 - 2)) 2 then some ((q3.2.m ((a0 + 8)) (zix ((a1 - 2)))), q3.2) else none) else (if wr a1 ≠ wr 3 then zB P 333 47 [(2, ((a0 : Nat) : Int)), (0, a1), (0, 0), (0, 0), (0, 0), (3, 0)] [] q3.2 else (if zin ((a1 - 2)) 2 then some ((q3.2.m ((a0 + 8)) (zix ((a1 - 2)))), q3.2) else none))) else (if zin 0 81 then some ((q3.2.m ((a0 + 9)) (zix 0)), q3.2) else none))) else some ((-2), q1.2)) else none) else ((MM P 55 [(0, a1), (0, 10), (0, 25)] q1.2).bind fun q7 => (if wr q7.1 ≠ 0 then (if zin 4344 18180 then (if wr ((q7.2.m ((a0 + 1)) (zix 4344))) ≠ 0 then ((MM P 331 [(2, ((a0 : Nat) : Int))] q7.2).bind fun q9 => (if wr a1 ≠ 0 then (if wr a1 = wr 2 then (if zin ((a1 - 2)) 2 then some ((q9.2.m ((a0 + 8)) (zix ((a1 - 2)))), q9.2) else none) else (if wr a1 ≠ wr 3 then zB P 333 47 [(2, ((a0 : Nat) : Int)), (0, a1), (0, 0), (0, 0), (0, 0), (3, 0)] [] q9.2 else (if zin ((a1 - 2)) 2 then some ((q9.2.m ((a0 + 8)) (zix ((a1 - 2)))), q9.2) else none))) else (if zin 0 81 then some ((q9.2.m ((a0 + 9)) (zix 0)), q9.2) else none))) else some ((-2), q7.2)) else none) else some ((-1), q7.2))))) := by
  have hT := cT_333
  refine Eq.trans (MM_def sm_333 (Nat.le_of_ble_eq_true rfl)) ?_
  change zB P 333 0 [(2, ((a0 : Nat) : Int)), (0, a1), (3, 0), (3, 0), (3, 0), (3, 0)] [] d = _
  refine Eq.trans (x1 (h := 0) hT rfl rfl (by decide)) ?_
  refine Eq.trans (x0 (h := 1) hT rfl) ?_
  refine Eq.trans (x0 (h := 2) hT rfl) ?_
  refine Eq.trans (x34 (as := [(0, a1), (0, 0), (0, 3)]) (st' := []) (h := 3) hT rfl sm_55 rfl) ?_
  refine xbd (fun q1 => ?_)
  rw [rv_55]
  change zB P 333 4 [(2, ((a0 : Nat) : Int)), (0, a1), (3, 0), (3, 0), (3, 0), (3, 0)] [(0, q1.1)] q1.2 = _
  refine Eq.trans (x16_1 (h := 4) hT rfl) ?_
  refine xit (fun _ => ?_) (fun _ => ?_)
  · refine Eq.trans (x1 (h := 12) hT rfl rfl (by decide)) ?_
    refine Eq.trans (x21r (r := a0) (cl := 12) (o := 1) (h := 13) hT rfl ha0 (by decide) rfl) ?_
    refine Eq.trans (x0 (h := 14) hT rfl) ?_
    refine Eq.trans (x24 (r := (a0 + 1)) (n := 18180) (h := 15) hT rfl (Or.inl (kd_12_0 ha0)) (ln_12_0 ha0)) ?_
    refine xig (fun hz2 => ?_)
    refine Eq.trans (x16_1 (h := 16) hT rfl) ?_
    refine xit (fun _ => ?_) (fun _ => ?_)
    · refine Eq.trans (x1 (h := 19) hT rfl rfl (by decide)) ?_
      refine Eq.trans (x31 (r := a0) (cl := 12) (as := []) (st' := []) (h := 20) hT rfl sm_331 rfl ha0) ?_
      refine xbd (fun q3 => ?_)
      rw [rv_331]
      change zB P 333 21 [(2, ((a0 : Nat) : Int)), (0, a1), (3, 0), (3, 0), (3, 0), (3, 0)] [] q3.2 = _
      refine Eq.trans (x1 (h := 21) hT rfl rfl (by decide)) ?_
      refine Eq.trans (x16_1 (h := 22) hT rfl) ?_
      refine xit (fun _ => ?_) (fun _ => ?_)
      · refine Eq.trans (x1 (h := 28) hT rfl rfl (by decide)) ?_
        refine Eq.trans (x0 (h := 29) hT rfl) ?_
        refine Eq.trans (x17_0 (h := 30) hT rfl) ?_
        refine xit (fun _ => ?_) (fun _ => ?_)
        · refine Eq.trans (x1 (h := 34) hT rfl rfl (by decide)) ?_
          refine Eq.trans (x21r (r := a0) (cl := 12) (o := 8) (h := 35) hT rfl ha0 (by decide) rfl) ?_
          refine Eq.trans (x1 (h := 36) hT rfl rfl (by decide)) ?_
          refine Eq.trans (x0 (h := 37) hT rfl) ?_
          refine Eq.trans (x5_1 (h := 38) hT rfl) ?_
          refine Eq.trans (x24 (r := (a0 + 8)) (n := 2) (h := 39) hT rfl (Or.inl (kd_12_15 ha0)) (ln_12_15 ha0)) ?_
          refine xig (fun hz4 => ?_)
          exact x201 (h := 40) hT rfl
        · refine Eq.trans (x1 (h := 31) hT rfl rfl (by decide)) ?_
          refine Eq.trans (x0 (h := 32) hT rfl) ?_
          refine Eq.trans (x17_1 (h := 33) hT rfl) ?_
          refine xit (fun _ => ?_) (fun _ => ?_)
          · refine Eq.trans (x0 (h := 41) hT rfl) ?_
            refine Eq.trans (x2 (ls' := [(2, ((a0 : Nat) : Int)), (0, a1), (0, 0), (3, 0), (3, 0), (3, 0)]) (h := 42) hT rfl (Nat.le_of_ble_eq_true rfl) rfl) ?_
            refine Eq.trans (x0 (h := 43) hT rfl) ?_
            refine Eq.trans (x2 (ls' := [(2, ((a0 : Nat) : Int)), (0, a1), (0, 0), (0, 0), (3, 0), (3, 0)]) (h := 44) hT rfl (Nat.le_of_ble_eq_true rfl) rfl) ?_
            refine Eq.trans (x0 (h := 45) hT rfl) ?_
            refine Eq.trans (x2 (ls' := [(2, ((a0 : Nat) : Int)), (0, a1), (0, 0), (0, 0), (0, 0), (3, 0)]) (h := 46) hT rfl (Nat.le_of_ble_eq_true rfl) rfl) ?_
            exact rfl
          · refine Eq.trans (x1 (h := 34) hT rfl rfl (by decide)) ?_
            refine Eq.trans (x21r (r := a0) (cl := 12) (o := 8) (h := 35) hT rfl ha0 (by decide) rfl) ?_
            refine Eq.trans (x1 (h := 36) hT rfl rfl (by decide)) ?_
            refine Eq.trans (x0 (h := 37) hT rfl) ?_
            refine Eq.trans (x5_1 (h := 38) hT rfl) ?_
            refine Eq.trans (x24 (r := (a0 + 8)) (n := 2) (h := 39) hT rfl (Or.inl (kd_12_15 ha0)) (ln_12_15 ha0)) ?_
            refine xig (fun hz5 => ?_)
            exact x201 (h := 40) hT rfl
      · refine Eq.trans (x1 (h := 23) hT rfl rfl (by decide)) ?_
        refine Eq.trans (x21r (r := a0) (cl := 12) (o := 9) (h := 24) hT rfl ha0 (by decide) rfl) ?_
        refine Eq.trans (x0 (h := 25) hT rfl) ?_
        refine Eq.trans (x24 (r := (a0 + 9)) (n := 81) (h := 26) hT rfl (Or.inl (kd_12_16 ha0)) (ln_12_16 ha0)) ?_
        refine xig (fun hz6 => ?_)
        exact x201 (h := 27) hT rfl
    · refine Eq.trans (x0 (h := 17) hT rfl) ?_
      exact x201 (h := 18) hT rfl
  · refine Eq.trans (x1 (h := 5) hT rfl rfl (by decide)) ?_
    refine Eq.trans (x0 (h := 6) hT rfl) ?_
    refine Eq.trans (x0 (h := 7) hT rfl) ?_
    refine Eq.trans (x34 (as := [(0, a1), (0, 10), (0, 25)]) (st' := []) (h := 8) hT rfl sm_55 rfl) ?_
    refine xbd (fun q7 => ?_)
    rw [rv_55]
    change zB P 333 9 [(2, ((a0 : Nat) : Int)), (0, a1), (3, 0), (3, 0), (3, 0), (3, 0)] [(0, q7.1)] q7.2 = _
    refine Eq.trans (x16_1 (h := 9) hT rfl) ?_
    refine xit (fun _ => ?_) (fun _ => ?_)
    · refine Eq.trans (x1 (h := 12) hT rfl rfl (by decide)) ?_
      refine Eq.trans (x21r (r := a0) (cl := 12) (o := 1) (h := 13) hT rfl ha0 (by decide) rfl) ?_
      refine Eq.trans (x0 (h := 14) hT rfl) ?_
      refine Eq.trans (x24 (r := (a0 + 1)) (n := 18180) (h := 15) hT rfl (Or.inl (kd_12_0 ha0)) (ln_12_0 ha0)) ?_
      refine xig (fun hz8 => ?_)
      refine Eq.trans (x16_1 (h := 16) hT rfl) ?_
      refine xit (fun _ => ?_) (fun _ => ?_)
      · refine Eq.trans (x1 (h := 19) hT rfl rfl (by decide)) ?_
        refine Eq.trans (x31 (r := a0) (cl := 12) (as := []) (st' := []) (h := 20) hT rfl sm_331 rfl ha0) ?_
        refine xbd (fun q9 => ?_)
        rw [rv_331]
        change zB P 333 21 [(2, ((a0 : Nat) : Int)), (0, a1), (3, 0), (3, 0), (3, 0), (3, 0)] [] q9.2 = _
        refine Eq.trans (x1 (h := 21) hT rfl rfl (by decide)) ?_
        refine Eq.trans (x16_1 (h := 22) hT rfl) ?_
        refine xit (fun _ => ?_) (fun _ => ?_)
        · refine Eq.trans (x1 (h := 28) hT rfl rfl (by decide)) ?_
          refine Eq.trans (x0 (h := 29) hT rfl) ?_
          refine Eq.trans (x17_0 (h := 30) hT rfl) ?_
          refine xit (fun _ => ?_) (fun _ => ?_)
          · refine Eq.trans (x1 (h := 34) hT rfl rfl (by decide)) ?_
            refine Eq.trans (x21r (r := a0) (cl := 12) (o := 8) (h := 35) hT rfl ha0 (by decide) rfl) ?_
            refine Eq.trans (x1 (h := 36) hT rfl rfl (by decide)) ?_
            refine Eq.trans (x0 (h := 37) hT rfl) ?_
            refine Eq.trans (x5_1 (h := 38) hT rfl) ?_
            refine Eq.trans (x24 (r := (a0 + 8)) (n := 2) (h := 39) hT rfl (Or.inl (kd_12_15 ha0)) (ln_12_15 ha0)) ?_
            refine xig (fun hz10 => ?_)
            exact x201 (h := 40) hT rfl
          · refine Eq.trans (x1 (h := 31) hT rfl rfl (by decide)) ?_
            refine Eq.trans (x0 (h := 32) hT rfl) ?_
            refine Eq.trans (x17_1 (h := 33) hT rfl) ?_
            refine xit (fun _ => ?_) (fun _ => ?_)
            · refine Eq.trans (x0 (h := 41) hT rfl) ?_
              refine Eq.trans (x2 (ls' := [(2, ((a0 : Nat) : Int)), (0, a1), (0, 0), (3, 0), (3, 0), (3, 0)]) (h := 42) hT rfl (Nat.le_of_ble_eq_true rfl) rfl) ?_
              refine Eq.trans (x0 (h := 43) hT rfl) ?_
              refine Eq.trans (x2 (ls' := [(2, ((a0 : Nat) : Int)), (0, a1), (0, 0), (0, 0), (3, 0), (3, 0)]) (h := 44) hT rfl (Nat.le_of_ble_eq_true rfl) rfl) ?_
              refine Eq.trans (x0 (h := 45) hT rfl) ?_
              refine Eq.trans (x2 (ls' := [(2, ((a0 : Nat) : Int)), (0, a1), (0, 0), (0, 0), (0, 0), (3, 0)]) (h := 46) hT rfl (Nat.le_of_ble_eq_true rfl) rfl) ?_
              exact rfl
            · refine Eq.trans (x1 (h := 34) hT rfl rfl (by decide)) ?_
              refine Eq.trans (x21r (r := a0) (cl := 12) (o := 8) (h := 35) hT rfl ha0 (by decide) rfl) ?_
              refine Eq.trans (x1 (h := 36) hT rfl rfl (by decide)) ?_
              refine Eq.trans (x0 (h := 37) hT rfl) ?_
              refine Eq.trans (x5_1 (h := 38) hT rfl) ?_
              refine Eq.trans (x24 (r := (a0 + 8)) (n := 2) (h := 39) hT rfl (Or.inl (kd_12_15 ha0)) (ln_12_15 ha0)) ?_
              refine xig (fun hz11 => ?_)
              exact x201 (h := 40) hT rfl
        · refine Eq.trans (x1 (h := 23) hT rfl rfl (by decide)) ?_
          refine Eq.trans (x21r (r := a0) (cl := 12) (o := 9) (h := 24) hT rfl ha0 (by decide) rfl) ?_
          refine Eq.trans (x0 (h := 25) hT rfl) ?_
          refine Eq.trans (x24 (r := (a0 + 9)) (n := 81) (h := 26) hT rfl (Or.inl (kd_12_16 ha0)) (ln_12_16 ha0)) ?_
          refine xig (fun hz12 => ?_)
          exact x201 (h := 27) hT rfl
      · refine Eq.trans (x0 (h := 17) hT rfl) ?_
        exact x201 (h := 18) hT rfl
    · refine Eq.trans (x0 (h := 10) hT rfl) ?_
      exact x201 (h := 11) hT rfl
set_option maxRecDepth 100000 in
theorem q_333_47 {P : zP} {d : zD P} {a0 : Nat} {a1 : Int} {a2 : Int} {a3 : Int} {a4 : Int} {g5 : zV} (ha0 : zkd a0 = 12) : zB P 333 47 [(2, ((a0 : Nat) : Int)), (0, a1), (0, a2), (0, a3), (0, a4), g5] [] d = (if zin 0 2 then (if wr a2 < wr ((d.m ((a0 + 8)) (zix 0))) then (if zin (((9 * a2) + a3)) 81 then (if wr a1 ≠ wr ((10 + a4)) then ((MM P 76 [(0, (d.m ((a0 + 10)) (zix (((9 * a2) + a3))))), (0, 0)] d).bind fun q15 => ((MM P 76 [(0, (d.m ((a0 + 10)) (zix (((9 * a2) + a3))))), (0, 1)] q15.2).bind fun q16 => zB P 333 47 [(2, ((a0 : Nat) : Int)), (0, a1), (0, (a2 + q15.1)), (0, (a3 + q16.1)), (0, (a4 + 1)), (0, (d.m ((a0 + 10)) (zix (((9 * a2) + a3)))))] [] q16.2)) else some ((d.m ((a0 + 10)) (zix (((9 * a2) + a3)))), d)) else none) else (if zin 1 2 then (if wr ((d.m ((a0 + 8)) (zix 1))) ≤ wr a3 then (if wr a1 ≠ wr 1 then some ((-4), d) else some (a4, d)) else (if zin (((9 * a2) + a3)) 81 then (if wr a1 ≠ wr ((10 + a4)) then ((MM P 76 [(0, (d.m ((a0 + 10)) (zix (((9 * a2) + a3))))), (0, 0)] d).bind fun q19 => ((MM P 76 [(0, (d.m ((a0 + 10)) (zix (((9 * a2) + a3))))), (0, 1)] q19.2).bind fun q20 => zB P 333 47 [(2, ((a0 : Nat) : Int)), (0, a1), (0, (a2 + q19.1)), (0, (a3 + q20.1)), (0, (a4 + 1)), (0, (d.m ((a0 + 10)) (zix (((9 * a2) + a3)))))] [] q20.2)) else some ((d.m ((a0 + 10)) (zix (((9 * a2) + a3)))), d)) else none)) else none)) else none) := by
  have hT := cT_333
  refine Eq.trans (x1 (h := 47) hT rfl rfl (by decide)) ?_
  refine Eq.trans (x1 (h := 48) hT rfl rfl (by decide)) ?_
  refine Eq.trans (x21r (r := a0) (cl := 12) (o := 8) (h := 49) hT rfl ha0 (by decide) rfl) ?_
  refine Eq.trans (x0 (h := 50) hT rfl) ?_
  refine Eq.trans (x24 (r := (a0 + 8)) (n := 2) (h := 51) hT rfl (Or.inl (kd_12_15 ha0)) (ln_12_15 ha0)) ?_
  refine xig (fun hz13 => ?_)
  refine Eq.trans (x17_2 (h := 52) hT rfl) ?_
  refine xit (fun _ => ?_) (fun _ => ?_)
  · refine Eq.trans (x1 (h := 59) hT rfl rfl (by decide)) ?_
    refine Eq.trans (x21r (r := a0) (cl := 12) (o := 10) (h := 60) hT rfl ha0 (by decide) rfl) ?_
    refine Eq.trans (x0 (h := 61) hT rfl) ?_
    refine Eq.trans (x1 (h := 62) hT rfl rfl (by decide)) ?_
    refine Eq.trans (x5_2 (h := 63) hT rfl) ?_
    refine Eq.trans (x1 (h := 64) hT rfl rfl (by decide)) ?_
    refine Eq.trans (x5_0 (h := 65) hT rfl) ?_
    refine Eq.trans (x24 (r := (a0 + 10)) (n := 81) (h := 66) hT rfl (Or.inl (kd_12_17 ha0)) (ln_12_17 ha0)) ?_
    refine xig (fun hz14 => ?_)
    refine Eq.trans (x2 (ls' := [(2, ((a0 : Nat) : Int)), (0, a1), (0, a2), (0, a3), (0, a4), (0, (d.m ((a0 + 10)) (zix (((9 * a2) + a3)))))]) (h := 67) hT rfl (Nat.le_of_ble_eq_true rfl) rfl) ?_
    refine Eq.trans (x1 (h := 68) hT rfl rfl (by decide)) ?_
    refine Eq.trans (x0 (h := 69) hT rfl) ?_
    refine Eq.trans (x1 (h := 70) hT rfl rfl (by decide)) ?_
    refine Eq.trans (x5_0 (h := 71) hT rfl) ?_
    refine Eq.trans (x17_1 (h := 72) hT rfl) ?_
    refine xit (fun _ => ?_) (fun _ => ?_)
    · refine Eq.trans (x1 (h := 75) hT rfl rfl (by decide)) ?_
      refine Eq.trans (x1 (h := 76) hT rfl rfl (by decide)) ?_
      refine Eq.trans (x0 (h := 77) hT rfl) ?_
      refine Eq.trans (x34 (as := [(0, (d.m ((a0 + 10)) (zix (((9 * a2) + a3))))), (0, 0)]) (st' := [(0, a2)]) (h := 78) hT rfl sm_76 rfl) ?_
      refine xbd (fun q15 => ?_)
      rw [rv_76]
      change zB P 333 79 [(2, ((a0 : Nat) : Int)), (0, a1), (0, a2), (0, a3), (0, a4), (0, (d.m ((a0 + 10)) (zix (((9 * a2) + a3)))))] [(0, q15.1), (0, a2)] q15.2 = _
      refine Eq.trans (x5_0 (h := 79) hT rfl) ?_
      refine Eq.trans (x2 (ls' := [(2, ((a0 : Nat) : Int)), (0, a1), (0, (a2 + q15.1)), (0, a3), (0, a4), (0, (d.m ((a0 + 10)) (zix (((9 * a2) + a3)))))]) (h := 80) hT rfl (Nat.le_of_ble_eq_true rfl) rfl) ?_
      refine Eq.trans (x1 (h := 81) hT rfl rfl (by decide)) ?_
      refine Eq.trans (x1 (h := 82) hT rfl rfl (by decide)) ?_
      refine Eq.trans (x0 (h := 83) hT rfl) ?_
      refine Eq.trans (x34 (as := [(0, (d.m ((a0 + 10)) (zix (((9 * a2) + a3))))), (0, 1)]) (st' := [(0, a3)]) (h := 84) hT rfl sm_76 rfl) ?_
      refine xbd (fun q16 => ?_)
      rw [rv_76]
      change zB P 333 85 [(2, ((a0 : Nat) : Int)), (0, a1), (0, (a2 + q15.1)), (0, a3), (0, a4), (0, (d.m ((a0 + 10)) (zix (((9 * a2) + a3)))))] [(0, q16.1), (0, a3)] q16.2 = _
      refine Eq.trans (x5_0 (h := 85) hT rfl) ?_
      refine Eq.trans (x2 (ls' := [(2, ((a0 : Nat) : Int)), (0, a1), (0, (a2 + q15.1)), (0, (a3 + q16.1)), (0, a4), (0, (d.m ((a0 + 10)) (zix (((9 * a2) + a3)))))]) (h := 86) hT rfl (Nat.le_of_ble_eq_true rfl) rfl) ?_
      refine Eq.trans (x1 (h := 87) hT rfl rfl (by decide)) ?_
      refine Eq.trans (x0 (h := 88) hT rfl) ?_
      refine Eq.trans (x5_0 (h := 89) hT rfl) ?_
      refine Eq.trans (x2 (ls' := [(2, ((a0 : Nat) : Int)), (0, a1), (0, (a2 + q15.1)), (0, (a3 + q16.1)), (0, (a4 + 1)), (0, (d.m ((a0 + 10)) (zix (((9 * a2) + a3)))))]) (h := 90) hT rfl (Nat.le_of_ble_eq_true rfl) rfl) ?_
      refine Eq.trans (x18 (h := 91) hT rfl) ?_
      exact rfl
    · refine Eq.trans (x1 (h := 73) hT rfl rfl (by decide)) ?_
      exact x201 (h := 74) hT rfl
  · refine Eq.trans (x1 (h := 53) hT rfl rfl (by decide)) ?_
    refine Eq.trans (x1 (h := 54) hT rfl rfl (by decide)) ?_
    refine Eq.trans (x21r (r := a0) (cl := 12) (o := 8) (h := 55) hT rfl ha0 (by decide) rfl) ?_
    refine Eq.trans (x0 (h := 56) hT rfl) ?_
    refine Eq.trans (x24 (r := (a0 + 8)) (n := 2) (h := 57) hT rfl (Or.inl (kd_12_15 ha0)) (ln_12_15 ha0)) ?_
    refine xig (fun hz17 => ?_)
    refine Eq.trans (x17_3 (h := 58) hT rfl) ?_
    refine xit (fun _ => ?_) (fun _ => ?_)
    · refine Eq.trans (x1 (h := 92) hT rfl rfl (by decide)) ?_
      refine Eq.trans (x0 (h := 93) hT rfl) ?_
      refine Eq.trans (x17_1 (h := 94) hT rfl) ?_
      refine xit (fun _ => ?_) (fun _ => ?_)
      · refine Eq.trans (x0 (h := 97) hT rfl) ?_
        exact x201 (h := 98) hT rfl
      · refine Eq.trans (x1 (h := 95) hT rfl rfl (by decide)) ?_
        refine Eq.trans (x18 (h := 96) hT rfl) ?_
        exact x201 (h := 98) hT rfl
    · refine Eq.trans (x1 (h := 59) hT rfl rfl (by decide)) ?_
      refine Eq.trans (x21r (r := a0) (cl := 12) (o := 10) (h := 60) hT rfl ha0 (by decide) rfl) ?_
      refine Eq.trans (x0 (h := 61) hT rfl) ?_
      refine Eq.trans (x1 (h := 62) hT rfl rfl (by decide)) ?_
      refine Eq.trans (x5_2 (h := 63) hT rfl) ?_
      refine Eq.trans (x1 (h := 64) hT rfl rfl (by decide)) ?_
      refine Eq.trans (x5_0 (h := 65) hT rfl) ?_
      refine Eq.trans (x24 (r := (a0 + 10)) (n := 81) (h := 66) hT rfl (Or.inl (kd_12_17 ha0)) (ln_12_17 ha0)) ?_
      refine xig (fun hz18 => ?_)
      refine Eq.trans (x2 (ls' := [(2, ((a0 : Nat) : Int)), (0, a1), (0, a2), (0, a3), (0, a4), (0, (d.m ((a0 + 10)) (zix (((9 * a2) + a3)))))]) (h := 67) hT rfl (Nat.le_of_ble_eq_true rfl) rfl) ?_
      refine Eq.trans (x1 (h := 68) hT rfl rfl (by decide)) ?_
      refine Eq.trans (x0 (h := 69) hT rfl) ?_
      refine Eq.trans (x1 (h := 70) hT rfl rfl (by decide)) ?_
      refine Eq.trans (x5_0 (h := 71) hT rfl) ?_
      refine Eq.trans (x17_1 (h := 72) hT rfl) ?_
      refine xit (fun _ => ?_) (fun _ => ?_)
      · refine Eq.trans (x1 (h := 75) hT rfl rfl (by decide)) ?_
        refine Eq.trans (x1 (h := 76) hT rfl rfl (by decide)) ?_
        refine Eq.trans (x0 (h := 77) hT rfl) ?_
        refine Eq.trans (x34 (as := [(0, (d.m ((a0 + 10)) (zix (((9 * a2) + a3))))), (0, 0)]) (st' := [(0, a2)]) (h := 78) hT rfl sm_76 rfl) ?_
        refine xbd (fun q19 => ?_)
        rw [rv_76]
        change zB P 333 79 [(2, ((a0 : Nat) : Int)), (0, a1), (0, a2), (0, a3), (0, a4), (0, (d.m ((a0 + 10)) (zix (((9 * a2) + a3)))))] [(0, q19.1), (0, a2)] q19.2 = _
        refine Eq.trans (x5_0 (h := 79) hT rfl) ?_
        refine Eq.trans (x2 (ls' := [(2, ((a0 : Nat) : Int)), (0, a1), (0, (a2 + q19.1)), (0, a3), (0, a4), (0, (d.m ((a0 + 10)) (zix (((9 * a2) + a3)))))]) (h := 80) hT rfl (Nat.le_of_ble_eq_true rfl) rfl) ?_
        refine Eq.trans (x1 (h := 81) hT rfl rfl (by decide)) ?_
        refine Eq.trans (x1 (h := 82) hT rfl rfl (by decide)) ?_
        refine Eq.trans (x0 (h := 83) hT rfl) ?_
        refine Eq.trans (x34 (as := [(0, (d.m ((a0 + 10)) (zix (((9 * a2) + a3))))), (0, 1)]) (st' := [(0, a3)]) (h := 84) hT rfl sm_76 rfl) ?_
        refine xbd (fun q20 => ?_)
        rw [rv_76]
        change zB P 333 85 [(2, ((a0 : Nat) : Int)), (0, a1), (0, (a2 + q19.1)), (0, a3), (0, a4), (0, (d.m ((a0 + 10)) (zix (((9 * a2) + a3)))))] [(0, q20.1), (0, a3)] q20.2 = _
        refine Eq.trans (x5_0 (h := 85) hT rfl) ?_
        refine Eq.trans (x2 (ls' := [(2, ((a0 : Nat) : Int)), (0, a1), (0, (a2 + q19.1)), (0, (a3 + q20.1)), (0, a4), (0, (d.m ((a0 + 10)) (zix (((9 * a2) + a3)))))]) (h := 86) hT rfl (Nat.le_of_ble_eq_true rfl) rfl) ?_
        refine Eq.trans (x1 (h := 87) hT rfl rfl (by decide)) ?_
        refine Eq.trans (x0 (h := 88) hT rfl) ?_
        refine Eq.trans (x5_0 (h := 89) hT rfl) ?_
        refine Eq.trans (x2 (ls' := [(2, ((a0 : Nat) : Int)), (0, a1), (0, (a2 + q19.1)), (0, (a3 + q20.1)), (0, (a4 + 1)), (0, (d.m ((a0 + 10)) (zix (((9 * a2) + a3)))))]) (h := 90) hT rfl (Nat.le_of_ble_eq_true rfl) rfl) ?_
        refine Eq.trans (x18 (h := 91) hT rfl) ?_
        exact rfl
      · refine Eq.trans (x1 (h := 73) hT rfl rfl (by decide)) ?_
        exact x201 (h := 74) hT rfl
