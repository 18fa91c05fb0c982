/-! The methods from 120 on, block by block. -/
/-! WordLinks$Tape.isLetter()Z -/
set_option maxRecDepth 100000 in
theorem e_121 {P : zP} {d : zD P} {a0 : Nat} (ha0 : zkd a0 = 10) : MM P 121 [(2, ((a0 : Nat) : Int))] d = ((MM P 40 [(2, ((a0 : Nat) : Int))] d).bind fun q1 => (if wr q1.1 < wr 97 then some (0, q1.2) else (if wr 122 < wr q1.1 then some (0, q1.2) else some (1, q1.2)))) := by
  have hT := cT_121
  refine Eq.trans (MM_def sm_121 (Nat.le_of_ble_eq_true rfl)) ?_
  change zB P 121 0 [(2, ((a0 : Nat) : Int)), (3, 0)] [] d = _
  refine Eq.trans (x1 (h := 0) hT rfl rfl (by decide)) ?_
  refine Eq.trans (x31 (r := a0) (cl := 10) (as := []) (st' := []) (h := 1) hT rfl sm_40 rfl ha0) ?_
  refine xbd (fun q1 => ?_)
  rw [rv_40]
  change zB P 121 2 [(2, ((a0 : Nat) : Int)), (3, 0)] [(0, q1.1)] q1.2 = _
  refine Eq.trans (x2 (ls' := [(2, ((a0 : Nat) : Int)), (0, q1.1)]) (h := 2) hT rfl (Nat.le_of_ble_eq_true rfl) rfl) ?_
  refine Eq.trans (x1 (h := 3) hT rfl rfl (by decide)) ?_
  refine Eq.trans (x0 (h := 4) hT rfl) ?_
  refine Eq.trans (x17_2 (h := 5) hT rfl) ?_
  refine xit (fun _ => ?_) (fun _ => ?_)
  · refine Eq.trans (x0 (h := 11) hT rfl) ?_
    exact x203c (h := 12) hT rfl (by decide)
  · refine Eq.trans (x1 (h := 6) hT rfl rfl (by decide)) ?_
    refine Eq.trans (x0 (h := 7) hT rfl) ?_
    refine Eq.trans (x17_4 (h := 8) hT rfl) ?_
    refine xit (fun _ => ?_) (fun _ => ?_)
    · refine Eq.trans (x0 (h := 11) hT rfl) ?_
      exact x203c (h := 12) hT rfl (by decide)
    · refine Eq.trans (x0 (h := 9) hT rfl) ?_
      refine Eq.trans (x18 (h := 10) hT rfl) ?_
      exact x203c (h := 12) hT rfl (by decide)
/-! WordLinks$Tape.pass(C)Z -/
set_option maxRecDepth 100000 in
theorem e_122 {P : zP} {d : zD P} {a0 : Nat} {a1 : Int} (ha0 : zkd a0 = 10) : MM P 122 [(2, ((a0 : Nat) : Int)), (0, a1)] d = ((MM P 40 [(2, ((a0 : Nat) : Int))] d).bind fun q1 => (if wr q1.1 = wr a1 then some (1, (q1.2.up a0 3 (((q1.2.m a0 3) + 1)))) else ((MM P 37 [(2, ((a0 : Nat) : Int)), (0, 1)] q1.2).bind fun q2 => (if q2.1 = 0 ∨ q2.1 = 1 then some (q2.1, q2.2) else none)))) := by
  have hT := cT_122
  refine Eq.trans (MM_def sm_122 (Nat.le_of_ble_eq_true rfl)) ?_
  change zB P 122 0 [(2, ((a0 : Nat) : Int)), (0, a1)] [] d = _
  refine Eq.trans (x1 (h := 0) hT rfl rfl (by decide)) ?_
  refine Eq.trans (x31 (r := a0) (cl := 10) (as := []) (st' := []) (h := 1) hT rfl sm_40 rfl ha0) ?_
  refine xbd (fun q1 => ?_)
  rw [rv_40]
  change zB P 122 2 [(2, ((a0 : Nat) : Int)), (0, a1)] [(0, q1.1)] q1.2 = _
  refine Eq.trans (x1 (h := 2) hT rfl rfl (by decide)) ?_
  refine Eq.trans (x17_0 (h := 3) hT rfl) ?_
  refine xit (fun _ => ?_) (fun _ => ?_)
  · refine Eq.trans (x1 (h := 8) hT rfl rfl (by decide)) ?_
    refine Eq.trans (x13 (h := 9) hT rfl (by decide)) ?_
    refine Eq.trans (x21 (r := a0) (cl := 10) (h := 10) hT rfl ha0) ?_
    refine Eq.trans (x0 (h := 11) hT rfl) ?_
    refine Eq.trans (x5_0 (h := 12) hT rfl) ?_
    refine Eq.trans (x22 (r := a0) (cl := 10) (h := 13) hT rfl ha0 (by decide) rfl (by decide)) ?_
    refine Eq.trans (x0 (h := 14) hT rfl) ?_
    exact x203c (h := 15) hT rfl (by decide)
  · refine Eq.trans (x1 (h := 4) hT rfl rfl (by decide)) ?_
    refine Eq.trans (x0 (h := 5) hT rfl) ?_
    refine Eq.trans (x31 (r := a0) (cl := 10) (as := [(0, 1)]) (st' := []) (h := 6) hT rfl sm_37 rfl ha0) ?_
    refine xbd (fun q2 => ?_)
    rw [rv_37]
    change zB P 122 7 [(2, ((a0 : Nat) : Int)), (0, a1)] [(0, q2.1)] q2.2 = _
    exact x203 (h := 7) hT rfl
/-! WordLinks.at(III)I -/
set_option maxRecDepth 100000 in
theorem e_123 {P : zP} {d : zD P} {a0 : Nat} {a1 : Int} {a2 : Int} {a3 : Int} (ha0 : zkd a0 = 11) : MM P 123 [(2, ((a0 : Nat) : Int)), (0, a1), (0, a2), (0, a3)] d = ((MM P 44 [(2, ((a0 : Nat) : Int)), (0, a1)] d).bind fun q1 => (if wr q1.1 = 0 then some ((-1), q1.2) else ((MM P 45 [(0, a2)] q1.2).bind fun q2 => (if wr q2.1 = 0 then some ((-1), q2.2) else (if wr a3 < 0 then some ((-1), q2.2) else (if wr a3 < wr 6 then (if zin a2 2 then (if zin a1 24 then (if wr ((q2.2.m (((((a0 + 3) + 1) + 8) + (1 + zix a2))) (zix a1))) ≤ wr a3 then some ((-2), q2.2) else ((MM P 5 [(2, ((((a0 + 3) + 1) : Nat) : Int)), (0, a2), (0, a1), (0, a3)] q2.2).bind fun q5 => some (q5.1, q5.2))) else none) else none) else some ((-1), q2.2))))))) := by
  have hT := cT_123
  refine Eq.trans (MM_def sm_123 (Nat.le_of_ble_eq_true rfl)) ?_
  change zB P 123 0 [(2, ((a0 : Nat) : Int)), (0, a1), (0, a2), (0, a3)] [] d = _
  refine Eq.trans (x1 (h := 0) hT rfl rfl (by decide)) ?_
  refine Eq.trans (x1 (h := 1) hT rfl rfl (by decide)) ?_
  refine Eq.trans (x31 (r := a0) (cl := 11) (as := [(0, a1)]) (st' := []) (h := 2) hT rfl sm_44 rfl ha0) ?_
  refine xbd (fun q1 => ?_)
  rw [rv_44]
  change zB P 123 3 [(2, ((a0 : Nat) : Int)), (0, a1), (0, a2), (0, a3)] [(0, q1.1)] q1.2 = _
  refine Eq.trans (x16_0 (h := 3) hT rfl) ?_
  refine xit (fun _ => ?_) (fun _ => ?_)
  · refine Eq.trans (x0 (h := 12) hT rfl) ?_
    exact x201 (h := 13) hT rfl
  · refine Eq.trans (x1 (h := 4) hT rfl rfl (by decide)) ?_
    refine Eq.trans (x34 (as := [(0, a2)]) (st' := []) (h := 5) hT rfl sm_45 rfl) ?_
    refine xbd (fun q2 => ?_)
    rw [rv_45]
    change zB P 123 6 [(2, ((a0 : Nat) : Int)), (0, a1), (0, a2), (0, a3)] [(0, q2.1)] q2.2 = _
    refine Eq.trans (x16_0 (h := 6) hT rfl) ?_
    refine xit (fun _ => ?_) (fun _ => ?_)
    · refine Eq.trans (x0 (h := 12) hT rfl) ?_
      exact x201 (h := 13) hT rfl
    · refine Eq.trans (x1 (h := 7) hT rfl rfl (by decide)) ?_
      refine Eq.trans (x16_2 (h := 8) hT rfl) ?_
      refine xit (fun _ => ?_) (fun _ => ?_)
      · refine Eq.trans (x0 (h := 12) hT rfl) ?_
        exact x201 (h := 13) hT rfl
      · refine Eq.trans (x1 (h := 9) hT rfl rfl (by decide)) ?_
        refine Eq.trans (x0 (h := 10) hT rfl) ?_
        refine Eq.trans (x17_2 (h := 11) hT rfl) ?_
        refine xit (fun _ => ?_) (fun _ => ?_)
        · refine Eq.trans (x1 (h := 14) hT rfl rfl (by decide)) ?_
          refine Eq.trans (x1 (h := 15) hT rfl rfl (by decide)) ?_
          refine Eq.trans (x21r (r := a0) (cl := 11) (o := 3) (h := 16) hT rfl ha0 (by decide) rfl) ?_
          refine Eq.trans (x21r (r := (a0 + 3)) (cl := 9) (o := 1) (h := 17) hT rfl (kd_11_1 ha0) (by decide) rfl) ?_
          refine Eq.trans (x21r (r := ((a0 + 3) + 1)) (cl := 0) (o := 8) (h := 18) hT rfl (kd_9_0 (kd_11_1 ha0)) (by decide) rfl) ?_
          refine Eq.trans (x1 (h := 19) hT rfl rfl (by decide)) ?_
          refine Eq.trans (x24r (r := (((a0 + 3) + 1) + 8)) (n := 2) (h := 20) hT rfl (kd_0_3 (kd_9_0 (kd_11_1 ha0))) (ln_0_3 (kd_9_0 (kd_11_1 ha0))) (by decide)) ?_
          refine xig (fun hz3 => ?_)
          refine Eq.trans (x1 (h := 21) hT rfl rfl (by decide)) ?_
          refine Eq.trans (x24 (r := ((((a0 + 3) + 1) + 8) + (1 + zix a2))) (n := 24) (h := 22) hT rfl (Or.inl (kq_0_3 (kd_9_0 (kd_11_1 ha0)) (zix_lt hz3))) (lq_0_3 (kd_9_0 (kd_11_1 ha0)) (zix_lt hz3))) ?_
          refine xig (fun hz4 => ?_)
          refine Eq.trans (x17_3 (h := 23) hT rfl) ?_
          refine xit (fun _ => ?_) (fun _ => ?_)
          · refine Eq.trans (x0 (h := 32) hT rfl) ?_
            exact x201 (h := 33) hT rfl
          · refine Eq.trans (x1 (h := 24) hT rfl rfl (by decide)) ?_
            refine Eq.trans (x21r (r := a0) (cl := 11) (o := 3) (h := 25) hT rfl ha0 (by decide) rfl) ?_
            refine Eq.trans (x21r (r := (a0 + 3)) (cl := 9) (o := 1) (h := 26) hT rfl (kd_11_1 ha0) (by decide) rfl) ?_
            refine Eq.trans (x1 (h := 27) hT rfl rfl (by decide)) ?_
            refine Eq.trans (x1 (h := 28) hT rfl rfl (by decide)) ?_
            refine Eq.trans (x1 (h := 29) hT rfl rfl (by decide)) ?_
            refine Eq.trans (x31 (r := ((a0 + 3) + 1)) (cl := 0) (as := [(0, a2), (0, a1), (0, a3)]) (st' := []) (h := 30) hT rfl sm_5 rfl (kd_9_0 (kd_11_1 ha0))) ?_
            refine xbd (fun q5 => ?_)
            rw [rv_5]
            change zB P 123 31 [(2, ((a0 : Nat) : Int)), (0, a1), (0, a2), (0, a3)] [(0, q5.1)] q5.2 = _
            refine Eq.trans (x18 (h := 31) hT rfl) ?_
            exact x201 (h := 33) hT rfl
        · refine Eq.trans (x0 (h := 12) hT rfl) ?_
          exact x201 (h := 13) hT rfl
/-! WordLinks.feed(IIIII)I -/
set_option maxRecDepth 100000 in
theorem e_124 {P : zP} {d : zD P} {a0 : Nat} {a1 : Int} {a2 : Int} {a3 : Int} {a4 : Int} {a5 : Int} (ha0 : zkd a0 = 11) : MM P 124 [(2, ((a0 : Nat) : Int)), (0, a1), (0, a2), (0, a3), (0, a4), (0, a5)] d = ((MM P 39 [(2, (((a0 + 1) : Nat) : Int)), (0, 20)] d).bind fun q1 => (if wr q1.1 ≠ 0 then ((MM P 42 [(2, (((a0 + 1) : Nat) : Int)), (0, a1)] q1.2).bind fun q2 => ((MM P 42 [(2, (((a0 + 1) : Nat) : Int)), (0, a2)] q2.2).bind fun q3 => ((MM P 42 [(2, (((a0 + 1) : Nat) : Int)), (0, a3)] q3.2).bind fun q4 => ((MM P 42 [(2, (((a0 + 1) : Nat) : Int)), (0, a4)] q4.2).bind fun q5 => ((MM P 42 [(2, (((a0 + 1) : Nat) : Int)), (0, a5)] q5.2).bind fun q6 => some ((q6.2.m ((a0 + 1)) 1), q6.2)))))) else some ((-1), q1.2))) := by
  have hT := cT_124
  refine Eq.trans (MM_def sm_124 (Nat.le_of_ble_eq_true rfl)) ?_
  change zB P 124 0 [(2, ((a0 : Nat) : Int)), (0, a1), (0, a2), (0, a3), (0, a4), (0, a5)] [] d = _
  refine Eq.trans (x1 (h := 0) hT rfl rfl (by decide)) ?_
  refine Eq.trans (x21r (r := a0) (cl := 11) (o := 1) (h := 1) hT rfl ha0 (by decide) rfl) ?_
  refine Eq.trans (x0 (h := 2) hT rfl) ?_
  refine Eq.trans (x31 (r := (a0 + 1)) (cl := 10) (as := [(0, 20)]) (st' := []) (h := 3) hT rfl sm_39 rfl (kd_11_0 ha0)) ?_
  refine xbd (fun q1 => ?_)
  rw [rv_39]
  change zB P 124 4 [(2, ((a0 : Nat) : Int)), (0, a1), (0, a2), (0, a3), (0, a4), (0, a5)] [(0, q1.1)] q1.2 = _
  refine Eq.trans (x16_1 (h := 4) hT rfl) ?_
  refine xit (fun _ => ?_) (fun _ => ?_)
  · refine Eq.trans (x1 (h := 7) hT rfl rfl (by decide)) ?_
    refine Eq.trans (x21r (r := a0) (cl := 11) (o := 1) (h := 8) hT rfl ha0 (by decide) rfl) ?_
    refine Eq.trans (x1 (h := 9) hT rfl rfl (by decide)) ?_
    refine Eq.trans (x31 (r := (a0 + 1)) (cl := 10) (as := [(0, a1)]) (st' := []) (h := 10) hT rfl sm_42 rfl (kd_11_0 ha0)) ?_
    refine xbd (fun q2 => ?_)
    rw [rv_42]
    change zB P 124 11 [(2, ((a0 : Nat) : Int)), (0, a1), (0, a2), (0, a3), (0, a4), (0, a5)] [] q2.2 = _
    refine Eq.trans (x1 (h := 11) hT rfl rfl (by decide)) ?_
    refine Eq.trans (x21r (r := a0) (cl := 11) (o := 1) (h := 12) hT rfl ha0 (by decide) rfl) ?_
    refine Eq.trans (x1 (h := 13) hT rfl rfl (by decide)) ?_
    refine Eq.trans (x31 (r := (a0 + 1)) (cl := 10) (as := [(0, a2)]) (st' := []) (h := 14) hT rfl sm_42 rfl (kd_11_0 ha0)) ?_
    refine xbd (fun q3 => ?_)
    rw [rv_42]
    change zB P 124 15 [(2, ((a0 : Nat) : Int)), (0, a1), (0, a2), (0, a3), (0, a4), (0, a5)] [] q3.2 = _
    refine Eq.trans (x1 (h := 15) hT rfl rfl (by decide)) ?_
    refine Eq.trans (x21r (r := a0) (cl := 11) (o := 1) (h := 16) hT rfl ha0 (by decide) rfl) ?_
    refine Eq.trans (x1 (h := 17) hT rfl rfl (by decide)) ?_
    refine Eq.trans (x31 (r := (a0 + 1)) (cl := 10) (as := [(0, a3)]) (st' := []) (h := 18) hT rfl sm_42 rfl (kd_11_0 ha0)) ?_
    refine xbd (fun q4 => ?_)
    rw [rv_42]
    change zB P 124 19 [(2, ((a0 : Nat) : Int)), (0, a1), (0, a2), (0, a3), (0, a4), (0, a5)] [] q4.2 = _
    refine Eq.trans (x1 (h := 19) hT rfl rfl (by decide)) ?_
    refine Eq.trans (x21r (r := a0) (cl := 11) (o := 1) (h := 20) hT rfl ha0 (by decide) rfl) ?_
    refine Eq.trans (x1 (h := 21) hT rfl rfl (by decide)) ?_
    refine Eq.trans (x31 (r := (a0 + 1)) (cl := 10) (as := [(0, a4)]) (st' := []) (h := 22) hT rfl sm_42 rfl (kd_11_0 ha0)) ?_
    refine xbd (fun q5 => ?_)
    rw [rv_42]
    change zB P 124 23 [(2, ((a0 : Nat) : Int)), (0, a1), (0, a2), (0, a3), (0, a4), (0, a5)] [] q5.2 = _
    refine Eq.trans (x1 (h := 23) hT rfl rfl (by decide)) ?_
    refine Eq.trans (x21r (r := a0) (cl := 11) (o := 1) (h := 24) hT rfl ha0 (by decide) rfl) ?_
    refine Eq.trans (x1 (h := 25) hT rfl rfl (by decide)) ?_
    refine Eq.trans (x31 (r := (a0 + 1)) (cl := 10) (as := [(0, a5)]) (st' := []) (h := 26) hT rfl sm_42 rfl (kd_11_0 ha0)) ?_
    refine xbd (fun q6 => ?_)
    rw [rv_42]
    change zB P 124 27 [(2, ((a0 : Nat) : Int)), (0, a1), (0, a2), (0, a3), (0, a4), (0, a5)] [] q6.2 = _
    refine Eq.trans (x1 (h := 27) hT rfl rfl (by decide)) ?_
    refine Eq.trans (x21r (r := a0) (cl := 11) (o := 1) (h := 28) hT rfl ha0 (by decide) rfl) ?_
    refine Eq.trans (x21 (r := (a0 + 1)) (cl := 10) (h := 29) hT rfl (kd_11_0 ha0)) ?_
    exact x201 (h := 30) hT rfl
  · refine Eq.trans (x0 (h := 5) hT rfl) ?_
    exact x201 (h := 6) hT rfl
/-! WordLinks.isPlace(III)Z -/
set_option maxRecDepth 100000 in
theorem e_125 {P : zP} {d : zD P} {a0 : Nat} {a1 : Int} {a2 : Int} {a3 : Int} (ha0 : zkd a0 = 11) : MM P 125 [(2, ((a0 : Nat) : Int)), (0, a1), (0, a2), (0, a3)] d = ((MM P 44 [(2, ((a0 : Nat) : Int)), (0, a1)] d).bind fun q1 => (if wr q1.1 = 0 then some (0, q1.2) else (if wr a3 < 0 then some (0, q1.2) else (if zin a2 2 then (if zin a1 24 then (if wr ((q1.2.m (((((a0 + 3) + 1) + 8) + (1 + zix a2))) (zix a1))) ≤ wr a3 then some (0, q1.2) else some (1, q1.2)) else none) else none)))) := by
  have hT := cT_125
  refine Eq.trans (MM_def sm_125 (Nat.le_of_ble_eq_true rfl)) ?_
  change zB P 125 0 [(2, ((a0 : Nat) : Int)), (0, a1), (0, a2), (0, a3)] [] d = _
  refine Eq.trans (x1 (h := 0) hT rfl rfl (by decide)) ?_
  refine Eq.trans (x1 (h := 1) hT rfl rfl (by decide)) ?_
  refine Eq.trans (x31 (r := a0) (cl := 11) (as := [(0, a1)]) (st' := []) (h := 2) hT rfl sm_44 rfl ha0) ?_
  refine xbd (fun q1 => ?_)
  rw [rv_44]
  change zB P 125 3 [(2, ((a0 : Nat) : Int)), (0, a1), (0, a2), (0, a3)] [(0, q1.1)] q1.2 = _
  refine Eq.trans (x16_0 (h := 3) hT rfl) ?_
  refine xit (fun _ => ?_) (fun _ => ?_)
  · refine Eq.trans (x0 (h := 18) hT rfl) ?_
    exact x203c (h := 19) hT rfl (by decide)
  · refine Eq.trans (x1 (h := 4) hT rfl rfl (by decide)) ?_
    refine Eq.trans (x16_2 (h := 5) hT rfl) ?_
    refine xit (fun _ => ?_) (fun _ => ?_)
    · refine Eq.trans (x0 (h := 18) hT rfl) ?_
      exact x203c (h := 19) hT rfl (by decide)
    · refine Eq.trans (x1 (h := 6) hT rfl rfl (by decide)) ?_
      refine Eq.trans (x1 (h := 7) hT rfl rfl (by decide)) ?_
      refine Eq.trans (x21r (r := a0) (cl := 11) (o := 3) (h := 8) hT rfl ha0 (by decide) rfl) ?_
      refine Eq.trans (x21r (r := (a0 + 3)) (cl := 9) (o := 1) (h := 9) hT rfl (kd_11_1 ha0) (by decide) rfl) ?_
      refine Eq.trans (x21r (r := ((a0 + 3) + 1)) (cl := 0) (o := 8) (h := 10) hT rfl (kd_9_0 (kd_11_1 ha0)) (by decide) rfl) ?_
      refine Eq.trans (x1 (h := 11) hT rfl rfl (by decide)) ?_
      refine Eq.trans (x24r (r := (((a0 + 3) + 1) + 8)) (n := 2) (h := 12) hT rfl (kd_0_3 (kd_9_0 (kd_11_1 ha0))) (ln_0_3 (kd_9_0 (kd_11_1 ha0))) (by decide)) ?_
      refine xig (fun hz2 => ?_)
      refine Eq.trans (x1 (h := 13) hT rfl rfl (by decide)) ?_
      refine Eq.trans (x24 (r := ((((a0 + 3) + 1) + 8) + (1 + zix a2))) (n := 24) (h := 14) hT rfl (Or.inl (kq_0_3 (kd_9_0 (kd_11_1 ha0)) (zix_lt hz2))) (lq_0_3 (kd_9_0 (kd_11_1 ha0)) (zix_lt hz2))) ?_
      refine xig (fun hz3 => ?_)
      refine Eq.trans (x17_3 (h := 15) hT rfl) ?_
      refine xit (fun _ => ?_) (fun _ => ?_)
      · refine Eq.trans (x0 (h := 18) hT rfl) ?_
        exact x203c (h := 19) hT rfl (by decide)
      · refine Eq.trans (x0 (h := 16) hT rfl) ?_
        refine Eq.trans (x18 (h := 17) hT rfl) ?_
        exact x203c (h := 19) hT rfl (by decide)
/-! WordLinks.isWord(II)Z -/
set_option maxRecDepth 100000 in
theorem e_126 {P : zP} {d : zD P} {a0 : Nat} {a1 : Int} {a2 : Int} (ha0 : zkd a0 = 11) : MM P 126 [(2, ((a0 : Nat) : Int)), (0, a1), (0, a2)] d = ((MM P 45 [(0, a1)] d).bind fun q1 => (if wr q1.1 = 0 then some (0, q1.2) else (if wr a2 < 0 then some (0, q1.2) else (if zin a1 2 then (if wr ((q1.2.m ((((a0 + 3) + 1) + 1)) (zix a1))) ≤ wr a2 then some (0, q1.2) else some (1, q1.2)) else none)))) := by
  have hT := cT_126
  refine Eq.trans (MM_def sm_126 (Nat.le_of_ble_eq_true rfl)) ?_
  change zB P 126 0 [(2, ((a0 : Nat) : Int)), (0, a1), (0, a2)] [] d = _
  refine Eq.trans (x1 (h := 0) hT rfl rfl (by decide)) ?_
  refine Eq.trans (x34 (as := [(0, a1)]) (st' := []) (h := 1) hT rfl sm_45 rfl) ?_
  refine xbd (fun q1 => ?_)
  rw [rv_45]
  change zB P 126 2 [(2, ((a0 : Nat) : Int)), (0, a1), (0, a2)] [(0, q1.1)] q1.2 = _
  refine Eq.trans (x16_0 (h := 2) hT rfl) ?_
  refine xit (fun _ => ?_) (fun _ => ?_)
  · refine Eq.trans (x0 (h := 15) hT rfl) ?_
    exact x203c (h := 16) hT rfl (by decide)
  · refine Eq.trans (x1 (h := 3) hT rfl rfl (by decide)) ?_
    refine Eq.trans (x16_2 (h := 4) hT rfl) ?_
    refine xit (fun _ => ?_) (fun _ => ?_)
    · refine Eq.trans (x0 (h := 15) hT rfl) ?_
      exact x203c (h := 16) hT rfl (by decide)
    · refine Eq.trans (x1 (h := 5) hT rfl rfl (by decide)) ?_
      refine Eq.trans (x1 (h := 6) hT rfl rfl (by decide)) ?_
      refine Eq.trans (x21r (r := a0) (cl := 11) (o := 3) (h := 7) hT rfl ha0 (by decide) rfl) ?_
      refine Eq.trans (x21r (r := (a0 + 3)) (cl := 9) (o := 1) (h := 8) hT rfl (kd_11_1 ha0) (by decide) rfl) ?_
      refine Eq.trans (x21r (r := ((a0 + 3) + 1)) (cl := 0) (o := 1) (h := 9) hT rfl (kd_9_0 (kd_11_1 ha0)) (by decide) rfl) ?_
      refine Eq.trans (x1 (h := 10) hT rfl rfl (by decide)) ?_
      refine Eq.trans (x24 (r := (((a0 + 3) + 1) + 1)) (n := 2) (h := 11) hT rfl (Or.inl (kd_0_0 (kd_9_0 (kd_11_1 ha0)))) (ln_0_0 (kd_9_0 (kd_11_1 ha0)))) ?_
      refine xig (fun hz2 => ?_)
      refine Eq.trans (x17_3 (h := 12) hT rfl) ?_
      refine xit (fun _ => ?_) (fun _ => ?_)
      · refine Eq.trans (x0 (h := 15) hT rfl) ?_
        exact x203c (h := 16) hT rfl (by decide)
      · refine Eq.trans (x0 (h := 13) hT rfl) ?_
        refine Eq.trans (x18 (h := 14) hT rfl) ?_
        exact x203c (h := 16) hT rfl (by decide)
/-! WordLinks.lettersOf(J)I -/
set_option maxRecDepth 100000 in
theorem e_127 {P : zP} {d : zD P} {a0 : Int} : MM P 127 [(1, a0)] d = zB P 127 2 [(1, a0), (3, 0), (0, 0)] [] d := by
  have hT := cT_127
  refine Eq.trans (MM_def sm_127 (Nat.le_of_ble_eq_true rfl)) ?_
  change zB P 127 0 [(1, a0), (3, 0), (3, 0)] [] d = _
  refine Eq.trans (x0 (h := 0) hT rfl) ?_
  refine Eq.trans (x2 (ls' := [(1, a0), (3, 0), (0, 0)]) (h := 1) hT rfl (Nat.le_of_ble_eq_true rfl) rfl) ?_
  exact rfl
set_option maxRecDepth 100000 in
theorem q_127_2 {P : zP} {d : zD P} {a0 : Int} {g1 : zV} {a2 : Int} : zB P 127 2 [(1, a0), g1, (0, a2)] [] d = (if wr 7 ≤ wr a2 then some (a2, d) else ((MM P 47 [(1, a0), (0, a2)] d).bind fun q1 => (if wr q1.1 = 0 then some (a2, q1.2) else zB P 127 2 [(1, a0), (if (g1).1 = 1 then (3, 0) else g1), (0, (a2 + 1))] [] q1.2))) := by
  have hT := cT_127
  refine Eq.trans (x1 (h := 2) hT rfl rfl (by decide)) ?_
  refine Eq.trans (x0 (h := 3) hT rfl) ?_
  refine Eq.trans (x17_3 (h := 4) hT rfl) ?_
  refine xit (fun _ => ?_) (fun _ => ?_)
  · refine Eq.trans (x1 (h := 11) hT rfl rfl (by decide)) ?_
    exact x201 (h := 12) hT rfl
  · refine Eq.trans (x1 (h := 5) hT rfl rfl (by decide)) ?_
    refine Eq.trans (x1 (h := 6) hT rfl rfl (by decide)) ?_
    refine Eq.trans (x34 (as := [(1, a0), (0, a2)]) (st' := []) (h := 7) hT rfl sm_47 rfl) ?_
    refine xbd (fun q1 => ?_)
    rw [rv_47]
    change zB P 127 8 [(1, a0), g1, (0, a2)] [(0, q1.1)] q1.2 = _
    refine Eq.trans (x16_0 (h := 8) hT rfl) ?_
    refine xit (fun _ => ?_) (fun _ => ?_)
    · refine Eq.trans (x1 (h := 11) hT rfl rfl (by decide)) ?_
      exact x201 (h := 12) hT rfl
    · refine Eq.trans (x4 (ls' := [(1, a0), (if (g1).1 = 1 then (3, 0) else g1), (0, (a2 + 1))]) (h := 9) hT rfl rfl rfl) ?_
      refine Eq.trans (x18 (h := 10) hT rfl) ?_
      exact rfl
/-! WordLinks.near(II)I -/
set_option maxRecDepth 100000 in
theorem e_128 {P : zP} {d : zD P} {a0 : Nat} {a1 : Int} {a2 : Int} (ha0 : zkd a0 = 11) : MM P 128 [(2, ((a0 : Nat) : Int)), (0, a1), (0, a2)] d = ((MM P 45 [(0, a1)] d).bind fun q1 => (if wr q1.1 = 0 then some ((-1), q1.2) else (if wr a2 < 0 then some ((-1), q1.2) else (if wr 8 ≤ wr a2 then some ((-1), q1.2) else (if zin a1 2 then (if zin a2 8 then some ((q1.2.m ((((a0 + 3) + 25) + (1 + zix a1))) (zix a2)), q1.2) else none) else none))))) := by
  have hT := cT_128
  refine Eq.trans (MM_def sm_128 (Nat.le_of_ble_eq_true rfl)) ?_
  change zB P 128 0 [(2, ((a0 : Nat) : Int)), (0, a1), (0, a2)] [] d = _
  refine Eq.trans (x1 (h := 0) hT rfl rfl (by decide)) ?_
  refine Eq.trans (x34 (as := [(0, a1)]) (st' := []) (h := 1) hT rfl sm_45 rfl) ?_
  refine xbd (fun q1 => ?_)
  rw [rv_45]
  change zB P 128 2 [(2, ((a0 : Nat) : Int)), (0, a1), (0, a2)] [(0, q1.1)] q1.2 = _
  refine Eq.trans (x16_0 (h := 2) hT rfl) ?_
  refine xit (fun _ => ?_) (fun _ => ?_)
  · refine Eq.trans (x0 (h := 16) hT rfl) ?_
    exact x201 (h := 17) hT rfl
  · refine Eq.trans (x1 (h := 3) hT rfl rfl (by decide)) ?_
    refine Eq.trans (x16_2 (h := 4) hT rfl) ?_
    refine xit (fun _ => ?_) (fun _ => ?_)
    · refine Eq.trans (x0 (h := 16) hT rfl) ?_
      exact x201 (h := 17) hT rfl
    · refine Eq.trans (x1 (h := 5) hT rfl rfl (by decide)) ?_
      refine Eq.trans (x0 (h := 6) hT rfl) ?_
      refine Eq.trans (x17_3 (h := 7) hT rfl) ?_
      refine xit (fun _ => ?_) (fun _ => ?_)
      · refine Eq.trans (x0 (h := 16) hT rfl) ?_
        exact x201 (h := 17) hT rfl
      · refine Eq.trans (x1 (h := 8) hT rfl rfl (by decide)) ?_
        refine Eq.trans (x21r (r := a0) (cl := 11) (o := 3) (h := 9) hT rfl ha0 (by decide) rfl) ?_
        refine Eq.trans (x21r (r := (a0 + 3)) (cl := 9) (o := 25) (h := 10) hT rfl (kd_11_1 ha0) (by decide) rfl) ?_
        refine Eq.trans (x1 (h := 11) hT rfl rfl (by decide)) ?_
        refine Eq.trans (x24r (r := ((a0 + 3) + 25)) (n := 2) (h := 12) hT rfl (kd_9_4 (kd_11_1 ha0)) (ln_9_4 (kd_11_1 ha0)) (by decide)) ?_
        refine xig (fun hz2 => ?_)
        refine Eq.trans (x1 (h := 13) hT rfl rfl (by decide)) ?_
        refine Eq.trans (x24 (r := (((a0 + 3) + 25) + (1 + zix a1))) (n := 8) (h := 14) hT rfl (Or.inl (kq_9_4 (kd_11_1 ha0) (zix_lt hz2))) (lq_9_4 (kd_11_1 ha0) (zix_lt hz2))) ?_
        refine xig (fun hz3 => ?_)
        refine Eq.trans (x18 (h := 15) hT rfl) ?_
        exact x201 (h := 17) hT rfl
/-! WordLinks.placesOfLetter(JI)I -/
set_option maxRecDepth 100000 in
theorem e_129 {P : zP} {d : zD P} {a0 : Int} {a2 : Int} : MM P 129 [(1, a0), (0, a2)] d = zB P 129 4 [(1, a0), (3, 0), (0, a2), (0, 0), (0, 0)] [] d := by
  have hT := cT_129
  refine Eq.trans (MM_def sm_129 (Nat.le_of_ble_eq_true rfl)) ?_
  change zB P 129 0 [(1, a0), (3, 0), (0, a2), (3, 0), (3, 0)] [] d = _
  refine Eq.trans (x0 (h := 0) hT rfl) ?_
  refine Eq.trans (x2 (ls' := [(1, a0), (3, 0), (0, a2), (0, 0), (3, 0)]) (h := 1) hT rfl (Nat.le_of_ble_eq_true rfl) rfl) ?_
  refine Eq.trans (x0 (h := 2) hT rfl) ?_
  refine Eq.trans (x2 (ls' := [(1, a0), (3, 0), (0, a2), (0, 0), (0, 0)]) (h := 3) hT rfl (Nat.le_of_ble_eq_true rfl) rfl) ?_
  exact rfl
set_option maxRecDepth 100000 in
theorem q_129_4 {P : zP} {d : zD P} {a0 : Int} {g1 : zV} {a2 : Int} {a3 : Int} {a4 : Int} : zB P 129 4 [(1, a0), g1, (0, a2), (0, a3), (0, a4)] [] d = (if wr 7 ≤ wr a4 then some (a3, d) else ((MM P 47 [(1, a0), (0, a4)] d).bind fun q1 => (if wr q1.1 ≠ wr a2 then zB P 129 4 [(1, a0), g1, (0, a2), (0, a3), (0, (a4 + 1))] [] q1.2 else zB P 129 4 [(1, a0), g1, (0, a2), (0, (zbin 4 a3 ((zbin 6 1 a4)))), (0, (a4 + 1))] [] q1.2))) := by
  have hT := cT_129
  refine Eq.trans (x1 (h := 4) hT rfl rfl (by decide)) ?_
  refine Eq.trans (x0 (h := 5) hT rfl) ?_
  refine Eq.trans (x17_3 (h := 6) hT rfl) ?_
  refine xit (fun _ => ?_) (fun _ => ?_)
  · refine Eq.trans (x1 (h := 20) hT rfl rfl (by decide)) ?_
    exact x201 (h := 21) hT rfl
  · refine Eq.trans (x1 (h := 7) hT rfl rfl (by decide)) ?_
    refine Eq.trans (x1 (h := 8) hT rfl rfl (by decide)) ?_
    refine Eq.trans (x34 (as := [(1, a0), (0, a4)]) (st' := []) (h := 9) hT rfl sm_47 rfl) ?_
    refine xbd (fun q1 => ?_)
    rw [rv_47]
    change zB P 129 10 [(1, a0), g1, (0, a2), (0, a3), (0, a4)] [(0, q1.1)] q1.2 = _
    refine Eq.trans (x1 (h := 10) hT rfl rfl (by decide)) ?_
    refine Eq.trans (x17_1 (h := 11) hT rfl) ?_
    refine xit (fun _ => ?_) (fun _ => ?_)
    · refine Eq.trans (x4 (ls' := [(1, a0), g1, (0, a2), (0, a3), (0, (a4 + 1))]) (h := 18) hT rfl rfl rfl) ?_
      refine Eq.trans (x18 (h := 19) hT rfl) ?_
      exact rfl
    · refine Eq.trans (x1 (h := 12) hT rfl rfl (by decide)) ?_
      refine Eq.trans (x0 (h := 13) hT rfl) ?_
      refine Eq.trans (x1 (h := 14) hT rfl rfl (by decide)) ?_
      refine Eq.trans (x5n (h := 15) hT rfl) ?_
      refine Eq.trans (x5n (h := 16) hT rfl) ?_
      refine Eq.trans (x2 (ls' := [(1, a0), g1, (0, a2), (0, (zbin 4 a3 ((zbin 6 1 a4)))), (0, a4)]) (h := 17) hT rfl (Nat.le_of_ble_eq_true rfl) rfl) ?_
      refine Eq.trans (x4 (ls' := [(1, a0), g1, (0, a2), (0, (zbin 4 a3 ((zbin 6 1 a4)))), (0, (a4 + 1))]) (h := 18) hT rfl rfl rfl) ?_
      refine Eq.trans (x18 (h := 19) hT rfl) ?_
      exact rfl
/-! WordLinks.side(II)I -/
set_option maxRecDepth 100000 in
theorem e_130 {P : zP} {d : zD P} {a0 : Nat} {a1 : Int} {a2 : Int} (ha0 : zkd a0 = 11) : MM P 130 [(2, ((a0 : Nat) : Int)), (0, a1), (0, a2)] d = ((MM P 45 [(0, a1)] d).bind fun q1 => (if wr q1.1 = 0 then some ((-1), q1.2) else (if wr a2 < 0 then some ((-1), q1.2) else (if wr a2 ≤ wr 1 then (if wr a2 ≠ 0 then ((MM P 0 [(2, ((((a0 + 3) + 1) : Nat) : Int)), (0, a1)] q1.2).bind fun q2 => some (q2.1, q2.2)) else (if zin a1 2 then some ((q1.2.m ((((a0 + 3) + 1) + 1)) (zix a1)), q1.2) else none)) else some ((-1), q1.2))))) := by
  have hT := cT_130
  refine Eq.trans (MM_def sm_130 (Nat.le_of_ble_eq_true rfl)) ?_
  change zB P 130 0 [(2, ((a0 : Nat) : Int)), (0, a1), (0, a2)] [] d = _
  refine Eq.trans (x1 (h := 0) hT rfl rfl (by decide)) ?_
  refine Eq.trans (x34 (as := [(0, a1)]) (st' := []) (h := 1) hT rfl sm_45 rfl) ?_
  refine xbd (fun q1 => ?_)
  rw [rv_45]
  change zB P 130 2 [(2, ((a0 : Nat) : Int)), (0, a1), (0, a2)] [(0, q1.1)] q1.2 = _
  refine Eq.trans (x16_0 (h := 2) hT rfl) ?_
  refine xit (fun _ => ?_) (fun _ => ?_)
  · refine Eq.trans (x0 (h := 8) hT rfl) ?_
    exact x201 (h := 9) hT rfl
  · refine Eq.trans (x1 (h := 3) hT rfl rfl (by decide)) ?_
    refine Eq.trans (x16_2 (h := 4) hT rfl) ?_
    refine xit (fun _ => ?_) (fun _ => ?_)
    · refine Eq.trans (x0 (h := 8) hT rfl) ?_
      exact x201 (h := 9) hT rfl
    · refine Eq.trans (x1 (h := 5) hT rfl rfl (by decide)) ?_
      refine Eq.trans (x0 (h := 6) hT rfl) ?_
      refine Eq.trans (x17_5 (h := 7) hT rfl) ?_
      refine xit (fun _ => ?_) (fun _ => ?_)
      · refine Eq.trans (x1 (h := 10) hT rfl rfl (by decide)) ?_
        refine Eq.trans (x16_1 (h := 11) hT rfl) ?_
        refine xit (fun _ => ?_) (fun _ => ?_)
        · refine Eq.trans (x1 (h := 19) hT rfl rfl (by decide)) ?_
          refine Eq.trans (x21r (r := a0) (cl := 11) (o := 3) (h := 20) hT rfl ha0 (by decide) rfl) ?_
          refine Eq.trans (x21r (r := (a0 + 3)) (cl := 9) (o := 1) (h := 21) hT rfl (kd_11_1 ha0) (by decide) rfl) ?_
          refine Eq.trans (x1 (h := 22) hT rfl rfl (by decide)) ?_
          refine Eq.trans (x31 (r := ((a0 + 3) + 1)) (cl := 0) (as := [(0, a1)]) (st' := []) (h := 23) hT rfl sm_0 rfl (kd_9_0 (kd_11_1 ha0))) ?_
          refine xbd (fun q2 => ?_)
          rw [rv_0]
          change zB P 130 24 [(2, ((a0 : Nat) : Int)), (0, a1), (0, a2)] [(0, q2.1)] q2.2 = _
          exact x201 (h := 24) hT rfl
        · refine Eq.trans (x1 (h := 12) hT rfl rfl (by decide)) ?_
          refine Eq.trans (x21r (r := a0) (cl := 11) (o := 3) (h := 13) hT rfl ha0 (by decide) rfl) ?_
          refine Eq.trans (x21r (r := (a0 + 3)) (cl := 9) (o := 1) (h := 14) hT rfl (kd_11_1 ha0) (by decide) rfl) ?_
          refine Eq.trans (x21r (r := ((a0 + 3) + 1)) (cl := 0) (o := 1) (h := 15) hT rfl (kd_9_0 (kd_11_1 ha0)) (by decide) rfl) ?_
          refine Eq.trans (x1 (h := 16) hT rfl rfl (by decide)) ?_
          refine Eq.trans (x24 (r := (((a0 + 3) + 1) + 1)) (n := 2) (h := 17) hT rfl (Or.inl (kd_0_0 (kd_9_0 (kd_11_1 ha0)))) (ln_0_0 (kd_9_0 (kd_11_1 ha0)))) ?_
          refine xig (fun hz3 => ?_)
          refine Eq.trans (x18 (h := 18) hT rfl) ?_
          exact x201 (h := 24) hT rfl
      · refine Eq.trans (x0 (h := 8) hT rfl) ?_
        exact x201 (h := 9) hT rfl
/-! WordLinksModel.addsBare(I)V -/
set_option maxRecDepth 100000 in
theorem e_131 {P : zP} {d : zD P} {a0 : Nat} {a1 : Int} (ha0 : zkd a0 = 12) : MM P 131 [(2, ((a0 : Nat) : Int)), (0, a1)] d = zB P 131 2 [(2, ((a0 : Nat) : Int)), (0, a1), (0, 0), (3, 0)] [] d := by
  have hT := cT_131
  refine Eq.trans (MM_def sm_131 (Nat.le_of_ble_eq_true rfl)) ?_
  change zB P 131 0 [(2, ((a0 : Nat) : Int)), (0, a1), (3, 0), (3, 0)] [] d = _
  refine Eq.trans (x0 (h := 0) hT rfl) ?_
  refine Eq.trans (x2 (ls' := [(2, ((a0 : Nat) : Int)), (0, a1), (0, 0), (3, 0)]) (h := 1) hT rfl (Nat.le_of_ble_eq_true rfl) rfl) ?_
  exact rfl
set_option maxRecDepth 100000 in
theorem q_131_2 {P : zP} {d : zD P} {a0 : Nat} {a1 : Int} {a2 : Int} {g3 : zV} (ha0 : zkd a0 = 12) : zB P 131 2 [(2, ((a0 : Nat) : Int)), (0, a1), (0, a2), g3] [] d = ((MM P 60 [(2, ((a0 : Nat) : Int)), (0, a1), (0, 0)] d).bind fun q1 => (if wr q1.1 ≤ wr a2 then some (0, q1.2) else zB P 131 10 [(2, ((a0 : Nat) : Int)), (0, a1), (0, a2), (0, 0)] [] q1.2)) := by
  have hT := cT_131
  refine Eq.trans (x1 (h := 2) hT rfl rfl (by decide)) ?_
  refine Eq.trans (x1 (h := 3) hT rfl rfl (by decide)) ?_
  refine Eq.trans (x1 (h := 4) hT rfl rfl (by decide)) ?_
  refine Eq.trans (x0 (h := 5) hT rfl) ?_
  refine Eq.trans (x31 (r := a0) (cl := 12) (as := [(0, a1), (0, 0)]) (st' := [(0, a2)]) (h := 6) hT rfl sm_60 rfl ha0) ?_
  refine xbd (fun q1 => ?_)
  rw [rv_60]
  change zB P 131 7 [(2, ((a0 : Nat) : Int)), (0, a1), (0, a2), g3] [(0, q1.1), (0, a2)] q1.2 = _
  refine Eq.trans (x17_3 (h := 7) hT rfl) ?_
  refine xit (fun _ => ?_) (fun _ => ?_)
  · exact x20 (h := 44) hT rfl
  · refine Eq.trans (x0 (h := 8) hT rfl) ?_
    refine Eq.trans (x2 (ls' := [(2, ((a0 : Nat) : Int)), (0, a1), (0, a2), (0, 0)]) (h := 9) hT rfl (Nat.le_of_ble_eq_true rfl) rfl) ?_
    exact rfl
set_option maxRecDepth 100000 in
theorem q_131_10 {P : zP} {d : zD P} {a0 : Nat} {a1 : Int} {a2 : Int} {a3 : Int} (ha0 : zkd a0 = 12) : zB P 131 10 [(2, ((a0 : Nat) : Int)), (0, a1), (0, a2), (0, a3)] [] d = ((MM P 60 [(2, ((a0 : Nat) : Int)), (0, a1), (0, 1)] d).bind fun q2 => (if wr q2.1 ≤ wr a3 then zB P 131 2 [(2, ((a0 : Nat) : Int)), (0, a1), (0, (a2 + 1)), (0, a3)] [] q2.2 else (if zin a2 6 then ((MM P 53 [(0, (q2.2.m ((a0 + 18)) (zix a2))), (0, a3)] q2.2).bind fun q4 => (if wr q4.1 = 0 then zB P 131 10 [(2, ((a0 : Nat) : Int)), (0, a1), (0, a2), (0, (a3 + 1))] [] q4.2 else (if zin a2 6 then (if wr ((q4.2.m ((a0 + 17)) (zix a2))) ≠ 0 then zB P 131 10 [(2, ((a0 : Nat) : Int)), (0, a1), (0, a2), (0, (a3 + 1))] [] q4.2 else ((MM P 59 [(2, ((a0 : Nat) : Int))] q4.2).bind fun q6 => ((MM P 53 [(0, q6.1), (0, a3)] q6.2).bind fun q7 => (if wr q7.1 ≠ 0 then zB P 131 10 [(2, ((a0 : Nat) : Int)), (0, a1), (0, a2), (0, (a3 + 1))] [] q7.2 else (if zin a2 6 then zB P 131 10 [(2, ((a0 : Nat) : Int)), (0, a1), (0, a2), (0, (a3 + 1))] [] ((q7.2.up ((a0 + 17)) (zix a2) ((zbin 6 1 a3)))) else none))))) else none))) else none))) := by
  have hT := cT_131
  refine Eq.trans (x1 (h := 10) hT rfl rfl (by decide)) ?_
  refine Eq.trans (x1 (h := 11) hT rfl rfl (by decide)) ?_
  refine Eq.trans (x1 (h := 12) hT rfl rfl (by decide)) ?_
  refine Eq.trans (x0 (h := 13) hT rfl) ?_
  refine Eq.trans (x31 (r := a0) (cl := 12) (as := [(0, a1), (0, 1)]) (st' := [(0, a3)]) (h := 14) hT rfl sm_60 rfl ha0) ?_
  refine xbd (fun q2 => ?_)
  rw [rv_60]
  change zB P 131 15 [(2, ((a0 : Nat) : Int)), (0, a1), (0, a2), (0, a3)] [(0, q2.1), (0, a3)] q2.2 = _
  refine Eq.trans (x17_3 (h := 15) hT rfl) ?_
  refine xit (fun _ => ?_) (fun _ => ?_)
  · refine Eq.trans (x4 (ls' := [(2, ((a0 : Nat) : Int)), (0, a1), (0, (a2 + 1)), (0, a3)]) (h := 42) hT rfl rfl rfl) ?_
    refine Eq.trans (x18 (h := 43) hT rfl) ?_
    exact rfl
  · refine Eq.trans (x1 (h := 16) hT rfl rfl (by decide)) ?_
    refine Eq.trans (x21r (r := a0) (cl := 12) (o := 18) (h := 17) hT rfl ha0 (by decide) rfl) ?_
    refine Eq.trans (x1 (h := 18) hT rfl rfl (by decide)) ?_
    refine Eq.trans (x24 (r := (a0 + 18)) (n := 6) (h := 19) hT rfl (Or.inl (kd_12_25 ha0)) (ln_12_25 ha0)) ?_
    refine xig (fun hz3 => ?_)
    refine Eq.trans (x1 (h := 20) hT rfl rfl (by decide)) ?_
    refine Eq.trans (x34 (as := [(0, (q2.2.m ((a0 + 18)) (zix a2))), (0, a3)]) (st' := []) (h := 21) hT rfl sm_53 rfl) ?_
    refine xbd (fun q4 => ?_)
    rw [rv_53]
    change zB P 131 22 [(2, ((a0 : Nat) : Int)), (0, a1), (0, a2), (0, a3)] [(0, q4.1)] q4.2 = _
    refine Eq.trans (x16_0 (h := 22) hT rfl) ?_
    refine xit (fun _ => ?_) (fun _ => ?_)
    · refine Eq.trans (x4 (ls' := [(2, ((a0 : Nat) : Int)), (0, a1), (0, a2), (0, (a3 + 1))]) (h := 40) hT rfl rfl rfl) ?_
      refine Eq.trans (x18 (h := 41) hT rfl) ?_
      exact rfl
    · refine Eq.trans (x1 (h := 23) hT rfl rfl (by decide)) ?_
      refine Eq.trans (x21r (r := a0) (cl := 12) (o := 17) (h := 24) hT rfl ha0 (by decide) rfl) ?_
      refine Eq.trans (x1 (h := 25) hT rfl rfl (by decide)) ?_
      refine Eq.trans (x24 (r := (a0 + 17)) (n := 6) (h := 26) hT rfl (Or.inl (kd_12_24 ha0)) (ln_12_24 ha0)) ?_
      refine xig (fun hz5 => ?_)
      refine Eq.trans (x16_1 (h := 27) hT rfl) ?_
      refine xit (fun _ => ?_) (fun _ => ?_)
      · refine Eq.trans (x4 (ls' := [(2, ((a0 : Nat) : Int)), (0, a1), (0, a2), (0, (a3 + 1))]) (h := 40) hT rfl rfl rfl) ?_
        refine Eq.trans (x18 (h := 41) hT rfl) ?_
        exact rfl
      · refine Eq.trans (x1 (h := 28) hT rfl rfl (by decide)) ?_
        refine Eq.trans (x31 (r := a0) (cl := 12) (as := []) (st' := []) (h := 29) hT rfl sm_59 rfl ha0) ?_
        refine xbd (fun q6 => ?_)
        rw [rv_59]
        change zB P 131 30 [(2, ((a0 : Nat) : Int)), (0, a1), (0, a2), (0, a3)] [(0, q6.1)] q6.2 = _
        refine Eq.trans (x1 (h := 30) hT rfl rfl (by decide)) ?_
        refine Eq.trans (x34 (as := [(0, q6.1), (0, a3)]) (st' := []) (h := 31) hT rfl sm_53 rfl) ?_
        refine xbd (fun q7 => ?_)
        rw [rv_53]
        change zB P 131 32 [(2, ((a0 : Nat) : Int)), (0, a1), (0, a2), (0, a3)] [(0, q7.1)] q7.2 = _
        refine Eq.trans (x16_1 (h := 32) hT rfl) ?_
        refine xit (fun _ => ?_) (fun _ => ?_)
        · refine Eq.trans (x4 (ls' := [(2, ((a0 : Nat) : Int)), (0, a1), (0, a2), (0, (a3 + 1))]) (h := 40) hT rfl rfl rfl) ?_
          refine Eq.trans (x18 (h := 41) hT rfl) ?_
          exact rfl
        · refine Eq.trans (x1 (h := 33) hT rfl rfl (by decide)) ?_
          refine Eq.trans (x21r (r := a0) (cl := 12) (o := 17) (h := 34) hT rfl ha0 (by decide) rfl) ?_
          refine Eq.trans (x1 (h := 35) hT rfl rfl (by decide)) ?_
          refine Eq.trans (x0 (h := 36) hT rfl) ?_
          refine Eq.trans (x1 (h := 37) hT rfl rfl (by decide)) ?_
          refine Eq.trans (x5n (h := 38) hT rfl) ?_
          refine Eq.trans (x25a (r := (a0 + 17)) (n := 6) (h := 39) hT rfl (kd_12_24 ha0) (ln_12_24 ha0) (by decide) rfl) ?_
          refine xig (fun hz8 => ?_)
          refine Eq.trans (x4 (ls' := [(2, ((a0 : Nat) : Int)), (0, a1), (0, a2), (0, (a3 + 1))]) (h := 40) hT rfl rfl rfl) ?_
          refine Eq.trans (x18 (h := 41) hT rfl) ?_
          exact rfl
/-! WordLinksModel.apart(III)I -/
set_option maxRecDepth 100000 in
theorem e_132 {P : zP} {d : zD P} {a0 : Nat} {a1 : Int} {a2 : Int} {a3 : Int} (ha0 : zkd a0 = 12) : MM P 132 [(2, ((a0 : Nat) : Int)), (0, a1), (0, a2), (0, a3)] d = ((MM P 60 [(2, ((a0 : Nat) : Int)), (0, a1), (0, 1)] d).bind fun q1 => ((MM P 60 [(2, ((a0 : Nat) : Int)), (0, a1), (0, 0)] q1.2).bind fun q2 => ((MM P 72 [(0, ((a2 * q1.1) - (a3 * q2.1)))] q2.2).bind fun q3 => some (q3.1, q3.2)))) := by
  have hT := cT_132
  refine Eq.trans (MM_def sm_132 (Nat.le_of_ble_eq_true rfl)) ?_
  change zB P 132 0 [(2, ((a0 : Nat) : Int)), (0, a1), (0, a2), (0, a3)] [] d = _
  refine Eq.trans (x1 (h := 0) hT rfl rfl (by decide)) ?_
  refine Eq.trans (x1 (h := 1) hT rfl rfl (by decide)) ?_
  refine Eq.trans (x1 (h := 2) hT rfl rfl (by decide)) ?_
  refine Eq.trans (x0 (h := 3) hT rfl) ?_
  refine Eq.trans (x31 (r := a0) (cl := 12) (as := [(0, a1), (0, 1)]) (st' := [(0, a2)]) (h := 4) hT rfl sm_60 rfl ha0) ?_
  refine xbd (fun q1 => ?_)
  rw [rv_60]
  change zB P 132 5 [(2, ((a0 : Nat) : Int)), (0, a1), (0, a2), (0, a3)] [(0, q1.1), (0, a2)] q1.2 = _
  refine Eq.trans (x5_2 (h := 5) hT rfl) ?_
  refine Eq.trans (x1 (h := 6) hT rfl rfl (by decide)) ?_
  refine Eq.trans (x1 (h := 7) hT rfl rfl (by decide)) ?_
  refine Eq.trans (x1 (h := 8) hT rfl rfl (by decide)) ?_
  refine Eq.trans (x0 (h := 9) hT rfl) ?_
  refine Eq.trans (x31 (r := a0) (cl := 12) (as := [(0, a1), (0, 0)]) (st' := [(0, a3), (0, (a2 * q1.1))]) (h := 10) hT rfl sm_60 rfl ha0) ?_
  refine xbd (fun q2 => ?_)
  rw [rv_60]
  change zB P 132 11 [(2, ((a0 : Nat) : Int)), (0, a1), (0, a2), (0, a3)] [(0, q2.1), (0, a3), (0, (a2 * q1.1))] q2.2 = _
  refine Eq.trans (x5_2 (h := 11) hT rfl) ?_
  refine Eq.trans (x5_1 (h := 12) hT rfl) ?_
  refine Eq.trans (x34 (as := [(0, ((a2 * q1.1) - (a3 * q2.1)))]) (st' := []) (h := 13) hT rfl sm_72 rfl) ?_
  refine xbd (fun q3 => ?_)
  rw [rv_72]
  change zB P 132 14 [(2, ((a0 : Nat) : Int)), (0, a1), (0, a2), (0, a3)] [(0, q3.1)] q3.2 = _
  exact x201 (h := 14) hT rfl
/-! WordLinksModel.bare(I)I -/
set_option maxRecDepth 100000 in
theorem e_133 {P : zP} {d : zD P} {a0 : Nat} {a1 : Int} (ha0 : zkd a0 = 12) : MM P 133 [(2, ((a0 : Nat) : Int)), (0, a1)] d = zB P 133 4 [(2, ((a0 : Nat) : Int)), (0, a1), (0, 0), (0, 0)] [] d := by
  have hT := cT_133
  refine Eq.trans (MM_def sm_133 (Nat.le_of_ble_eq_true rfl)) ?_
  change zB P 133 0 [(2, ((a0 : Nat) : Int)), (0, a1), (3, 0), (3, 0)] [] d = _
  refine Eq.trans (x0 (h := 0) hT rfl) ?_
  refine Eq.trans (x2 (ls' := [(2, ((a0 : Nat) : Int)), (0, a1), (0, 0), (3, 0)]) (h := 1) hT rfl (Nat.le_of_ble_eq_true rfl) rfl) ?_
  refine Eq.trans (x0 (h := 2) hT rfl) ?_
  refine Eq.trans (x2 (ls' := [(2, ((a0 : Nat) : Int)), (0, a1), (0, 0), (0, 0)]) (h := 3) hT rfl (Nat.le_of_ble_eq_true rfl) rfl) ?_
  exact rfl
set_option maxRecDepth 100000 in
theorem q_133_4 {P : zP} {d : zD P} {a0 : Nat} {a1 : Int} {a2 : Int} {a3 : Int} (ha0 : zkd a0 = 12) : zB P 133 4 [(2, ((a0 : Nat) : Int)), (0, a1), (0, a2), (0, a3)] [] d = ((MM P 60 [(2, ((a0 : Nat) : Int)), (0, a1), (0, 0)] d).bind fun q1 => (if wr q1.1 ≤ wr a3 then some (a2, q1.2) else (if zin a3 6 then (if wr ((q1.2.m ((a0 + 17)) (zix a3))) ≠ 0 then zB P 133 4 [(2, ((a0 : Nat) : Int)), (0, a1), (0, a2), (0, (a3 + 1))] [] q1.2 else zB P 133 4 [(2, ((a0 : Nat) : Int)), (0, a1), (0, (zbin 4 a2 ((zbin 6 1 a3)))), (0, (a3 + 1))] [] q1.2) else none))) := by
  have hT := cT_133
  refine Eq.trans (x1 (h := 4) hT rfl rfl (by decide)) ?_
  refine Eq.trans (x1 (h := 5) hT rfl rfl (by decide)) ?_
  refine Eq.trans (x1 (h := 6) hT rfl rfl (by decide)) ?_
  refine Eq.trans (x0 (h := 7) hT rfl) ?_
  refine Eq.trans (x31 (r := a0) (cl := 12) (as := [(0, a1), (0, 0)]) (st' := [(0, a3)]) (h := 8) hT rfl sm_60 rfl ha0) ?_
  refine xbd (fun q1 => ?_)
  rw [rv_60]
  change zB P 133 9 [(2, ((a0 : Nat) : Int)), (0, a1), (0, a2), (0, a3)] [(0, q1.1), (0, a3)] q1.2 = _
  refine Eq.trans (x17_3 (h := 9) hT rfl) ?_
  refine xit (fun _ => ?_) (fun _ => ?_)
  · refine Eq.trans (x1 (h := 23) hT rfl rfl (by decide)) ?_
    exact x201 (h := 24) hT rfl
  · refine Eq.trans (x1 (h := 10) hT rfl rfl (by decide)) ?_
    refine Eq.trans (x21r (r := a0) (cl := 12) (o := 17) (h := 11) hT rfl ha0 (by decide) rfl) ?_
    refine Eq.trans (x1 (h := 12) hT rfl rfl (by decide)) ?_
    refine Eq.trans (x24 (r := (a0 + 17)) (n := 6) (h := 13) hT rfl (Or.inl (kd_12_24 ha0)) (ln_12_24 ha0)) ?_
    refine xig (fun hz2 => ?_)
    refine Eq.trans (x16_1 (h := 14) hT rfl) ?_
    refine xit (fun _ => ?_) (fun _ => ?_)
    · refine Eq.trans (x4 (ls' := [(2, ((a0 : Nat) : Int)), (0, a1), (0, a2), (0, (a3 + 1))]) (h := 21) hT rfl rfl rfl) ?_
      refine Eq.trans (x18 (h := 22) hT rfl) ?_
      exact rfl
    · refine Eq.trans (x1 (h := 15) hT rfl rfl (by decide)) ?_
      refine Eq.trans (x0 (h := 16) hT rfl) ?_
      refine Eq.trans (x1 (h := 17) hT rfl rfl (by decide)) ?_
      refine Eq.trans (x5n (h := 18) hT rfl) ?_
      refine Eq.trans (x5n (h := 19) hT rfl) ?_
      refine Eq.trans (x2 (ls' := [(2, ((a0 : Nat) : Int)), (0, a1), (0, (zbin 4 a2 ((zbin 6 1 a3)))), (0, a3)]) (h := 20) hT rfl (Nat.le_of_ble_eq_true rfl) rfl) ?_
      refine Eq.trans (x4 (ls' := [(2, ((a0 : Nat) : Int)), (0, a1), (0, (zbin 4 a2 ((zbin 6 1 a3)))), (0, (a3 + 1))]) (h := 21) hT rfl rfl rfl) ?_
      refine Eq.trans (x18 (h := 22) hT rfl) ?_
      exact rfl
/-! WordLinksModel.boxesWith(I)I -/
set_option maxRecDepth 100000 in
theorem e_134 {P : zP} {d : zD P} {a0 : Nat} {a1 : Int} (ha0 : zkd a0 = 12) : MM P 134 [(2, ((a0 : Nat) : Int)), (0, a1)] d = zB P 134 4 [(2, ((a0 : Nat) : Int)), (0, a1), (0, 0), (0, 0)] [] d := by
  have hT := cT_134
  refine Eq.trans (MM_def sm_134 (Nat.le_of_ble_eq_true rfl)) ?_
  change zB P 134 0 [(2, ((a0 : Nat) : Int)), (0, a1), (3, 0), (3, 0)] [] d = _
  refine Eq.trans (x0 (h := 0) hT rfl) ?_
  refine Eq.trans (x2 (ls' := [(2, ((a0 : Nat) : Int)), (0, a1), (0, 0), (3, 0)]) (h := 1) hT rfl (Nat.le_of_ble_eq_true rfl) rfl) ?_
  refine Eq.trans (x0 (h := 2) hT rfl) ?_
  refine Eq.trans (x2 (ls' := [(2, ((a0 : Nat) : Int)), (0, a1), (0, 0), (0, 0)]) (h := 3) hT rfl (Nat.le_of_ble_eq_true rfl) rfl) ?_
  exact rfl
set_option maxRecDepth 100000 in
theorem q_134_4 {P : zP} {d : zD P} {a0 : Nat} {a1 : Int} {a2 : Int} {a3 : Int} (ha0 : zkd a0 = 12) : zB P 134 4 [(2, ((a0 : Nat) : Int)), (0, a1), (0, a2), (0, a3)] [] d = (if wr ((d.m a0 30)) ≤ wr a3 then some (a2, d) else ((MM P 69 [(2, ((a0 : Nat) : Int)), (0, a3), (0, 0)] d).bind fun q1 => (if wr q1.1 ≠ wr a1 then zB P 134 4 [(2, ((a0 : Nat) : Int)), (0, a1), (0, a2), (0, (a3 + 1))] [] q1.2 else (if zin a3 5400 then zB P 134 4 [(2, ((a0 : Nat) : Int)), (0, a1), (0, (a2 + (q1.2.m ((a0 + 22)) (zix a3)))), (0, (a3 + 1))] [] q1.2 else none)))) := by
  have hT := cT_134
  refine Eq.trans (x1 (h := 4) hT rfl rfl (by decide)) ?_
  refine Eq.trans (x1 (h := 5) hT rfl rfl (by decide)) ?_
  refine Eq.trans (x21 (r := a0) (cl := 12) (h := 6) hT rfl ha0) ?_
  refine Eq.trans (x17_3 (h := 7) hT rfl) ?_
  refine xit (fun _ => ?_) (fun _ => ?_)
  · refine Eq.trans (x1 (h := 23) hT rfl rfl (by decide)) ?_
    exact x201 (h := 24) hT rfl
  · refine Eq.trans (x1 (h := 8) hT rfl rfl (by decide)) ?_
    refine Eq.trans (x1 (h := 9) hT rfl rfl (by decide)) ?_
    refine Eq.trans (x0 (h := 10) hT rfl) ?_
    refine Eq.trans (x31 (r := a0) (cl := 12) (as := [(0, a3), (0, 0)]) (st' := []) (h := 11) hT rfl sm_69 rfl ha0) ?_
    refine xbd (fun q1 => ?_)
    rw [rv_69]
    change zB P 134 12 [(2, ((a0 : Nat) : Int)), (0, a1), (0, a2), (0, a3)] [(0, q1.1)] q1.2 = _
    refine Eq.trans (x1 (h := 12) hT rfl rfl (by decide)) ?_
    refine Eq.trans (x17_1 (h := 13) hT rfl) ?_
    refine xit (fun _ => ?_) (fun _ => ?_)
    · refine Eq.trans (x4 (ls' := [(2, ((a0 : Nat) : Int)), (0, a1), (0, a2), (0, (a3 + 1))]) (h := 21) hT rfl rfl rfl) ?_
      refine Eq.trans (x18 (h := 22) hT rfl) ?_
      exact rfl
    · refine Eq.trans (x1 (h := 14) hT rfl rfl (by decide)) ?_
      refine Eq.trans (x1 (h := 15) hT rfl rfl (by decide)) ?_
      refine Eq.trans (x21r (r := a0) (cl := 12) (o := 22) (h := 16) hT rfl ha0 (by decide) rfl) ?_
      refine Eq.trans (x1 (h := 17) hT rfl rfl (by decide)) ?_
      refine Eq.trans (x24 (r := (a0 + 22)) (n := 5400) (h := 18) hT rfl (Or.inl (kd_12_29 ha0)) (ln_12_29 ha0)) ?_
      refine xig (fun hz2 => ?_)
      refine Eq.trans (x5_0 (h := 19) hT rfl) ?_
      refine Eq.trans (x2 (ls' := [(2, ((a0 : Nat) : Int)), (0, a1), (0, (a2 + (q1.2.m ((a0 + 22)) (zix a3)))), (0, a3)]) (h := 20) hT rfl (Nat.le_of_ble_eq_true rfl) rfl) ?_
      refine Eq.trans (x4 (ls' := [(2, ((a0 : Nat) : Int)), (0, a1), (0, (a2 + (q1.2.m ((a0 + 22)) (zix a3)))), (0, (a3 + 1))]) (h := 21) hT rfl rfl rfl) ?_
      refine Eq.trans (x18 (h := 22) hT rfl) ?_
      exact rfl
/-! WordLinksModel.crossed()I -/
set_option maxRecDepth 100000 in
theorem e_135 {P : zP} {d : zD P} {a0 : Nat} (ha0 : zkd a0 = 12) : MM P 135 [(2, ((a0 : Nat) : Int))] d = zB P 135 4 [(2, ((a0 : Nat) : Int)), (0, 0), (0, 0), (3, 0), (3, 0)] [] d := by
  have hT := cT_135
  refine Eq.trans (MM_def sm_135 (Nat.le_of_ble_eq_true rfl)) ?_
  change zB P 135 0 [(2, ((a0 : Nat) : Int)), (3, 0), (3, 0), (3, 0), (3, 0)] [] d = _
  refine Eq.trans (x0 (h := 0) hT rfl) ?_
  refine Eq.trans (x2 (ls' := [(2, ((a0 : Nat) : Int)), (0, 0), (3, 0), (3, 0), (3, 0)]) (h := 1) hT rfl (Nat.le_of_ble_eq_true rfl) rfl) ?_
  refine Eq.trans (x0 (h := 2) hT rfl) ?_
  refine Eq.trans (x2 (ls' := [(2, ((a0 : Nat) : Int)), (0, 0), (0, 0), (3, 0), (3, 0)]) (h := 3) hT rfl (Nat.le_of_ble_eq_true rfl) rfl) ?_
  exact rfl
set_option maxRecDepth 100000 in
theorem q_135_4 {P : zP} {d : zD P} {a0 : Nat} {a1 : Int} {a2 : Int} {g3 : zV} {g4 : zV} (ha0 : zkd a0 = 12) : zB P 135 4 [(2, ((a0 : Nat) : Int)), (0, a1), (0, a2), g3, g4] [] d = (if wr 6 ≤ wr a2 then some (a1, d) else zB P 135 11 [(2, ((a0 : Nat) : Int)), (0, a1), (0, a2), (0, (a2 + 1)), g4] [] d) := by
  have hT := cT_135
  refine Eq.trans (x1 (h := 4) hT rfl rfl (by decide)) ?_
  refine Eq.trans (x0 (h := 5) hT rfl) ?_
  refine Eq.trans (x17_3 (h := 6) hT rfl) ?_
  refine xit (fun _ => ?_) (fun _ => ?_)
  · refine Eq.trans (x1 (h := 46) hT rfl rfl (by decide)) ?_
    exact x201 (h := 47) hT rfl
  · refine Eq.trans (x1 (h := 7) hT rfl rfl (by decide)) ?_
    refine Eq.trans (x0 (h := 8) hT rfl) ?_
    refine Eq.trans (x5_0 (h := 9) hT rfl) ?_
    refine Eq.trans (x2 (ls' := [(2, ((a0 : Nat) : Int)), (0, a1), (0, a2), (0, (a2 + 1)), g4]) (h := 10) hT rfl (Nat.le_of_ble_eq_true rfl) rfl) ?_
    exact rfl
set_option maxRecDepth 100000 in
theorem q_135_11 {P : zP} {d : zD P} {a0 : Nat} {a1 : Int} {a2 : Int} {a3 : Int} {g4 : zV} (ha0 : zkd a0 = 12) : zB P 135 11 [(2, ((a0 : Nat) : Int)), (0, a1), (0, a2), (0, a3), g4] [] d = (if wr 6 ≤ wr a3 then zB P 135 4 [(2, ((a0 : Nat) : Int)), (0, a1), (0, (a2 + 1)), (0, a3), g4] [] d else zB P 135 16 [(2, ((a0 : Nat) : Int)), (0, a1), (0, a2), (0, a3), (0, 0)] [] d) := by
  have hT := cT_135
  refine Eq.trans (x1 (h := 11) hT rfl rfl (by decide)) ?_
  refine Eq.trans (x0 (h := 12) hT rfl) ?_
  refine Eq.trans (x17_3 (h := 13) hT rfl) ?_
  refine xit (fun _ => ?_) (fun _ => ?_)
  · refine Eq.trans (x4 (ls' := [(2, ((a0 : Nat) : Int)), (0, a1), (0, (a2 + 1)), (0, a3), g4]) (h := 44) hT rfl rfl rfl) ?_
    refine Eq.trans (x18 (h := 45) hT rfl) ?_
    exact rfl
  · refine Eq.trans (x0 (h := 14) hT rfl) ?_
    refine Eq.trans (x2 (ls' := [(2, ((a0 : Nat) : Int)), (0, a1), (0, a2), (0, a3), (0, 0)]) (h := 15) hT rfl (Nat.le_of_ble_eq_true rfl) rfl) ?_
    exact rfl
set_option maxRecDepth 100000 in
theorem q_135_16 {P : zP} {d : zD P} {a0 : Nat} {a1 : Int} {a2 : Int} {a3 : Int} {a4 : Int} (ha0 : zkd a0 = 12) : zB P 135 16 [(2, ((a0 : Nat) : Int)), (0, a1), (0, a2), (0, a3), (0, a4)] [] d = (if wr 6 ≤ wr a4 then zB P 135 11 [(2, ((a0 : Nat) : Int)), (0, a1), (0, a2), (0, (a3 + 1)), (0, a4)] [] d else (if zin a2 6 then ((MM P 53 [(0, (d.m ((a0 + 17)) (zix a2))), (0, a4)] d).bind fun q2 => (if wr q2.1 = 0 then zB P 135 16 [(2, ((a0 : Nat) : Int)), (0, a1), (0, a2), (0, a3), (0, (a4 + 1))] [] q2.2 else (if zin a3 6 then ((MM P 73 [(0, (zbin 3 ((q2.2.m ((a0 + 17)) (zix a3))) (((zbin 6 1 a4) - 1))))] q2.2).bind fun q4 => zB P 135 16 [(2, ((a0 : Nat) : Int)), (0, (a1 + q4.1)), (0, a2), (0, a3), (0, (a4 + 1))] [] q4.2) else none))) else none)) := by
  have hT := cT_135
  refine Eq.trans (x1 (h := 16) hT rfl rfl (by decide)) ?_
  refine Eq.trans (x0 (h := 17) hT rfl) ?_
  refine Eq.trans (x17_3 (h := 18) hT rfl) ?_
  refine xit (fun _ => ?_) (fun _ => ?_)
  · refine Eq.trans (x4 (ls' := [(2, ((a0 : Nat) : Int)), (0, a1), (0, a2), (0, (a3 + 1)), (0, a4)]) (h := 42) hT rfl rfl rfl) ?_
    refine Eq.trans (x18 (h := 43) hT rfl) ?_
    exact rfl
  · refine Eq.trans (x1 (h := 19) hT rfl rfl (by decide)) ?_
    refine Eq.trans (x21r (r := a0) (cl := 12) (o := 17) (h := 20) hT rfl ha0 (by decide) rfl) ?_
    refine Eq.trans (x1 (h := 21) hT rfl rfl (by decide)) ?_
    refine Eq.trans (x24 (r := (a0 + 17)) (n := 6) (h := 22) hT rfl (Or.inl (kd_12_24 ha0)) (ln_12_24 ha0)) ?_
    refine xig (fun hz1 => ?_)
    refine Eq.trans (x1 (h := 23) hT rfl rfl (by decide)) ?_
    refine Eq.trans (x34 (as := [(0, (d.m ((a0 + 17)) (zix a2))), (0, a4)]) (st' := []) (h := 24) hT rfl sm_53 rfl) ?_
    refine xbd (fun q2 => ?_)
    rw [rv_53]
    change zB P 135 25 [(2, ((a0 : Nat) : Int)), (0, a1), (0, a2), (0, a3), (0, a4)] [(0, q2.1)] q2.2 = _
    refine Eq.trans (x16_0 (h := 25) hT rfl) ?_
    refine xit (fun _ => ?_) (fun _ => ?_)
    · refine Eq.trans (x4 (ls' := [(2, ((a0 : Nat) : Int)), (0, a1), (0, a2), (0, a3), (0, (a4 + 1))]) (h := 40) hT rfl rfl rfl) ?_
      refine Eq.trans (x18 (h := 41) hT rfl) ?_
      exact rfl
    · refine Eq.trans (x1 (h := 26) hT rfl rfl (by decide)) ?_
      refine Eq.trans (x1 (h := 27) hT rfl rfl (by decide)) ?_
      refine Eq.trans (x21r (r := a0) (cl := 12) (o := 17) (h := 28) hT rfl ha0 (by decide) rfl) ?_
      refine Eq.trans (x1 (h := 29) hT rfl rfl (by decide)) ?_
      refine Eq.trans (x24 (r := (a0 + 17)) (n := 6) (h := 30) hT rfl (Or.inl (kd_12_24 ha0)) (ln_12_24 ha0)) ?_
      refine xig (fun hz3 => ?_)
      refine Eq.trans (x0 (h := 31) hT rfl) ?_
      refine Eq.trans (x1 (h := 32) hT rfl rfl (by decide)) ?_
      refine Eq.trans (x5n (h := 33) hT rfl) ?_
      refine Eq.trans (x0 (h := 34) hT rfl) ?_
      refine Eq.trans (x5_1 (h := 35) hT rfl) ?_
      refine Eq.trans (x5n (h := 36) hT rfl) ?_
      refine Eq.trans (x34 (as := [(0, (zbin 3 ((q2.2.m ((a0 + 17)) (zix a3))) (((zbin 6 1 a4) - 1))))]) (st' := [(0, a1)]) (h := 37) hT rfl sm_73 rfl) ?_
      refine xbd (fun q4 => ?_)
      rw [rv_73]
      change zB P 135 38 [(2, ((a0 : Nat) : Int)), (0, a1), (0, a2), (0, a3), (0, a4)] [(0, q4.1), (0, a1)] q4.2 = _
      refine Eq.trans (x5_0 (h := 38) hT rfl) ?_
      refine Eq.trans (x2 (ls' := [(2, ((a0 : Nat) : Int)), (0, (a1 + q4.1)), (0, a2), (0, a3), (0, a4)]) (h := 39) hT rfl (Nat.le_of_ble_eq_true rfl) rfl) ?_
      refine Eq.trans (x4 (ls' := [(2, ((a0 : Nat) : Int)), (0, (a1 + q4.1)), (0, a2), (0, a3), (0, (a4 + 1))]) (h := 40) hT rfl rfl rfl) ?_
      refine Eq.trans (x18 (h := 41) hT rfl) ?_
      exact rfl
/-! WordLinksModel.feed(IIIII)I -/
set_option maxRecDepth 100000 in
theorem e_136 {P : zP} {d : zD P} {a0 : Nat} {a1 : Int} {a2 : Int} {a3 : Int} {a4 : Int} {a5 : Int} (ha0 : zkd a0 = 12) : MM P 136 [(2, ((a0 : Nat) : Int)), (0, a1), (0, a2), (0, a3), (0, a4), (0, a5)] d = (if wr (((d.m a0 3) + 20)) ≤ wr 240 then ((MM P 78 [(2, ((a0 : Nat) : Int)), (0, a1)] d).bind fun q1 => ((MM P 78 [(2, ((a0 : Nat) : Int)), (0, a2)] q1.2).bind fun q2 => ((MM P 78 [(2, ((a0 : Nat) : Int)), (0, a3)] q2.2).bind fun q3 => ((MM P 78 [(2, ((a0 : Nat) : Int)), (0, a4)] q3.2).bind fun q4 => ((MM P 78 [(2, ((a0 : Nat) : Int)), (0, a5)] q4.2).bind fun q5 => some ((q5.2.m a0 3), q5.2)))))) else some ((-1), d)) := by
  have hT := cT_136
  refine Eq.trans (MM_def sm_136 (Nat.le_of_ble_eq_true rfl)) ?_
  change zB P 136 0 [(2, ((a0 : Nat) : Int)), (0, a1), (0, a2), (0, a3), (0, a4), (0, a5)] [] d = _
  refine Eq.trans (x1 (h := 0) hT rfl rfl (by decide)) ?_
  refine Eq.trans (x21 (r := a0) (cl := 12) (h := 1) hT rfl ha0) ?_
  refine Eq.trans (x0 (h := 2) hT rfl) ?_
  refine Eq.trans (x5_0 (h := 3) hT rfl) ?_
  refine Eq.trans (x0 (h := 4) hT rfl) ?_
  refine Eq.trans (x17_5 (h := 5) hT rfl) ?_
  refine xit (fun _ => ?_) (fun _ => ?_)
  · refine Eq.trans (x1 (h := 8) hT rfl rfl (by decide)) ?_
    refine Eq.trans (x1 (h := 9) hT rfl rfl (by decide)) ?_
    refine Eq.trans (x31 (r := a0) (cl := 12) (as := [(0, a1)]) (st' := []) (h := 10) hT rfl sm_78 rfl ha0) ?_
    refine xbd (fun q1 => ?_)
    rw [rv_78]
    change zB P 136 11 [(2, ((a0 : Nat) : Int)), (0, a1), (0, a2), (0, a3), (0, a4), (0, a5)] [] q1.2 = _
    refine Eq.trans (x1 (h := 11) hT rfl rfl (by decide)) ?_
    refine Eq.trans (x1 (h := 12) hT rfl rfl (by decide)) ?_
    refine Eq.trans (x31 (r := a0) (cl := 12) (as := [(0, a2)]) (st' := []) (h := 13) hT rfl sm_78 rfl ha0) ?_
    refine xbd (fun q2 => ?_)
    rw [rv_78]
    change zB P 136 14 [(2, ((a0 : Nat) : Int)), (0, a1), (0, a2), (0, a3), (0, a4), (0, a5)] [] q2.2 = _
    refine Eq.trans (x1 (h := 14) hT rfl rfl (by decide)) ?_
    refine Eq.trans (x1 (h := 15) hT rfl rfl (by decide)) ?_
    refine Eq.trans (x31 (r := a0) (cl := 12) (as := [(0, a3)]) (st' := []) (h := 16) hT rfl sm_78 rfl ha0) ?_
    refine xbd (fun q3 => ?_)
    rw [rv_78]
    change zB P 136 17 [(2, ((a0 : Nat) : Int)), (0, a1), (0, a2), (0, a3), (0, a4), (0, a5)] [] q3.2 = _
    refine Eq.trans (x1 (h := 17) hT rfl rfl (by decide)) ?_
    refine Eq.trans (x1 (h := 18) hT rfl rfl (by decide)) ?_
    refine Eq.trans (x31 (r := a0) (cl := 12) (as := [(0, a4)]) (st' := []) (h := 19) hT rfl sm_78 rfl ha0) ?_
    refine xbd (fun q4 => ?_)
    rw [rv_78]
    change zB P 136 20 [(2, ((a0 : Nat) : Int)), (0, a1), (0, a2), (0, a3), (0, a4), (0, a5)] [] q4.2 = _
    refine Eq.trans (x1 (h := 20) hT rfl rfl (by decide)) ?_
    refine Eq.trans (x1 (h := 21) hT rfl rfl (by decide)) ?_
    refine Eq.trans (x31 (r := a0) (cl := 12) (as := [(0, a5)]) (st' := []) (h := 22) hT rfl sm_78 rfl ha0) ?_
    refine xbd (fun q5 => ?_)
    rw [rv_78]
    change zB P 136 23 [(2, ((a0 : Nat) : Int)), (0, a1), (0, a2), (0, a3), (0, a4), (0, a5)] [] q5.2 = _
    refine Eq.trans (x1 (h := 23) hT rfl rfl (by decide)) ?_
    refine Eq.trans (x21 (r := a0) (cl := 12) (h := 24) hT rfl ha0) ?_
    exact x201 (h := 25) hT rfl
  · refine Eq.trans (x0 (h := 6) hT rfl) ?_
    exact x201 (h := 7) hT rfl
/-! WordLinksModel.fitOf(II)J -/
set_option maxRecDepth 100000 in
theorem e_137 {P : zP} {d : zD P} {a0 : Nat} {a1 : Int} {a2 : Int} (ha0 : zkd a0 = 12) : MM P 137 [(2, ((a0 : Nat) : Int)), (0, a1), (0, a2)] d = zB P 137 4 [(2, ((a0 : Nat) : Int)), (0, a1), (0, a2), (1, 0), (3, 0), (0, 0), (3, 0)] [] d := by
  have hT := cT_137
  refine Eq.trans (MM_def sm_137 (Nat.le_of_ble_eq_true rfl)) ?_
  change zB P 137 0 [(2, ((a0 : Nat) : Int)), (0, a1), (0, a2), (3, 0), (3, 0), (3, 0), (3, 0)] [] d = _
  refine Eq.trans (x0 (h := 0) hT rfl) ?_
  refine Eq.trans (x3 (ls' := [(2, ((a0 : Nat) : Int)), (0, a1), (0, a2), (1, 0), (3, 0), (3, 0), (3, 0)]) (h := 1) hT rfl (Nat.le_of_ble_eq_true rfl) rfl) ?_
  refine Eq.trans (x0 (h := 2) hT rfl) ?_
  refine Eq.trans (x2 (ls' := [(2, ((a0 : Nat) : Int)), (0, a1), (0, a2), (1, 0), (3, 0), (0, 0), (3, 0)]) (h := 3) hT rfl (Nat.le_of_ble_eq_true rfl) rfl) ?_
  exact rfl
set_option maxRecDepth 100000 in
theorem q_137_4 {P : zP} {d : zD P} {a0 : Nat} {a1 : Int} {a2 : Int} {a3 : Int} {g4 : zV} {a5 : Int} {g6 : zV} (ha0 : zkd a0 = 12) : zB P 137 4 [(2, ((a0 : Nat) : Int)), (0, a1), (0, a2), (1, a3), g4, (0, a5), g6] [] d = ((MM P 60 [(2, ((a0 : Nat) : Int)), (0, a2), (0, a1)] d).bind fun q1 => (if wr q1.1 ≤ wr a5 then some (a3, q1.2) else zB P 137 12 [(2, ((a0 : Nat) : Int)), (0, a1), (0, a2), (1, a3), g4, (0, a5), (0, 0)] [] q1.2)) := by
  have hT := cT_137
  refine Eq.trans (x1 (h := 4) hT rfl rfl (by decide)) ?_
  refine Eq.trans (x1 (h := 5) hT rfl rfl (by decide)) ?_
  refine Eq.trans (x1 (h := 6) hT rfl rfl (by decide)) ?_
  refine Eq.trans (x1 (h := 7) hT rfl rfl (by decide)) ?_
  refine Eq.trans (x31 (r := a0) (cl := 12) (as := [(0, a2), (0, a1)]) (st' := [(0, a5)]) (h := 8) hT rfl sm_60 rfl ha0) ?_
  refine xbd (fun q1 => ?_)
  rw [rv_60]
  change zB P 137 9 [(2, ((a0 : Nat) : Int)), (0, a1), (0, a2), (1, a3), g4, (0, a5), g6] [(0, q1.1), (0, a5)] q1.2 = _
  refine Eq.trans (x17_3 (h := 9) hT rfl) ?_
  refine xit (fun _ => ?_) (fun _ => ?_)
  · refine Eq.trans (x1 (h := 43) hT rfl rfl (by decide)) ?_
    exact x202 (h := 44) hT rfl
  · refine Eq.trans (x0 (h := 10) hT rfl) ?_
    refine Eq.trans (x2 (ls' := [(2, ((a0 : Nat) : Int)), (0, a1), (0, a2), (1, a3), g4, (0, a5), (0, 0)]) (h := 11) hT rfl (Nat.le_of_ble_eq_true rfl) rfl) ?_
    exact rfl
set_option maxRecDepth 100000 in
theorem q_137_12 {P : zP} {d : zD P} {a0 : Nat} {a1 : Int} {a2 : Int} {a3 : Int} {g4 : zV} {a5 : Int} {a6 : Int} (ha0 : zkd a0 = 12) : zB P 137 12 [(2, ((a0 : Nat) : Int)), (0, a1), (0, a2), (1, a3), g4, (0, a5), (0, a6)] [] d = ((MM P 60 [(2, ((a0 : Nat) : Int)), (0, a2), (0, (1 - a1))] d).bind fun q2 => (if wr q2.1 ≤ wr a6 then zB P 137 4 [(2, ((a0 : Nat) : Int)), (0, a1), (0, a2), (1, a3), (if (g4).1 = 1 then (3, 0) else g4), (0, (a5 + 1)), (0, a6)] [] q2.2 else ((MM P 80 [(2, ((a0 : Nat) : Int)), (0, a2), (0, a1), (0, a5)] q2.2).bind fun q3 => ((MM P 80 [(2, ((a0 : Nat) : Int)), (0, a2), (0, (1 - a1)), (0, a6)] q3.2).bind fun q4 => ((MM P 71 [(2, ((a0 : Nat) : Int)), (0, a1), (0, q3.1), (0, q4.1)] q4.2).bind fun q5 => zB P 137 12 [(2, ((a0 : Nat) : Int)), (0, a1), (0, a2), (1, (a3 + (wr q5.1))), (3, 0), (0, a5), (0, (a6 + 1))] [] q5.2))))) := by
  have hT := cT_137
  refine Eq.trans (x1 (h := 12) hT rfl rfl (by decide)) ?_
  refine Eq.trans (x1 (h := 13) hT rfl rfl (by decide)) ?_
  refine Eq.trans (x1 (h := 14) hT rfl rfl (by decide)) ?_
  refine Eq.trans (x0 (h := 15) hT rfl) ?_
  refine Eq.trans (x1 (h := 16) hT rfl rfl (by decide)) ?_
  refine Eq.trans (x5_1 (h := 17) hT rfl) ?_
  refine Eq.trans (x31 (r := a0) (cl := 12) (as := [(0, a2), (0, (1 - a1))]) (st' := [(0, a6)]) (h := 18) hT rfl sm_60 rfl ha0) ?_
  refine xbd (fun q2 => ?_)
  rw [rv_60]
  change zB P 137 19 [(2, ((a0 : Nat) : Int)), (0, a1), (0, a2), (1, a3), g4, (0, a5), (0, a6)] [(0, q2.1), (0, a6)] q2.2 = _
  refine Eq.trans (x17_3 (h := 19) hT rfl) ?_
  refine xit (fun _ => ?_) (fun _ => ?_)
  · refine Eq.trans (x4 (ls' := [(2, ((a0 : Nat) : Int)), (0, a1), (0, a2), (1, a3), (if (g4).1 = 1 then (3, 0) else g4), (0, (a5 + 1)), (0, a6)]) (h := 41) hT rfl rfl rfl) ?_
    refine Eq.trans (x18 (h := 42) hT rfl) ?_
    exact rfl
  · refine Eq.trans (x1 (h := 20) hT rfl rfl (by decide)) ?_
    refine Eq.trans (x1 (h := 21) hT rfl rfl (by decide)) ?_
    refine Eq.trans (x1 (h := 22) hT rfl rfl (by decide)) ?_
    refine Eq.trans (x1 (h := 23) hT rfl rfl (by decide)) ?_
    refine Eq.trans (x1 (h := 24) hT rfl rfl (by decide)) ?_
    refine Eq.trans (x1 (h := 25) hT rfl rfl (by decide)) ?_
    refine Eq.trans (x1 (h := 26) hT rfl rfl (by decide)) ?_
    refine Eq.trans (x31 (r := a0) (cl := 12) (as := [(0, a2), (0, a1), (0, a5)]) (st' := [(0, a1), (2, ((a0 : Nat) : Int)), (1, a3)]) (h := 27) hT rfl sm_80 rfl ha0) ?_
    refine xbd (fun q3 => ?_)
    rw [rv_80]
    change zB P 137 28 [(2, ((a0 : Nat) : Int)), (0, a1), (0, a2), (1, a3), g4, (0, a5), (0, a6)] [(0, q3.1), (0, a1), (2, ((a0 : Nat) : Int)), (1, a3)] q3.2 = _
    refine Eq.trans (x1 (h := 28) hT rfl rfl (by decide)) ?_
    refine Eq.trans (x1 (h := 29) hT rfl rfl (by decide)) ?_
    refine Eq.trans (x0 (h := 30) hT rfl) ?_
    refine Eq.trans (x1 (h := 31) hT rfl rfl (by decide)) ?_
    refine Eq.trans (x5_1 (h := 32) hT rfl) ?_
    refine Eq.trans (x1 (h := 33) hT rfl rfl (by decide)) ?_
    refine Eq.trans (x31 (r := a0) (cl := 12) (as := [(0, a2), (0, (1 - a1)), (0, a6)]) (st' := [(0, q3.1), (0, a1), (2, ((a0 : Nat) : Int)), (1, a3)]) (h := 34) hT rfl sm_80 rfl ha0) ?_
    refine xbd (fun q4 => ?_)
    rw [rv_80]
    change zB P 137 35 [(2, ((a0 : Nat) : Int)), (0, a1), (0, a2), (1, a3), g4, (0, a5), (0, a6)] [(0, q4.1), (0, q3.1), (0, a1), (2, ((a0 : Nat) : Int)), (1, a3)] q4.2 = _
    refine Eq.trans (x31 (r := a0) (cl := 12) (as := [(0, a1), (0, q3.1), (0, q4.1)]) (st' := [(1, a3)]) (h := 35) hT rfl sm_71 rfl ha0) ?_
    refine xbd (fun q5 => ?_)
    rw [rv_71]
    change zB P 137 36 [(2, ((a0 : Nat) : Int)), (0, a1), (0, a2), (1, a3), g4, (0, a5), (0, a6)] [(0, q5.1), (1, a3)] q5.2 = _
    refine Eq.trans (x12 (h := 36) hT rfl) ?_
    refine Eq.trans (x8_0 (h := 37) hT rfl) ?_
    refine Eq.trans (x3 (ls' := [(2, ((a0 : Nat) : Int)), (0, a1), (0, a2), (1, (a3 + (wr q5.1))), (3, 0), (0, a5), (0, a6)]) (h := 38) hT rfl (Nat.le_of_ble_eq_true rfl) rfl) ?_
    refine Eq.trans (x4 (ls' := [(2, ((a0 : Nat) : Int)), (0, a1), (0, a2), (1, (a3 + (wr q5.1))), (3, 0), (0, a5), (0, (a6 + 1))]) (h := 39) hT rfl rfl rfl) ?_
    refine Eq.trans (x18 (h := 40) hT rfl) ?_
    exact rfl
/-! WordLinksModel.goAcross(IIIIIIZ)I -/
set_option maxRecDepth 100000 in
theorem e_138 {P : zP} {d : zD P} {a0 : Nat} {a1 : Int} {a2 : Int} {a3 : Int} {a4 : Int} {a5 : Int} {a6 : Int} {a7 : Int} (ha0 : zkd a0 = 12) : MM P 138 [(2, ((a0 : Nat) : Int)), (0, a1), (0, a2), (0, a3), (0, a4), (0, a5), (0, a6), (0, a7)] d = ((MM P 75 [(0, a3), (0, (a6 - 1))] d).bind fun q1 => ((MM P 75 [(0, a6), (0, a4)] q1.2).bind fun q2 => zB P 138 14 [(2, ((a0 : Nat) : Int)), (0, a1), (0, a2), (0, a3), (0, a4), (0, a5), (0, a6), (0, a7), (0, q1.1), (0, q2.1), (0, 0), (0, a1)] [] q2.2)) := by
  have hT := cT_138
  refine Eq.trans (MM_def sm_138 (Nat.le_of_ble_eq_true rfl)) ?_
  change zB P 138 0 [(2, ((a0 : Nat) : Int)), (0, a1), (0, a2), (0, a3), (0, a4), (0, a5), (0, a6), (0, a7), (3, 0), (3, 0), (3, 0), (3, 0)] [] d = _
  refine Eq.trans (x1 (h := 0) hT rfl rfl (by decide)) ?_
  refine Eq.trans (x1 (h := 1) hT rfl rfl (by decide)) ?_
  refine Eq.trans (x0 (h := 2) hT rfl) ?_
  refine Eq.trans (x5_1 (h := 3) hT rfl) ?_
  refine Eq.trans (x34 (as := [(0, a3), (0, (a6 - 1))]) (st' := []) (h := 4) hT rfl sm_75 rfl) ?_
  refine xbd (fun q1 => ?_)
  rw [rv_75]
  change zB P 138 5 [(2, ((a0 : Nat) : Int)), (0, a1), (0, a2), (0, a3), (0, a4), (0, a5), (0, a6), (0, a7), (3, 0), (3, 0), (3, 0), (3, 0)] [(0, q1.1)] q1.2 = _
  refine Eq.trans (x2 (ls' := [(2, ((a0 : Nat) : Int)), (0, a1), (0, a2), (0, a3), (0, a4), (0, a5), (0, a6), (0, a7), (0, q1.1), (3, 0), (3, 0), (3, 0)]) (h := 5) hT rfl (Nat.le_of_ble_eq_true rfl) rfl) ?_
  refine Eq.trans (x1 (h := 6) hT rfl rfl (by decide)) ?_
  refine Eq.trans (x1 (h := 7) hT rfl rfl (by decide)) ?_
  refine Eq.trans (x34 (as := [(0, a6), (0, a4)]) (st' := []) (h := 8) hT rfl sm_75 rfl) ?_
  refine xbd (fun q2 => ?_)
  rw [rv_75]
  change zB P 138 9 [(2, ((a0 : Nat) : Int)), (0, a1), (0, a2), (0, a3), (0, a4), (0, a5), (0, a6), (0, a7), (0, q1.1), (3, 0), (3, 0), (3, 0)] [(0, q2.1)] q2.2 = _
  refine Eq.trans (x2 (ls' := [(2, ((a0 : Nat) : Int)), (0, a1), (0, a2), (0, a3), (0, a4), (0, a5), (0, a6), (0, a7), (0, q1.1), (0, q2.1), (3, 0), (3, 0)]) (h := 9) hT rfl (Nat.le_of_ble_eq_true rfl) rfl) ?_
  refine Eq.trans (x0 (h := 10) hT rfl) ?_
  refine Eq.trans (x2 (ls' := [(2, ((a0 : Nat) : Int)), (0, a1), (0, a2), (0, a3), (0, a4), (0, a5), (0, a6), (0, a7), (0, q1.1), (0, q2.1), (0, 0), (3, 0)]) (h := 11) hT rfl (Nat.le_of_ble_eq_true rfl) rfl) ?_
  refine Eq.trans (x1 (h := 12) hT rfl rfl (by decide)) ?_
  refine Eq.trans (x2 (ls' := [(2, ((a0 : Nat) : Int)), (0, a1), (0, a2), (0, a3), (0, a4), (0, a5), (0, a6), (0, a7), (0, q1.1), (0, q2.1), (0, 0), (0, a1)]) (h := 13) hT rfl (Nat.le_of_ble_eq_true rfl) rfl) ?_
  exact rfl
set_option maxRecDepth 100000 in
theorem q_138_14 {P : zP} {d : zD P} {a0 : Nat} {g1 : zV} {a2 : Int} {g3 : zV} {g4 : zV} {a5 : Int} {g6 : zV} {a7 : Int} {a8 : Int} {a9 : Int} {a10 : Int} {a11 : Int} (ha0 : zkd a0 = 12) : zB P 138 14 [(2, ((a0 : Nat) : Int)), g1, (0, a2), g3, g4, (0, a5), g6, (0, a7), (0, a8), (0, a9), (0, a10), (0, a11)] [] d = (if wr a2 < wr a11 then some (a10, d) else (if zin a11 6 then (if wr a5 ≤ wr a11 then (if wr 0 = wr a7 then ((MM P 73 [(0, (zbin 3 ((d.m ((a0 + 17)) (zix a11))) a8))] d).bind fun q4 => zB P 138 14 [(2, ((a0 : Nat) : Int)), g1, (0, a2), g3, g4, (0, a5), g6, (0, a7), (0, a8), (0, a9), (0, (a10 + q4.1)), (0, (a11 + 1))] [] q4.2) else ((MM P 73 [(0, (zbin 3 ((d.m ((a0 + 17)) (zix a11))) a9))] d).bind fun q5 => zB P 138 14 [(2, ((a0 : Nat) : Int)), g1, (0, a2), g3, g4, (0, a5), g6, (0, a7), (0, a8), (0, a9), (0, (a10 + q5.1)), (0, (a11 + 1))] [] q5.2)) else (if wr 1 = wr a7 then ((MM P 73 [(0, (zbin 3 ((d.m ((a0 + 17)) (zix a11))) a8))] d).bind fun q6 => zB P 138 14 [(2, ((a0 : Nat) : Int)), g1, (0, a2), g3, g4, (0, a5), g6, (0, a7), (0, a8), (0, a9), (0, (a10 + q6.1)), (0, (a11 + 1))] [] q6.2) else ((MM P 73 [(0, (zbin 3 ((d.m ((a0 + 17)) (zix a11))) a9))] d).bind fun q7 => zB P 138 14 [(2, ((a0 : Nat) : Int)), g1, (0, a2), g3, g4, (0, a5), g6, (0, a7), (0, a8), (0, a9), (0, (a10 + q7.1)), (0, (a11 + 1))] [] q7.2))) else none)) := by
  have hT := cT_138
  refine Eq.trans (x1 (h := 14) hT rfl rfl (by decide)) ?_
  refine Eq.trans (x1 (h := 15) hT rfl rfl (by decide)) ?_
  refine Eq.trans (x17_4 (h := 16) hT rfl) ?_
  refine xit (fun _ => ?_) (fun _ => ?_)
  · refine Eq.trans (x1 (h := 39) hT rfl rfl (by decide)) ?_
    exact x201 (h := 40) hT rfl
  · refine Eq.trans (x1 (h := 17) hT rfl rfl (by decide)) ?_
    refine Eq.trans (x1 (h := 18) hT rfl rfl (by decide)) ?_
    refine Eq.trans (x21r (r := a0) (cl := 12) (o := 17) (h := 19) hT rfl ha0 (by decide) rfl) ?_
    refine Eq.trans (x1 (h := 20) hT rfl rfl (by decide)) ?_
    refine Eq.trans (x24 (r := (a0 + 17)) (n := 6) (h := 21) hT rfl (Or.inl (kd_12_24 ha0)) (ln_12_24 ha0)) ?_
    refine xig (fun hz3 => ?_)
    refine Eq.trans (x1 (h := 22) hT rfl rfl (by decide)) ?_
    refine Eq.trans (x1 (h := 23) hT rfl rfl (by decide)) ?_
    refine Eq.trans (x17_3 (h := 24) hT rfl) ?_
    refine xit (fun _ => ?_) (fun _ => ?_)
    · refine Eq.trans (x0 (h := 27) hT rfl) ?_
      refine Eq.trans (x1 (h := 28) hT rfl rfl (by decide)) ?_
      refine Eq.trans (x17_0 (h := 29) hT rfl) ?_
      refine xit (fun _ => ?_) (fun _ => ?_)
      · refine Eq.trans (x1 (h := 32) hT rfl rfl (by decide)) ?_
        refine Eq.trans (x5n (h := 33) hT rfl) ?_
        refine Eq.trans (x34 (as := [(0, (zbin 3 ((d.m ((a0 + 17)) (zix a11))) a8))]) (st' := [(0, a10)]) (h := 34) hT rfl sm_73 rfl) ?_
        refine xbd (fun q4 => ?_)
        rw [rv_73]
        change zB P 138 35 [(2, ((a0 : Nat) : Int)), g1, (0, a2), g3, g4, (0, a5), g6, (0, a7), (0, a8), (0, a9), (0, a10), (0, a11)] [(0, q4.1), (0, a10)] q4.2 = _
        refine Eq.trans (x5_0 (h := 35) hT rfl) ?_
        refine Eq.trans (x2 (ls' := [(2, ((a0 : Nat) : Int)), g1, (0, a2), g3, g4, (0, a5), g6, (0, a7), (0, a8), (0, a9), (0, (a10 + q4.1)), (0, a11)]) (h := 36) hT rfl (Nat.le_of_ble_eq_true rfl) rfl) ?_
        refine Eq.trans (x4 (ls' := [(2, ((a0 : Nat) : Int)), g1, (0, a2), g3, g4, (0, a5), g6, (0, a7), (0, a8), (0, a9), (0, (a10 + q4.1)), (0, (a11 + 1))]) (h := 37) hT rfl rfl rfl) ?_
        refine Eq.trans (x18 (h := 38) hT rfl) ?_
        exact rfl
      · refine Eq.trans (x1 (h := 30) hT rfl rfl (by decide)) ?_
        refine Eq.trans (x18 (h := 31) hT rfl) ?_
        refine Eq.trans (x5n (h := 33) hT rfl) ?_
        refine Eq.trans (x34 (as := [(0, (zbin 3 ((d.m ((a0 + 17)) (zix a11))) a9))]) (st' := [(0, a10)]) (h := 34) hT rfl sm_73 rfl) ?_
        refine xbd (fun q5 => ?_)
        rw [rv_73]
        change zB P 138 35 [(2, ((a0 : Nat) : Int)), g1, (0, a2), g3, g4, (0, a5), g6, (0, a7), (0, a8), (0, a9), (0, a10), (0, a11)] [(0, q5.1), (0, a10)] q5.2 = _
        refine Eq.trans (x5_0 (h := 35) hT rfl) ?_
        refine Eq.trans (x2 (ls' := [(2, ((a0 : Nat) : Int)), g1, (0, a2), g3, g4, (0, a5), g6, (0, a7), (0, a8), (0, a9), (0, (a10 + q5.1)), (0, a11)]) (h := 36) hT rfl (Nat.le_of_ble_eq_true rfl) rfl) ?_
        refine Eq.trans (x4 (ls' := [(2, ((a0 : Nat) : Int)), g1, (0, a2), g3, g4, (0, a5), g6, (0, a7), (0, a8), (0, a9), (0, (a10 + q5.1)), (0, (a11 + 1))]) (h := 37) hT rfl rfl rfl) ?_
        refine Eq.trans (x18 (h := 38) hT rfl) ?_
        exact rfl
    · refine Eq.trans (x0 (h := 25) hT rfl) ?_
      refine Eq.trans (x18 (h := 26) hT rfl) ?_
      refine Eq.trans (x1 (h := 28) hT rfl rfl (by decide)) ?_
      refine Eq.trans (x17_0 (h := 29) hT rfl) ?_
      refine xit (fun _ => ?_) (fun _ => ?_)
      · refine Eq.trans (x1 (h := 32) hT rfl rfl (by decide)) ?_
        refine Eq.trans (x5n (h := 33) hT rfl) ?_
        refine Eq.trans (x34 (as := [(0, (zbin 3 ((d.m ((a0 + 17)) (zix a11))) a8))]) (st' := [(0, a10)]) (h := 34) hT rfl sm_73 rfl) ?_
        refine xbd (fun q6 => ?_)
        rw [rv_73]
        change zB P 138 35 [(2, ((a0 : Nat) : Int)), g1, (0, a2), g3, g4, (0, a5), g6, (0, a7), (0, a8), (0, a9), (0, a10), (0, a11)] [(0, q6.1), (0, a10)] q6.2 = _
        refine Eq.trans (x5_0 (h := 35) hT rfl) ?_
        refine Eq.trans (x2 (ls' := [(2, ((a0 : Nat) : Int)), g1, (0, a2), g3, g4, (0, a5), g6, (0, a7), (0, a8), (0, a9), (0, (a10 + q6.1)), (0, a11)]) (h := 36) hT rfl (Nat.le_of_ble_eq_true rfl) rfl) ?_
        refine Eq.trans (x4 (ls' := [(2, ((a0 : Nat) : Int)), g1, (0, a2), g3, g4, (0, a5), g6, (0, a7), (0, a8), (0, a9), (0, (a10 + q6.1)), (0, (a11 + 1))]) (h := 37) hT rfl rfl rfl) ?_
        refine Eq.trans (x18 (h := 38) hT rfl) ?_
        exact rfl
      · refine Eq.trans (x1 (h := 30) hT rfl rfl (by decide)) ?_
        refine Eq.trans (x18 (h := 31) hT rfl) ?_
        refine Eq.trans (x5n (h := 33) hT rfl) ?_
        refine Eq.trans (x34 (as := [(0, (zbin 3 ((d.m ((a0 + 17)) (zix a11))) a9))]) (st' := [(0, a10)]) (h := 34) hT rfl sm_73 rfl) ?_
        refine xbd (fun q7 => ?_)
        rw [rv_73]
        change zB P 138 35 [(2, ((a0 : Nat) : Int)), g1, (0, a2), g3, g4, (0, a5), g6, (0, a7), (0, a8), (0, a9), (0, a10), (0, a11)] [(0, q7.1), (0, a10)] q7.2 = _
        refine Eq.trans (x5_0 (h := 35) hT rfl) ?_
        refine Eq.trans (x2 (ls' := [(2, ((a0 : Nat) : Int)), g1, (0, a2), g3, g4, (0, a5), g6, (0, a7), (0, a8), (0, a9), (0, (a10 + q7.1)), (0, a11)]) (h := 36) hT rfl (Nat.le_of_ble_eq_true rfl) rfl) ?_
        refine Eq.trans (x4 (ls' := [(2, ((a0 : Nat) : Int)), g1, (0, a2), g3, g4, (0, a5), g6, (0, a7), (0, a8), (0, a9), (0, (a10 + q7.1)), (0, (a11 + 1))]) (h := 37) hT rfl rfl rfl) ?_
        refine Eq.trans (x18 (h := 38) hT rfl) ?_
        exact rfl
/-! WordLinksModel.hasNeighbour(II)Z -/
set_option maxRecDepth 100000 in
theorem e_139 {P : zP} {d : zD P} {a0 : Nat} {a1 : Int} {a2 : Int} (ha0 : zkd a0 = 12) : MM P 139 [(2, ((a0 : Nat) : Int)), (0, a1), (0, a2)] d = (if wr a2 ≠ 0 then ((MM P 61 [(0, 0), (0, (a1 - 1))] d).bind fun q1 => zB P 139 16 [(2, ((a0 : Nat) : Int)), (0, a1), (0, a2), (0, (zbin 6 7 ((a2 - 1)))), (0, q1.1)] [] q1.2) else ((MM P 61 [(0, 0), (0, (a1 - 1))] d).bind fun q2 => zB P 139 16 [(2, ((a0 : Nat) : Int)), (0, a1), (0, a2), (0, 3), (0, q2.1)] [] q2.2)) := by
  have hT := cT_139
  refine Eq.trans (MM_def sm_139 (Nat.le_of_ble_eq_true rfl)) ?_
  change zB P 139 0 [(2, ((a0 : Nat) : Int)), (0, a1), (0, a2), (3, 0), (3, 0)] [] d = _
  refine Eq.trans (x1 (h := 0) hT rfl rfl (by decide)) ?_
  refine Eq.trans (x16_1 (h := 1) hT rfl) ?_
  refine xit (fun _ => ?_) (fun _ => ?_)
  · refine Eq.trans (x0 (h := 4) hT rfl) ?_
    refine Eq.trans (x1 (h := 5) hT rfl rfl (by decide)) ?_
    refine Eq.trans (x0 (h := 6) hT rfl) ?_
    refine Eq.trans (x5_1 (h := 7) hT rfl) ?_
    refine Eq.trans (x5n (h := 8) hT rfl) ?_
    refine Eq.trans (x2 (ls' := [(2, ((a0 : Nat) : Int)), (0, a1), (0, a2), (0, (zbin 6 7 ((a2 - 1)))), (3, 0)]) (h := 9) hT rfl (Nat.le_of_ble_eq_true rfl) rfl) ?_
    refine Eq.trans (x0 (h := 10) hT rfl) ?_
    refine Eq.trans (x1 (h := 11) hT rfl rfl (by decide)) ?_
    refine Eq.trans (x0 (h := 12) hT rfl) ?_
    refine Eq.trans (x5_1 (h := 13) hT rfl) ?_
    refine Eq.trans (x34 (as := [(0, 0), (0, (a1 - 1))]) (st' := []) (h := 14) hT rfl sm_61 rfl) ?_
    refine xbd (fun q1 => ?_)
    rw [rv_61]
    change zB P 139 15 [(2, ((a0 : Nat) : Int)), (0, a1), (0, a2), (0, (zbin 6 7 ((a2 - 1)))), (3, 0)] [(0, q1.1)] q1.2 = _
    refine Eq.trans (x2 (ls' := [(2, ((a0 : Nat) : Int)), (0, a1), (0, a2), (0, (zbin 6 7 ((a2 - 1)))), (0, q1.1)]) (h := 15) hT rfl (Nat.le_of_ble_eq_true rfl) rfl) ?_
    exact rfl
  · refine Eq.trans (x0 (h := 2) hT rfl) ?_
    refine Eq.trans (x18 (h := 3) hT rfl) ?_
    refine Eq.trans (x2 (ls' := [(2, ((a0 : Nat) : Int)), (0, a1), (0, a2), (0, 3), (3, 0)]) (h := 9) hT rfl (Nat.le_of_ble_eq_true rfl) rfl) ?_
    refine Eq.trans (x0 (h := 10) hT rfl) ?_
    refine Eq.trans (x1 (h := 11) hT rfl rfl (by decide)) ?_
    refine Eq.trans (x0 (h := 12) hT rfl) ?_
    refine Eq.trans (x5_1 (h := 13) hT rfl) ?_
    refine Eq.trans (x34 (as := [(0, 0), (0, (a1 - 1))]) (st' := []) (h := 14) hT rfl sm_61 rfl) ?_
    refine xbd (fun q2 => ?_)
    rw [rv_61]
    change zB P 139 15 [(2, ((a0 : Nat) : Int)), (0, a1), (0, a2), (0, 3), (3, 0)] [(0, q2.1)] q2.2 = _
    refine Eq.trans (x2 (ls' := [(2, ((a0 : Nat) : Int)), (0, a1), (0, a2), (0, 3), (0, q2.1)]) (h := 15) hT rfl (Nat.le_of_ble_eq_true rfl) rfl) ?_
    exact rfl
set_option maxRecDepth 100000 in
theorem q_139_16 {P : zP} {d : zD P} {a0 : Nat} {a1 : Int} {g2 : zV} {a3 : Int} {a4 : Int} (ha0 : zkd a0 = 12) : zB P 139 16 [(2, ((a0 : Nat) : Int)), (0, a1), g2, (0, a3), (0, a4)] [] d = ((MM P 62 [(0, 5), (0, (a1 + 1))] d).bind fun q3 => (if wr q3.1 < wr a4 then some (0, q3.2) else (if zin a4 6 then (if wr ((zbin 3 ((q3.2.m ((a0 + 17)) (zix a4))) a3)) = 0 then zB P 139 16 [(2, ((a0 : Nat) : Int)), (0, a1), g2, (0, a3), (0, (a4 + 1))] [] q3.2 else some (1, q3.2)) else none))) := by
  have hT := cT_139
  refine Eq.trans (x1 (h := 16) hT rfl rfl (by decide)) ?_
  refine Eq.trans (x0 (h := 17) hT rfl) ?_
  refine Eq.trans (x1 (h := 18) hT rfl rfl (by decide)) ?_
  refine Eq.trans (x0 (h := 19) hT rfl) ?_
  refine Eq.trans (x5_0 (h := 20) hT rfl) ?_
  refine Eq.trans (x34 (as := [(0, 5), (0, (a1 + 1))]) (st' := [(0, a4)]) (h := 21) hT rfl sm_62 rfl) ?_
  refine xbd (fun q3 => ?_)
  rw [rv_62]
  change zB P 139 22 [(2, ((a0 : Nat) : Int)), (0, a1), g2, (0, a3), (0, a4)] [(0, q3.1), (0, a4)] q3.2 = _
  refine Eq.trans (x17_4 (h := 22) hT rfl) ?_
  refine xit (fun _ => ?_) (fun _ => ?_)
  · refine Eq.trans (x0 (h := 34) hT rfl) ?_
    exact x203c (h := 35) hT rfl (by decide)
  · refine Eq.trans (x1 (h := 23) hT rfl rfl (by decide)) ?_
    refine Eq.trans (x21r (r := a0) (cl := 12) (o := 17) (h := 24) hT rfl ha0 (by decide) rfl) ?_
    refine Eq.trans (x1 (h := 25) hT rfl rfl (by decide)) ?_
    refine Eq.trans (x24 (r := (a0 + 17)) (n := 6) (h := 26) hT rfl (Or.inl (kd_12_24 ha0)) (ln_12_24 ha0)) ?_
    refine xig (fun hz4 => ?_)
    refine Eq.trans (x1 (h := 27) hT rfl rfl (by decide)) ?_
    refine Eq.trans (x5n (h := 28) hT rfl) ?_
    refine Eq.trans (x16_0 (h := 29) hT rfl) ?_
    refine xit (fun _ => ?_) (fun _ => ?_)
    · refine Eq.trans (x4 (ls' := [(2, ((a0 : Nat) : Int)), (0, a1), g2, (0, a3), (0, (a4 + 1))]) (h := 32) hT rfl rfl rfl) ?_
      refine Eq.trans (x18 (h := 33) hT rfl) ?_
      exact rfl
    · refine Eq.trans (x0 (h := 30) hT rfl) ?_
      exact x203c (h := 31) hT rfl (by decide)
/-! WordLinksModel.isBox(IIIII)Z -/
set_option maxRecDepth 100000 in
theorem e_140 {P : zP} {d : zD P} {a0 : Nat} {a1 : Int} {a2 : Int} {a3 : Int} {a4 : Int} {a5 : Int} (ha0 : zkd a0 = 12) : MM P 140 [(2, ((a0 : Nat) : Int)), (0, a1), (0, a2), (0, a3), (0, a4), (0, a5)] d = ((MM P 75 [(0, a4), (0, a5)] d).bind fun q1 => zB P 140 8 [(2, ((a0 : Nat) : Int)), (0, a1), (0, a2), (0, a3), (0, a4), (0, a5), (0, q1.1), (0, 0), (0, 0), (3, 0)] [] q1.2) := by
  have hT := cT_140
  refine Eq.trans (MM_def sm_140 (Nat.le_of_ble_eq_true rfl)) ?_
  change zB P 140 0 [(2, ((a0 : Nat) : Int)), (0, a1), (0, a2), (0, a3), (0, a4), (0, a5), (3, 0), (3, 0), (3, 0), (3, 0)] [] d = _
  refine Eq.trans (x1 (h := 0) hT rfl rfl (by decide)) ?_
  refine Eq.trans (x1 (h := 1) hT rfl rfl (by decide)) ?_
  refine Eq.trans (x34 (as := [(0, a4), (0, a5)]) (st' := []) (h := 2) hT rfl sm_75 rfl) ?_
  refine xbd (fun q1 => ?_)
  rw [rv_75]
  change zB P 140 3 [(2, ((a0 : Nat) : Int)), (0, a1), (0, a2), (0, a3), (0, a4), (0, a5), (3, 0), (3, 0), (3, 0), (3, 0)] [(0, q1.1)] q1.2 = _
  refine Eq.trans (x2 (ls' := [(2, ((a0 : Nat) : Int)), (0, a1), (0, a2), (0, a3), (0, a4), (0, a5), (0, q1.1), (3, 0), (3, 0), (3, 0)]) (h := 3) hT rfl (Nat.le_of_ble_eq_true rfl) rfl) ?_
  refine Eq.trans (x0 (h := 4) hT rfl) ?_
  refine Eq.trans (x2 (ls' := [(2, ((a0 : Nat) : Int)), (0, a1), (0, a2), (0, a3), (0, a4), (0, a5), (0, q1.1), (0, 0), (3, 0), (3, 0)]) (h := 5) hT rfl (Nat.le_of_ble_eq_true rfl) rfl) ?_
  refine Eq.trans (x0 (h := 6) hT rfl) ?_
  refine Eq.trans (x2 (ls' := [(2, ((a0 : Nat) : Int)), (0, a1), (0, a2), (0, a3), (0, a4), (0, a5), (0, q1.1), (0, 0), (0, 0), (3, 0)]) (h := 7) hT rfl (Nat.le_of_ble_eq_true rfl) rfl) ?_
  exact rfl
set_option maxRecDepth 100000 in
theorem q_140_8 {P : zP} {d : zD P} {a0 : Nat} {a1 : Int} {a2 : Int} {a3 : Int} {g4 : zV} {g5 : zV} {a6 : Int} {a7 : Int} {a8 : Int} {g9 : zV} (ha0 : zkd a0 = 12) : zB P 140 8 [(2, ((a0 : Nat) : Int)), (0, a1), (0, a2), (0, a3), g4, g5, (0, a6), (0, a7), (0, a8), g9] [] d = ((MM P 60 [(2, ((a0 : Nat) : Int)), (0, a1), (0, 0)] d).bind fun q2 => (if wr q2.1 ≤ wr a8 then (if a7 = 0 ∨ a7 = 1 then some (a7, q2.2) else none) else (if wr a8 < wr a2 then (if zin a8 6 then (if wr 0 = 0 then (if wr ((zbin 3 ((q2.2.m ((a0 + 17)) (zix a8))) a6)) = 0 then (if wr a7 ≠ 0 then zB P 140 8 [(2, ((a0 : Nat) : Int)), (0, a1), (0, a2), (0, a3), g4, g5, (0, a6), (0, 1), (0, (a8 + 1)), (0, 0)] [] q2.2 else (if wr 0 = 0 then zB P 140 8 [(2, ((a0 : Nat) : Int)), (0, a1), (0, a2), (0, a3), g4, g5, (0, a6), (0, 0), (0, (a8 + 1)), (0, 0)] [] q2.2 else (if zin a8 6 then (if wr ((q2.2.m ((a0 + 17)) (zix a8))) = 0 then zB P 140 8 [(2, ((a0 : Nat) : Int)), (0, a1), (0, a2), (0, a3), g4, g5, (0, a6), (0, 0), (0, (a8 + 1)), (0, 0)] [] q2.2 else zB P 140 8 [(2, ((a0 : Nat) : Int)), (0, a1), (0, a2), (0, a3), g4, g5, (0, a6), (0, 1), (0, (a8 + 1)), (0, 0)] [] q2.2) else none))) else some (0, q2.2)) else (if wr ((zbin 3 ((q2.2.m ((a0 + 17)) (zix a8))) ((zbin 5 a6 ((-1)))))) = 0 then (if wr a7 ≠ 0 then zB P 140 8 [(2, ((a0 : Nat) : Int)), (0, a1), (0, a2), (0, a3), g4, g5, (0, a6), (0, 1), (0, (a8 + 1)), (0, 0)] [] q2.2 else (if wr 0 = 0 then zB P 140 8 [(2, ((a0 : Nat) : Int)), (0, a1), (0, a2), (0, a3), g4, g5, (0, a6), (0, 0), (0, (a8 + 1)), (0, 0)] [] q2.2 else (if zin a8 6 then (if wr ((q2.2.m ((a0 + 17)) (zix a8))) = 0 then zB P 140 8 [(2, ((a0 : Nat) : Int)), (0, a1), (0, a2), (0, a3), g4, g5, (0, a6), (0, 0), (0, (a8 + 1)), (0, 0)] [] q2.2 else zB P 140 8 [(2, ((a0 : Nat) : Int)), (0, a1), (0, a2), (0, a3), g4, g5, (0, a6), (0, 1), (0, (a8 + 1)), (0, 0)] [] q2.2) else none))) else some (0, q2.2))) else none) else (if wr a3 < wr a8 then (if zin a8 6 then (if wr 0 = 0 then (if wr ((zbin 3 ((q2.2.m ((a0 + 17)) (zix a8))) a6)) = 0 then (if wr a7 ≠ 0 then zB P 140 8 [(2, ((a0 : Nat) : Int)), (0, a1), (0, a2), (0, a3), g4, g5, (0, a6), (0, 1), (0, (a8 + 1)), (0, 0)] [] q2.2 else (if wr 0 = 0 then zB P 140 8 [(2, ((a0 : Nat) : Int)), (0, a1), (0, a2), (0, a3), g4, g5, (0, a6), (0, 0), (0, (a8 + 1)), (0, 0)] [] q2.2 else (if zin a8 6 then (if wr ((q2.2.m ((a0 + 17)) (zix a8))) = 0 then zB P 140 8 [(2, ((a0 : Nat) : Int)), (0, a1), (0, a2), (0, a3), g4, g5, (0, a6), (0, 0), (0, (a8 + 1)), (0, 0)] [] q2.2 else zB P 140 8 [(2, ((a0 : Nat) : Int)), (0, a1), (0, a2), (0, a3), g4, g5, (0, a6), (0, 1), (0, (a8 + 1)), (0, 0)] [] q2.2) else none))) else some (0, q2.2)) else (if wr ((zbin 3 ((q2.2.m ((a0 + 17)) (zix a8))) ((zbin 5 a6 ((-1)))))) = 0 then (if wr a7 ≠ 0 then zB P 140 8 [(2, ((a0 : Nat) : Int)), (0, a1), (0, a2), (0, a3), g4, g5, (0, a6), (0, 1), (0, (a8 + 1)), (0, 0)] [] q2.2 else (if wr 0 = 0 then zB P 140 8 [(2, ((a0 : Nat) : Int)), (0, a1), (0, a2), (0, a3), g4, g5, (0, a6), (0, 0), (0, (a8 + 1)), (0, 0)] [] q2.2 else (if zin a8 6 then (if wr ((q2.2.m ((a0 + 17)) (zix a8))) = 0 then zB P 140 8 [(2, ((a0 : Nat) : Int)), (0, a1), (0, a2), (0, a3), g4, g5, (0, a6), (0, 0), (0, (a8 + 1)), (0, 0)] [] q2.2 else zB P 140 8 [(2, ((a0 : Nat) : Int)), (0, a1), (0, a2), (0, a3), g4, g5, (0, a6), (0, 1), (0, (a8 + 1)), (0, 0)] [] q2.2) else none))) else some (0, q2.2))) else none) else (if zin a8 6 then (if wr 1 = 0 then (if wr ((zbin 3 ((q2.2.m ((a0 + 17)) (zix a8))) a6)) = 0 then (if wr a7 ≠ 0 then zB P 140 8 [(2, ((a0 : Nat) : Int)), (0, a1), (0, a2), (0, a3), g4, g5, (0, a6), (0, 1), (0, (a8 + 1)), (0, 1)] [] q2.2 else (if wr 1 = 0 then zB P 140 8 [(2, ((a0 : Nat) : Int)), (0, a1), (0, a2), (0, a3), g4, g5, (0, a6), (0, 0), (0, (a8 + 1)), (0, 1)] [] q2.2 else (if zin a8 6 then (if wr ((q2.2.m ((a0 + 17)) (zix a8))) = 0 then zB P 140 8 [(2, ((a0 : Nat) : Int)), (0, a1), (0, a2), (0, a3), g4, g5, (0, a6), (0, 0), (0, (a8 + 1)), (0, 1)] [] q2.2 else zB P 140 8 [(2, ((a0 : Nat) : Int)), (0, a1), (0, a2), (0, a3), g4, g5, (0, a6), (0, 1), (0, (a8 + 1)), (0, 1)] [] q2.2) else none))) else some (0, q2.2)) else (if wr ((zbin 3 ((q2.2.m ((a0 + 17)) (zix a8))) ((zbin 5 a6 ((-1)))))) = 0 then (if wr a7 ≠ 0 then zB P 140 8 [(2, ((a0 : Nat) : Int)), (0, a1), (0, a2), (0, a3), g4, g5, (0, a6), (0, 1), (0, (a8 + 1)), (0, 1)] [] q2.2 else (if wr 1 = 0 then zB P 140 8 [(2, ((a0 : Nat) : Int)), (0, a1), (0, a2), (0, a3), g4, g5, (0, a6), (0, 0), (0, (a8 + 1)), (0, 1)] [] q2.2 else (if zin a8 6 then (if wr ((q2.2.m ((a0 + 17)) (zix a8))) = 0 then zB P 140 8 [(2, ((a0 : Nat) : Int)), (0, a1), (0, a2), (0, a3), g4, g5, (0, a6), (0, 0), (0, (a8 + 1)), (0, 1)] [] q2.2 else zB P 140 8 [(2, ((a0 : Nat) : Int)), (0, a1), (0, a2), (0, a3), g4, g5, (0, a6), (0, 1), (0, (a8 + 1)), (0, 1)] [] q2.2) else none))) else some (0, q2.2))) else none))))) := by
  have hT := cT_140
  refine Eq.trans (x1 (h := 8) hT rfl rfl (by decide)) ?_
  refine Eq.trans (x1 (h := 9) hT rfl rfl (by decide)) ?_
  refine Eq.trans (x1 (h := 10) hT rfl rfl (by decide)) ?_
  refine Eq.trans (x0 (h := 11) hT rfl) ?_
  refine Eq.trans (x31 (r := a0) (cl := 12) (as := [(0, a1), (0, 0)]) (st' := [(0, a8)]) (h := 12) hT rfl sm_60 rfl ha0) ?_
  refine xbd (fun q2 => ?_)
  rw [rv_60]
  change zB P 140 13 [(2, ((a0 : Nat) : Int)), (0, a1), (0, a2), (0, a3), g4, g5, (0, a6), (0, a7), (0, a8), g9] [(0, q2.1), (0, a8)] q2.2 = _
  refine Eq.trans (x17_3 (h := 13) hT rfl) ?_
  refine xit (fun _ => ?_) (fun _ => ?_)
  · refine Eq.trans (x1 (h := 54) hT rfl rfl (by decide)) ?_
    exact x203 (h := 55) hT rfl
  · refine Eq.trans (x1 (h := 14) hT rfl rfl (by decide)) ?_
    refine Eq.trans (x1 (h := 15) hT rfl rfl (by decide)) ?_
    refine Eq.trans (x17_2 (h := 16) hT rfl) ?_
    refine xit (fun _ => ?_) (fun _ => ?_)
    · refine Eq.trans (x0 (h := 22) hT rfl) ?_
      refine Eq.trans (x2 (ls' := [(2, ((a0 : Nat) : Int)), (0, a1), (0, a2), (0, a3), g4, g5, (0, a6), (0, a7), (0, a8), (0, 0)]) (h := 23) hT rfl (Nat.le_of_ble_eq_true rfl) rfl) ?_
      refine Eq.trans (x1 (h := 24) hT rfl rfl (by decide)) ?_
      refine Eq.trans (x21r (r := a0) (cl := 12) (o := 17) (h := 25) hT rfl ha0 (by decide) rfl) ?_
      refine Eq.trans (x1 (h := 26) hT rfl rfl (by decide)) ?_
      refine Eq.trans (x24 (r := (a0 + 17)) (n := 6) (h := 27) hT rfl (Or.inl (kd_12_24 ha0)) (ln_12_24 ha0)) ?_
      refine xig (fun hz3 => ?_)
      refine Eq.trans (x1 (h := 28) hT rfl rfl (by decide)) ?_
      refine Eq.trans (x16_0 (h := 29) hT rfl) ?_
      refine xit (fun _ => ?_) (fun _ => ?_)
      · refine Eq.trans (x1 (h := 34) hT rfl rfl (by decide)) ?_
        refine Eq.trans (x5n (h := 35) hT rfl) ?_
        refine Eq.trans (x16_0 (h := 36) hT rfl) ?_
        refine xit (fun _ => ?_) (fun _ => ?_)
        · refine Eq.trans (x1 (h := 39) hT rfl rfl (by decide)) ?_
          refine Eq.trans (x16_1 (h := 40) hT rfl) ?_
          refine xit (fun _ => ?_) (fun _ => ?_)
          · refine Eq.trans (x0 (h := 48) hT rfl) ?_
            refine Eq.trans (x18 (h := 49) hT rfl) ?_
            refine Eq.trans (x2 (ls' := [(2, ((a0 : Nat) : Int)), (0, a1), (0, a2), (0, a3), g4, g5, (0, a6), (0, 1), (0, a8), (0, 0)]) (h := 51) hT rfl (Nat.le_of_ble_eq_true rfl) rfl) ?_
            refine Eq.trans (x4 (ls' := [(2, ((a0 : Nat) : Int)), (0, a1), (0, a2), (0, a3), g4, g5, (0, a6), (0, 1), (0, (a8 + 1)), (0, 0)]) (h := 52) hT rfl rfl rfl) ?_
            refine Eq.trans (x18 (h := 53) hT rfl) ?_
            exact rfl
          · refine Eq.trans (x1 (h := 41) hT rfl rfl (by decide)) ?_
            refine Eq.trans (x16_0 (h := 42) hT rfl) ?_
            refine xit (fun _ => ?_) (fun _ => ?_)
            · refine Eq.trans (x0 (h := 50) hT rfl) ?_
              refine Eq.trans (x2 (ls' := [(2, ((a0 : Nat) : Int)), (0, a1), (0, a2), (0, a3), g4, g5, (0, a6), (0, 0), (0, a8), (0, 0)]) (h := 51) hT rfl (Nat.le_of_ble_eq_true rfl) rfl) ?_
              refine Eq.trans (x4 (ls' := [(2, ((a0 : Nat) : Int)), (0, a1), (0, a2), (0, a3), g4, g5, (0, a6), (0, 0), (0, (a8 + 1)), (0, 0)]) (h := 52) hT rfl rfl rfl) ?_
              refine Eq.trans (x18 (h := 53) hT rfl) ?_
              exact rfl
            · refine Eq.trans (x1 (h := 43) hT rfl rfl (by decide)) ?_
              refine Eq.trans (x21r (r := a0) (cl := 12) (o := 17) (h := 44) hT rfl ha0 (by decide) rfl) ?_
              refine Eq.trans (x1 (h := 45) hT rfl rfl (by decide)) ?_
              refine Eq.trans (x24 (r := (a0 + 17)) (n := 6) (h := 46) hT rfl (Or.inl (kd_12_24 ha0)) (ln_12_24 ha0)) ?_
              refine xig (fun hz4 => ?_)
              refine Eq.trans (x16_0 (h := 47) hT rfl) ?_
              refine xit (fun _ => ?_) (fun _ => ?_)
              · refine Eq.trans (x0 (h := 50) hT rfl) ?_
                refine Eq.trans (x2 (ls' := [(2, ((a0 : Nat) : Int)), (0, a1), (0, a2), (0, a3), g4, g5, (0, a6), (0, 0), (0, a8), (0, 0)]) (h := 51) hT rfl (Nat.le_of_ble_eq_true rfl) rfl) ?_
                refine Eq.trans (x4 (ls' := [(2, ((a0 : Nat) : Int)), (0, a1), (0, a2), (0, a3), g4, g5, (0, a6), (0, 0), (0, (a8 + 1)), (0, 0)]) (h := 52) hT rfl rfl rfl) ?_
                refine Eq.trans (x18 (h := 53) hT rfl) ?_
                exact rfl
              · refine Eq.trans (x0 (h := 48) hT rfl) ?_
                refine Eq.trans (x18 (h := 49) hT rfl) ?_
                refine Eq.trans (x2 (ls' := [(2, ((a0 : Nat) : Int)), (0, a1), (0, a2), (0, a3), g4, g5, (0, a6), (0, 1), (0, a8), (0, 0)]) (h := 51) hT rfl (Nat.le_of_ble_eq_true rfl) rfl) ?_
                refine Eq.trans (x4 (ls' := [(2, ((a0 : Nat) : Int)), (0, a1), (0, a2), (0, a3), g4, g5, (0, a6), (0, 1), (0, (a8 + 1)), (0, 0)]) (h := 52) hT rfl rfl rfl) ?_
                refine Eq.trans (x18 (h := 53) hT rfl) ?_
                exact rfl
        · refine Eq.trans (x0 (h := 37) hT rfl) ?_
          exact x203c (h := 38) hT rfl (by decide)
      · refine Eq.trans (x1 (h := 30) hT rfl rfl (by decide)) ?_
        refine Eq.trans (x0 (h := 31) hT rfl) ?_
        refine Eq.trans (x5n (h := 32) hT rfl) ?_
        refine Eq.trans (x18 (h := 33) hT rfl) ?_
        refine Eq.trans (x5n (h := 35) hT rfl) ?_
        refine Eq.trans (x16_0 (h := 36) hT rfl) ?_
        refine xit (fun _ => ?_) (fun _ => ?_)
        · refine Eq.trans (x1 (h := 39) hT rfl rfl (by decide)) ?_
          refine Eq.trans (x16_1 (h := 40) hT rfl) ?_
          refine xit (fun _ => ?_) (fun _ => ?_)
          · refine Eq.trans (x0 (h := 48) hT rfl) ?_
            refine Eq.trans (x18 (h := 49) hT rfl) ?_
            refine Eq.trans (x2 (ls' := [(2, ((a0 : Nat) : Int)), (0, a1), (0, a2), (0, a3), g4, g5, (0, a6), (0, 1), (0, a8), (0, 0)]) (h := 51) hT rfl (Nat.le_of_ble_eq_true rfl) rfl) ?_
            refine Eq.trans (x4 (ls' := [(2, ((a0 : Nat) : Int)), (0, a1), (0, a2), (0, a3), g4, g5, (0, a6), (0, 1), (0, (a8 + 1)), (0, 0)]) (h := 52) hT rfl rfl rfl) ?_
            refine Eq.trans (x18 (h := 53) hT rfl) ?_
            exact rfl
          · refine Eq.trans (x1 (h := 41) hT rfl rfl (by decide)) ?_
            refine Eq.trans (x16_0 (h := 42) hT rfl) ?_
            refine xit (fun _ => ?_) (fun _ => ?_)
            · refine Eq.trans (x0 (h := 50) hT rfl) ?_
              refine Eq.trans (x2 (ls' := [(2, ((a0 : Nat) : Int)), (0, a1), (0, a2), (0, a3), g4, g5, (0, a6), (0, 0), (0, a8), (0, 0)]) (h := 51) hT rfl (Nat.le_of_ble_eq_true rfl) rfl) ?_
              refine Eq.trans (x4 (ls' := [(2, ((a0 : Nat) : Int)), (0, a1), (0, a2), (0, a3), g4, g5, (0, a6), (0, 0), (0, (a8 + 1)), (0, 0)]) (h := 52) hT rfl rfl rfl) ?_
              refine Eq.trans (x18 (h := 53) hT rfl) ?_
              exact rfl
            · refine Eq.trans (x1 (h := 43) hT rfl rfl (by decide)) ?_
              refine Eq.trans (x21r (r := a0) (cl := 12) (o := 17) (h := 44) hT rfl ha0 (by decide) rfl) ?_
              refine Eq.trans (x1 (h := 45) hT rfl rfl (by decide)) ?_
              refine Eq.trans (x24 (r := (a0 + 17)) (n := 6) (h := 46) hT rfl (Or.inl (kd_12_24 ha0)) (ln_12_24 ha0)) ?_
              refine xig (fun hz5 => ?_)
              refine Eq.trans (x16_0 (h := 47) hT rfl) ?_
              refine xit (fun _ => ?_) (fun _ => ?_)
              · refine Eq.trans (x0 (h := 50) hT rfl) ?_
                refine Eq.trans (x2 (ls' := [(2, ((a0 : Nat) : Int)), (0, a1), (0, a2), (0, a3), g4, g5, (0, a6), (0, 0), (0, a8), (0, 0)]) (h := 51) hT rfl (Nat.le_of_ble_eq_true rfl) rfl) ?_
                refine Eq.trans (x4 (ls' := [(2, ((a0 : Nat) : Int)), (0, a1), (0, a2), (0, a3), g4, g5, (0, a6), (0, 0), (0, (a8 + 1)), (0, 0)]) (h := 52) hT rfl rfl rfl) ?_
                refine Eq.trans (x18 (h := 53) hT rfl) ?_
                exact rfl
              · refine Eq.trans (x0 (h := 48) hT rfl) ?_
                refine Eq.trans (x18 (h := 49) hT rfl) ?_
                refine Eq.trans (x2 (ls' := [(2, ((a0 : Nat) : Int)), (0, a1), (0, a2), (0, a3), g4, g5, (0, a6), (0, 1), (0, a8), (0, 0)]) (h := 51) hT rfl (Nat.le_of_ble_eq_true rfl) rfl) ?_
                refine Eq.trans (x4 (ls' := [(2, ((a0 : Nat) : Int)), (0, a1), (0, a2), (0, a3), g4, g5, (0, a6), (0, 1), (0, (a8 + 1)), (0, 0)]) (h := 52) hT rfl rfl rfl) ?_
                refine Eq.trans (x18 (h := 53) hT rfl) ?_
                exact rfl
        · refine Eq.trans (x0 (h := 37) hT rfl) ?_
          exact x203c (h := 38) hT rfl (by decide)
    · refine Eq.trans (x1 (h := 17) hT rfl rfl (by decide)) ?_
      refine Eq.trans (x1 (h := 18) hT rfl rfl (by decide)) ?_
      refine Eq.trans (x17_4 (h := 19) hT rfl) ?_
      refine xit (fun _ => ?_) (fun _ => ?_)
      · refine Eq.trans (x0 (h := 22) hT rfl) ?_
        refine Eq.trans (x2 (ls' := [(2, ((a0 : Nat) : Int)), (0, a1), (0, a2), (0, a3), g4, g5, (0, a6), (0, a7), (0, a8), (0, 0)]) (h := 23) hT rfl (Nat.le_of_ble_eq_true rfl) rfl) ?_
        refine Eq.trans (x1 (h := 24) hT rfl rfl (by decide)) ?_
        refine Eq.trans (x21r (r := a0) (cl := 12) (o := 17) (h := 25) hT rfl ha0 (by decide) rfl) ?_
        refine Eq.trans (x1 (h := 26) hT rfl rfl (by decide)) ?_
        refine Eq.trans (x24 (r := (a0 + 17)) (n := 6) (h := 27) hT rfl (Or.inl (kd_12_24 ha0)) (ln_12_24 ha0)) ?_
        refine xig (fun hz6 => ?_)
        refine Eq.trans (x1 (h := 28) hT rfl rfl (by decide)) ?_
        refine Eq.trans (x16_0 (h := 29) hT rfl) ?_
        refine xit (fun _ => ?_) (fun _ => ?_)
        · refine Eq.trans (x1 (h := 34) hT rfl rfl (by decide)) ?_
          refine Eq.trans (x5n (h := 35) hT rfl) ?_
          refine Eq.trans (x16_0 (h := 36) hT rfl) ?_
          refine xit (fun _ => ?_) (fun _ => ?_)
          · refine Eq.trans (x1 (h := 39) hT rfl rfl (by decide)) ?_
            refine Eq.trans (x16_1 (h := 40) hT rfl) ?_
            refine xit (fun _ => ?_) (fun _ => ?_)
            · refine Eq.trans (x0 (h := 48) hT rfl) ?_
              refine Eq.trans (x18 (h := 49) hT rfl) ?_
              refine Eq.trans (x2 (ls' := [(2, ((a0 : Nat) : Int)), (0, a1), (0, a2), (0, a3), g4, g5, (0, a6), (0, 1), (0, a8), (0, 0)]) (h := 51) hT rfl (Nat.le_of_ble_eq_true rfl) rfl) ?_
              refine Eq.trans (x4 (ls' := [(2, ((a0 : Nat) : Int)), (0, a1), (0, a2), (0, a3), g4, g5, (0, a6), (0, 1), (0, (a8 + 1)), (0, 0)]) (h := 52) hT rfl rfl rfl) ?_
              refine Eq.trans (x18 (h := 53) hT rfl) ?_
              exact rfl
            · refine Eq.trans (x1 (h := 41) hT rfl rfl (by decide)) ?_
              refine Eq.trans (x16_0 (h := 42) hT rfl) ?_
              refine xit (fun _ => ?_) (fun _ => ?_)
              · refine Eq.trans (x0 (h := 50) hT rfl) ?_
                refine Eq.trans (x2 (ls' := [(2, ((a0 : Nat) : Int)), (0, a1), (0, a2), (0, a3), g4, g5, (0, a6), (0, 0), (0, a8), (0, 0)]) (h := 51) hT rfl (Nat.le_of_ble_eq_true rfl) rfl) ?_
                refine Eq.trans (x4 (ls' := [(2, ((a0 : Nat) : Int)), (0, a1), (0, a2), (0, a3), g4, g5, (0, a6), (0, 0), (0, (a8 + 1)), (0, 0)]) (h := 52) hT rfl rfl rfl) ?_
                refine Eq.trans (x18 (h := 53) hT rfl) ?_
                exact rfl
              · refine Eq.trans (x1 (h := 43) hT rfl rfl (by decide)) ?_
                refine Eq.trans (x21r (r := a0) (cl := 12) (o := 17) (h := 44) hT rfl ha0 (by decide) rfl) ?_
                refine Eq.trans (x1 (h := 45) hT rfl rfl (by decide)) ?_
                refine Eq.trans (x24 (r := (a0 + 17)) (n := 6) (h := 46) hT rfl (Or.inl (kd_12_24 ha0)) (ln_12_24 ha0)) ?_
                refine xig (fun hz7 => ?_)
                refine Eq.trans (x16_0 (h := 47) hT rfl) ?_
                refine xit (fun _ => ?_) (fun _ => ?_)
                · refine Eq.trans (x0 (h := 50) hT rfl) ?_
                  refine Eq.trans (x2 (ls' := [(2, ((a0 : Nat) : Int)), (0, a1), (0, a2), (0, a3), g4, g5, (0, a6), (0, 0), (0, a8), (0, 0)]) (h := 51) hT rfl (Nat.le_of_ble_eq_true rfl) rfl) ?_
                  refine Eq.trans (x4 (ls' := [(2, ((a0 : Nat) : Int)), (0, a1), (0, a2), (0, a3), g4, g5, (0, a6), (0, 0), (0, (a8 + 1)), (0, 0)]) (h := 52) hT rfl rfl rfl) ?_
                  refine Eq.trans (x18 (h := 53) hT rfl) ?_
                  exact rfl
                · refine Eq.trans (x0 (h := 48) hT rfl) ?_
                  refine Eq.trans (x18 (h := 49) hT rfl) ?_
                  refine Eq.trans (x2 (ls' := [(2, ((a0 : Nat) : Int)), (0, a1), (0, a2), (0, a3), g4, g5, (0, a6), (0, 1), (0, a8), (0, 0)]) (h := 51) hT rfl (Nat.le_of_ble_eq_true rfl) rfl) ?_
                  refine Eq.trans (x4 (ls' := [(2, ((a0 : Nat) : Int)), (0, a1), (0, a2), (0, a3), g4, g5, (0, a6), (0, 1), (0, (a8 + 1)), (0, 0)]) (h := 52) hT rfl rfl rfl) ?_
                  refine Eq.trans (x18 (h := 53) hT rfl) ?_
                  exact rfl
          · refine Eq.trans (x0 (h := 37) hT rfl) ?_
            exact x203c (h := 38) hT rfl (by decide)
        · refine Eq.trans (x1 (h := 30) hT rfl rfl (by decide)) ?_
          refine Eq.trans (x0 (h := 31) hT rfl) ?_
          refine Eq.trans (x5n (h := 32) hT rfl) ?_
          refine Eq.trans (x18 (h := 33) hT rfl) ?_
          refine Eq.trans (x5n (h := 35) hT rfl) ?_
          refine Eq.trans (x16_0 (h := 36) hT rfl) ?_
          refine xit (fun _ => ?_) (fun _ => ?_)
          · refine Eq.trans (x1 (h := 39) hT rfl rfl (by decide)) ?_
            refine Eq.trans (x16_1 (h := 40) hT rfl) ?_
            refine xit (fun _ => ?_) (fun _ => ?_)
            · refine Eq.trans (x0 (h := 48) hT rfl) ?_
              refine Eq.trans (x18 (h := 49) hT rfl) ?_
              refine Eq.trans (x2 (ls' := [(2, ((a0 : Nat) : Int)), (0, a1), (0, a2), (0, a3), g4, g5, (0, a6), (0, 1), (0, a8), (0, 0)]) (h := 51) hT rfl (Nat.le_of_ble_eq_true rfl) rfl) ?_
              refine Eq.trans (x4 (ls' := [(2, ((a0 : Nat) : Int)), (0, a1), (0, a2), (0, a3), g4, g5, (0, a6), (0, 1), (0, (a8 + 1)), (0, 0)]) (h := 52) hT rfl rfl rfl) ?_
              refine Eq.trans (x18 (h := 53) hT rfl) ?_
              exact rfl
            · refine Eq.trans (x1 (h := 41) hT rfl rfl (by decide)) ?_
              refine Eq.trans (x16_0 (h := 42) hT rfl) ?_
              refine xit (fun _ => ?_) (fun _ => ?_)
              · refine Eq.trans (x0 (h := 50) hT rfl) ?_
                refine Eq.trans (x2 (ls' := [(2, ((a0 : Nat) : Int)), (0, a1), (0, a2), (0, a3), g4, g5, (0, a6), (0, 0), (0, a8), (0, 0)]) (h := 51) hT rfl (Nat.le_of_ble_eq_true rfl) rfl) ?_
                refine Eq.trans (x4 (ls' := [(2, ((a0 : Nat) : Int)), (0, a1), (0, a2), (0, a3), g4, g5, (0, a6), (0, 0), (0, (a8 + 1)), (0, 0)]) (h := 52) hT rfl rfl rfl) ?_
                refine Eq.trans (x18 (h := 53) hT rfl) ?_
                exact rfl
              · refine Eq.trans (x1 (h := 43) hT rfl rfl (by decide)) ?_
                refine Eq.trans (x21r (r := a0) (cl := 12) (o := 17) (h := 44) hT rfl ha0 (by decide) rfl) ?_
                refine Eq.trans (x1 (h := 45) hT rfl rfl (by decide)) ?_
                refine Eq.trans (x24 (r := (a0 + 17)) (n := 6) (h := 46) hT rfl (Or.inl (kd_12_24 ha0)) (ln_12_24 ha0)) ?_
                refine xig (fun hz8 => ?_)
                refine Eq.trans (x16_0 (h := 47) hT rfl) ?_
                refine xit (fun _ => ?_) (fun _ => ?_)
                · refine Eq.trans (x0 (h := 50) hT rfl) ?_
                  refine Eq.trans (x2 (ls' := [(2, ((a0 : Nat) : Int)), (0, a1), (0, a2), (0, a3), g4, g5, (0, a6), (0, 0), (0, a8), (0, 0)]) (h := 51) hT rfl (Nat.le_of_ble_eq_true rfl) rfl) ?_
                  refine Eq.trans (x4 (ls' := [(2, ((a0 : Nat) : Int)), (0, a1), (0, a2), (0, a3), g4, g5, (0, a6), (0, 0), (0, (a8 + 1)), (0, 0)]) (h := 52) hT rfl rfl rfl) ?_
                  refine Eq.trans (x18 (h := 53) hT rfl) ?_
                  exact rfl
                · refine Eq.trans (x0 (h := 48) hT rfl) ?_
                  refine Eq.trans (x18 (h := 49) hT rfl) ?_
                  refine Eq.trans (x2 (ls' := [(2, ((a0 : Nat) : Int)), (0, a1), (0, a2), (0, a3), g4, g5, (0, a6), (0, 1), (0, a8), (0, 0)]) (h := 51) hT rfl (Nat.le_of_ble_eq_true rfl) rfl) ?_
                  refine Eq.trans (x4 (ls' := [(2, ((a0 : Nat) : Int)), (0, a1), (0, a2), (0, a3), g4, g5, (0, a6), (0, 1), (0, (a8 + 1)), (0, 0)]) (h := 52) hT rfl rfl rfl) ?_
                  refine Eq.trans (x18 (h := 53) hT rfl) ?_
                  exact rfl
          · refine Eq.trans (x0 (h := 37) hT rfl) ?_
            exact x203c (h := 38) hT rfl (by decide)
      · refine Eq.trans (x0 (h := 20) hT rfl) ?_
        refine Eq.trans (x18 (h := 21) hT rfl) ?_
        refine Eq.trans (x2 (ls' := [(2, ((a0 : Nat) : Int)), (0, a1), (0, a2), (0, a3), g4, g5, (0, a6), (0, a7), (0, a8), (0, 1)]) (h := 23) hT rfl (Nat.le_of_ble_eq_true rfl) rfl) ?_
        refine Eq.trans (x1 (h := 24) hT rfl rfl (by decide)) ?_
        refine Eq.trans (x21r (r := a0) (cl := 12) (o := 17) (h := 25) hT rfl ha0 (by decide) rfl) ?_
        refine Eq.trans (x1 (h := 26) hT rfl rfl (by decide)) ?_
        refine Eq.trans (x24 (r := (a0 + 17)) (n := 6) (h := 27) hT rfl (Or.inl (kd_12_24 ha0)) (ln_12_24 ha0)) ?_
        refine xig (fun hz9 => ?_)
        refine Eq.trans (x1 (h := 28) hT rfl rfl (by decide)) ?_
        refine Eq.trans (x16_0 (h := 29) hT rfl) ?_
        refine xit (fun _ => ?_) (fun _ => ?_)
        · refine Eq.trans (x1 (h := 34) hT rfl rfl (by decide)) ?_
          refine Eq.trans (x5n (h := 35) hT rfl) ?_
          refine Eq.trans (x16_0 (h := 36) hT rfl) ?_
          refine xit (fun _ => ?_) (fun _ => ?_)
          · refine Eq.trans (x1 (h := 39) hT rfl rfl (by decide)) ?_
            refine Eq.trans (x16_1 (h := 40) hT rfl) ?_
            refine xit (fun _ => ?_) (fun _ => ?_)
            · refine Eq.trans (x0 (h := 48) hT rfl) ?_
              refine Eq.trans (x18 (h := 49) hT rfl) ?_
              refine Eq.trans (x2 (ls' := [(2, ((a0 : Nat) : Int)), (0, a1), (0, a2), (0, a3), g4, g5, (0, a6), (0, 1), (0, a8), (0, 1)]) (h := 51) hT rfl (Nat.le_of_ble_eq_true rfl) rfl) ?_
              refine Eq.trans (x4 (ls' := [(2, ((a0 : Nat) : Int)), (0, a1), (0, a2), (0, a3), g4, g5, (0, a6), (0, 1), (0, (a8 + 1)), (0, 1)]) (h := 52) hT rfl rfl rfl) ?_
              refine Eq.trans (x18 (h := 53) hT rfl) ?_
              exact rfl
            · refine Eq.trans (x1 (h := 41) hT rfl rfl (by decide)) ?_
              refine Eq.trans (x16_0 (h := 42) hT rfl) ?_
              refine xit (fun _ => ?_) (fun _ => ?_)
              · refine Eq.trans (x0 (h := 50) hT rfl) ?_
                refine Eq.trans (x2 (ls' := [(2, ((a0 : Nat) : Int)), (0, a1), (0, a2), (0, a3), g4, g5, (0, a6), (0, 0), (0, a8), (0, 1)]) (h := 51) hT rfl (Nat.le_of_ble_eq_true rfl) rfl) ?_
                refine Eq.trans (x4 (ls' := [(2, ((a0 : Nat) : Int)), (0, a1), (0, a2), (0, a3), g4, g5, (0, a6), (0, 0), (0, (a8 + 1)), (0, 1)]) (h := 52) hT rfl rfl rfl) ?_
                refine Eq.trans (x18 (h := 53) hT rfl) ?_
                exact rfl
              · refine Eq.trans (x1 (h := 43) hT rfl rfl (by decide)) ?_
                refine Eq.trans (x21r (r := a0) (cl := 12) (o := 17) (h := 44) hT rfl ha0 (by decide) rfl) ?_
                refine Eq.trans (x1 (h := 45) hT rfl rfl (by decide)) ?_
                refine Eq.trans (x24 (r := (a0 + 17)) (n := 6) (h := 46) hT rfl (Or.inl (kd_12_24 ha0)) (ln_12_24 ha0)) ?_
                refine xig (fun hz10 => ?_)
                refine Eq.trans (x16_0 (h := 47) hT rfl) ?_
                refine xit (fun _ => ?_) (fun _ => ?_)
                · refine Eq.trans (x0 (h := 50) hT rfl) ?_
                  refine Eq.trans (x2 (ls' := [(2, ((a0 : Nat) : Int)), (0, a1), (0, a2), (0, a3), g4, g5, (0, a6), (0, 0), (0, a8), (0, 1)]) (h := 51) hT rfl (Nat.le_of_ble_eq_true rfl) rfl) ?_
                  refine Eq.trans (x4 (ls' := [(2, ((a0 : Nat) : Int)), (0, a1), (0, a2), (0, a3), g4, g5, (0, a6), (0, 0), (0, (a8 + 1)), (0, 1)]) (h := 52) hT rfl rfl rfl) ?_
                  refine Eq.trans (x18 (h := 53) hT rfl) ?_
                  exact rfl
                · refine Eq.trans (x0 (h := 48) hT rfl) ?_
                  refine Eq.trans (x18 (h := 49) hT rfl) ?_
                  refine Eq.trans (x2 (ls' := [(2, ((a0 : Nat) : Int)), (0, a1), (0, a2), (0, a3), g4, g5, (0, a6), (0, 1), (0, a8), (0, 1)]) (h := 51) hT rfl (Nat.le_of_ble_eq_true rfl) rfl) ?_
                  refine Eq.trans (x4 (ls' := [(2, ((a0 : Nat) : Int)), (0, a1), (0, a2), (0, a3), g4, g5, (0, a6), (0, 1), (0, (a8 + 1)), (0, 1)]) (h := 52) hT rfl rfl rfl) ?_
                  refine Eq.trans (x18 (h := 53) hT rfl) ?_
                  exact rfl
          · refine Eq.trans (x0 (h := 37) hT rfl) ?_
            exact x203c (h := 38) hT rfl (by decide)
        · refine Eq.trans (x1 (h := 30) hT rfl rfl (by decide)) ?_
          refine Eq.trans (x0 (h := 31) hT rfl) ?_
          refine Eq.trans (x5n (h := 32) hT rfl) ?_
          refine Eq.trans (x18 (h := 33) hT rfl) ?_
          refine Eq.trans (x5n (h := 35) hT rfl) ?_
          refine Eq.trans (x16_0 (h := 36) hT rfl) ?_
          refine xit (fun _ => ?_) (fun _ => ?_)
          · refine Eq.trans (x1 (h := 39) hT rfl rfl (by decide)) ?_
            refine Eq.trans (x16_1 (h := 40) hT rfl) ?_
            refine xit (fun _ => ?_) (fun _ => ?_)
            · refine Eq.trans (x0 (h := 48) hT rfl) ?_
              refine Eq.trans (x18 (h := 49) hT rfl) ?_
              refine Eq.trans (x2 (ls' := [(2, ((a0 : Nat) : Int)), (0, a1), (0, a2), (0, a3), g4, g5, (0, a6), (0, 1), (0, a8), (0, 1)]) (h := 51) hT rfl (Nat.le_of_ble_eq_true rfl) rfl) ?_
              refine Eq.trans (x4 (ls' := [(2, ((a0 : Nat) : Int)), (0, a1), (0, a2), (0, a3), g4, g5, (0, a6), (0, 1), (0, (a8 + 1)), (0, 1)]) (h := 52) hT rfl rfl rfl) ?_
              refine Eq.trans (x18 (h := 53) hT rfl) ?_
              exact rfl
            · refine Eq.trans (x1 (h := 41) hT rfl rfl (by decide)) ?_
              refine Eq.trans (x16_0 (h := 42) hT rfl) ?_
              refine xit (fun _ => ?_) (fun _ => ?_)
              · refine Eq.trans (x0 (h := 50) hT rfl) ?_
                refine Eq.trans (x2 (ls' := [(2, ((a0 : Nat) : Int)), (0, a1), (0, a2), (0, a3), g4, g5, (0, a6), (0, 0), (0, a8), (0, 1)]) (h := 51) hT rfl (Nat.le_of_ble_eq_true rfl) rfl) ?_
                refine Eq.trans (x4 (ls' := [(2, ((a0 : Nat) : Int)), (0, a1), (0, a2), (0, a3), g4, g5, (0, a6), (0, 0), (0, (a8 + 1)), (0, 1)]) (h := 52) hT rfl rfl rfl) ?_
                refine Eq.trans (x18 (h := 53) hT rfl) ?_
                exact rfl
              · refine Eq.trans (x1 (h := 43) hT rfl rfl (by decide)) ?_
                refine Eq.trans (x21r (r := a0) (cl := 12) (o := 17) (h := 44) hT rfl ha0 (by decide) rfl) ?_
                refine Eq.trans (x1 (h := 45) hT rfl rfl (by decide)) ?_
                refine Eq.trans (x24 (r := (a0 + 17)) (n := 6) (h := 46) hT rfl (Or.inl (kd_12_24 ha0)) (ln_12_24 ha0)) ?_
                refine xig (fun hz11 => ?_)
                refine Eq.trans (x16_0 (h := 47) hT rfl) ?_
                refine xit (fun _ => ?_) (fun _ => ?_)
                · refine Eq.trans (x0 (h := 50) hT rfl) ?_
                  refine Eq.trans (x2 (ls' := [(2, ((a0 : Nat) : Int)), (0, a1), (0, a2), (0, a3), g4, g5, (0, a6), (0, 0), (0, a8), (0, 1)]) (h := 51) hT rfl (Nat.le_of_ble_eq_true rfl) rfl) ?_
                  refine Eq.trans (x4 (ls' := [(2, ((a0 : Nat) : Int)), (0, a1), (0, a2), (0, a3), g4, g5, (0, a6), (0, 0), (0, (a8 + 1)), (0, 1)]) (h := 52) hT rfl rfl rfl) ?_
                  refine Eq.trans (x18 (h := 53) hT rfl) ?_
                  exact rfl
                · refine Eq.trans (x0 (h := 48) hT rfl) ?_
                  refine Eq.trans (x18 (h := 49) hT rfl) ?_
                  refine Eq.trans (x2 (ls' := [(2, ((a0 : Nat) : Int)), (0, a1), (0, a2), (0, a3), g4, g5, (0, a6), (0, 1), (0, a8), (0, 1)]) (h := 51) hT rfl (Nat.le_of_ble_eq_true rfl) rfl) ?_
                  refine Eq.trans (x4 (ls' := [(2, ((a0 : Nat) : Int)), (0, a1), (0, a2), (0, a3), g4, g5, (0, a6), (0, 1), (0, (a8 + 1)), (0, 1)]) (h := 52) hT rfl rfl rfl) ?_
                  refine Eq.trans (x18 (h := 53) hT rfl) ?_
                  exact rfl
          · refine Eq.trans (x0 (h := 37) hT rfl) ?_
            exact x203c (h := 38) hT rfl (by decide)
/-! WordLinksModel.isEnough(IIII)Z -/
set_option maxRecDepth 100000 in
theorem e_141 {P : zP} {d : zD P} {a0 : Nat} {a1 : Int} {a2 : Int} {a3 : Int} {a4 : Int} (ha0 : zkd a0 = 12) : MM P 141 [(2, ((a0 : Nat) : Int)), (0, a1), (0, a2), (0, a3), (0, a4)] d = (if wr a1 ≠ 0 then ((MM P 80 [(2, ((a0 : Nat) : Int)), (0, a2), (0, 1), (0, a4)] d).bind fun q1 => ((MM P 80 [(2, ((a0 : Nat) : Int)), (0, a2), (0, 0), (0, a3)] q1.2).bind fun q2 => ((MM P 71 [(2, ((a0 : Nat) : Int)), (0, 1), (0, q1.1), (0, q2.1)] q2.2).bind fun q3 => (if zin 1 18180 then (if wr q3.1 < wr ((q3.2.m ((a0 + 1)) (zix 1))) then some (0, q3.2) else some (1, q3.2)) else none)))) else ((MM P 80 [(2, ((a0 : Nat) : Int)), (0, a2), (0, 0), (0, a3)] d).bind fun q5 => ((MM P 80 [(2, ((a0 : Nat) : Int)), (0, a2), (0, 1), (0, a4)] q5.2).bind fun q6 => ((MM P 71 [(2, ((a0 : Nat) : Int)), (0, 0), (0, q5.1), (0, q6.1)] q6.2).bind fun q7 => (if zin 1 18180 then (if wr q7.1 < wr ((q7.2.m ((a0 + 1)) (zix 1))) then some (0, q7.2) else some (1, q7.2)) else none))))) := by
  have hT := cT_141
  refine Eq.trans (MM_def sm_141 (Nat.le_of_ble_eq_true rfl)) ?_
  change zB P 141 0 [(2, ((a0 : Nat) : Int)), (0, a1), (0, a2), (0, a3), (0, a4), (3, 0)] [] d = _
  refine Eq.trans (x1 (h := 0) hT rfl rfl (by decide)) ?_
  refine Eq.trans (x16_1 (h := 1) hT rfl) ?_
  refine xit (fun _ => ?_) (fun _ => ?_)
  · refine Eq.trans (x1 (h := 16) hT rfl rfl (by decide)) ?_
    refine Eq.trans (x0 (h := 17) hT rfl) ?_
    refine Eq.trans (x1 (h := 18) hT rfl rfl (by decide)) ?_
    refine Eq.trans (x1 (h := 19) hT rfl rfl (by decide)) ?_
    refine Eq.trans (x0 (h := 20) hT rfl) ?_
    refine Eq.trans (x1 (h := 21) hT rfl rfl (by decide)) ?_
    refine Eq.trans (x31 (r := a0) (cl := 12) (as := [(0, a2), (0, 1), (0, a4)]) (st' := [(0, 1), (2, ((a0 : Nat) : Int))]) (h := 22) hT rfl sm_80 rfl ha0) ?_
    refine xbd (fun q1 => ?_)
    rw [rv_80]
    change zB P 141 23 [(2, ((a0 : Nat) : Int)), (0, a1), (0, a2), (0, a3), (0, a4), (3, 0)] [(0, q1.1), (0, 1), (2, ((a0 : Nat) : Int))] q1.2 = _
    refine Eq.trans (x1 (h := 23) hT rfl rfl (by decide)) ?_
    refine Eq.trans (x1 (h := 24) hT rfl rfl (by decide)) ?_
    refine Eq.trans (x0 (h := 25) hT rfl) ?_
    refine Eq.trans (x1 (h := 26) hT rfl rfl (by decide)) ?_
    refine Eq.trans (x31 (r := a0) (cl := 12) (as := [(0, a2), (0, 0), (0, a3)]) (st' := [(0, q1.1), (0, 1), (2, ((a0 : Nat) : Int))]) (h := 27) hT rfl sm_80 rfl ha0) ?_
    refine xbd (fun q2 => ?_)
    rw [rv_80]
    change zB P 141 28 [(2, ((a0 : Nat) : Int)), (0, a1), (0, a2), (0, a3), (0, a4), (3, 0)] [(0, q2.1), (0, q1.1), (0, 1), (2, ((a0 : Nat) : Int))] q2.2 = _
    refine Eq.trans (x31 (r := a0) (cl := 12) (as := [(0, 1), (0, q1.1), (0, q2.1)]) (st' := []) (h := 28) hT rfl sm_71 rfl ha0) ?_
    refine xbd (fun q3 => ?_)
    rw [rv_71]
    change zB P 141 29 [(2, ((a0 : Nat) : Int)), (0, a1), (0, a2), (0, a3), (0, a4), (3, 0)] [(0, q3.1)] q3.2 = _
    refine Eq.trans (x2 (ls' := [(2, ((a0 : Nat) : Int)), (0, a1), (0, a2), (0, a3), (0, a4), (0, q3.1)]) (h := 29) hT rfl (Nat.le_of_ble_eq_true rfl) rfl) ?_
    refine Eq.trans (x1 (h := 30) hT rfl rfl (by decide)) ?_
    refine Eq.trans (x1 (h := 31) hT rfl rfl (by decide)) ?_
    refine Eq.trans (x21r (r := a0) (cl := 12) (o := 1) (h := 32) hT rfl ha0 (by decide) rfl) ?_
    refine Eq.trans (x0 (h := 33) hT rfl) ?_
    refine Eq.trans (x24 (r := (a0 + 1)) (n := 18180) (h := 34) hT rfl (Or.inl (kd_12_0 ha0)) (ln_12_0 ha0)) ?_
    refine xig (fun hz4 => ?_)
    refine Eq.trans (x17_2 (h := 35) hT rfl) ?_
    refine xit (fun _ => ?_) (fun _ => ?_)
    · refine Eq.trans (x0 (h := 38) hT rfl) ?_
      exact x203c (h := 39) hT rfl (by decide)
    · refine Eq.trans (x0 (h := 36) hT rfl) ?_
      refine Eq.trans (x18 (h := 37) hT rfl) ?_
      exact x203c (h := 39) hT rfl (by decide)
  · refine Eq.trans (x1 (h := 2) hT rfl rfl (by decide)) ?_
    refine Eq.trans (x0 (h := 3) hT rfl) ?_
    refine Eq.trans (x1 (h := 4) hT rfl rfl (by decide)) ?_
    refine Eq.trans (x1 (h := 5) hT rfl rfl (by decide)) ?_
    refine Eq.trans (x0 (h := 6) hT rfl) ?_
    refine Eq.trans (x1 (h := 7) hT rfl rfl (by decide)) ?_
    refine Eq.trans (x31 (r := a0) (cl := 12) (as := [(0, a2), (0, 0), (0, a3)]) (st' := [(0, 0), (2, ((a0 : Nat) : Int))]) (h := 8) hT rfl sm_80 rfl ha0) ?_
    refine xbd (fun q5 => ?_)
    rw [rv_80]
    change zB P 141 9 [(2, ((a0 : Nat) : Int)), (0, a1), (0, a2), (0, a3), (0, a4), (3, 0)] [(0, q5.1), (0, 0), (2, ((a0 : Nat) : Int))] q5.2 = _
    refine Eq.trans (x1 (h := 9) hT rfl rfl (by decide)) ?_
    refine Eq.trans (x1 (h := 10) hT rfl rfl (by decide)) ?_
    refine Eq.trans (x0 (h := 11) hT rfl) ?_
    refine Eq.trans (x1 (h := 12) hT rfl rfl (by decide)) ?_
    refine Eq.trans (x31 (r := a0) (cl := 12) (as := [(0, a2), (0, 1), (0, a4)]) (st' := [(0, q5.1), (0, 0), (2, ((a0 : Nat) : Int))]) (h := 13) hT rfl sm_80 rfl ha0) ?_
    refine xbd (fun q6 => ?_)
    rw [rv_80]
    change zB P 141 14 [(2, ((a0 : Nat) : Int)), (0, a1), (0, a2), (0, a3), (0, a4), (3, 0)] [(0, q6.1), (0, q5.1), (0, 0), (2, ((a0 : Nat) : Int))] q6.2 = _
    refine Eq.trans (x31 (r := a0) (cl := 12) (as := [(0, 0), (0, q5.1), (0, q6.1)]) (st' := []) (h := 14) hT rfl sm_71 rfl ha0) ?_
    refine xbd (fun q7 => ?_)
    rw [rv_71]
    change zB P 141 15 [(2, ((a0 : Nat) : Int)), (0, a1), (0, a2), (0, a3), (0, a4), (3, 0)] [(0, q7.1)] q7.2 = _
    refine Eq.trans (x18 (h := 15) hT rfl) ?_
    refine Eq.trans (x2 (ls' := [(2, ((a0 : Nat) : Int)), (0, a1), (0, a2), (0, a3), (0, a4), (0, q7.1)]) (h := 29) hT rfl (Nat.le_of_ble_eq_true rfl) rfl) ?_
    refine Eq.trans (x1 (h := 30) hT rfl rfl (by decide)) ?_
    refine Eq.trans (x1 (h := 31) hT rfl rfl (by decide)) ?_
    refine Eq.trans (x21r (r := a0) (cl := 12) (o := 1) (h := 32) hT rfl ha0 (by decide) rfl) ?_
    refine Eq.trans (x0 (h := 33) hT rfl) ?_
    refine Eq.trans (x24 (r := (a0 + 1)) (n := 18180) (h := 34) hT rfl (Or.inl (kd_12_0 ha0)) (ln_12_0 ha0)) ?_
    refine xig (fun hz8 => ?_)
    refine Eq.trans (x17_2 (h := 35) hT rfl) ?_
    refine xit (fun _ => ?_) (fun _ => ?_)
    · refine Eq.trans (x0 (h := 38) hT rfl) ?_
      exact x203c (h := 39) hT rfl (by decide)
    · refine Eq.trans (x0 (h := 36) hT rfl) ?_
      refine Eq.trans (x18 (h := 37) hT rfl) ?_
      exact x203c (h := 39) hT rfl (by decide)
/-! WordLinksModel.isHand(II)Z -/
set_option maxRecDepth 100000 in
theorem e_142 {P : zP} {d : zD P} {a0 : Nat} {a1 : Int} {a2 : Int} (ha0 : zkd a0 = 12) : MM P 142 [(2, ((a0 : Nat) : Int)), (0, a1), (0, a2)] d = ((MM P 58 [(2, ((a0 : Nat) : Int)), (0, a1), (0, a2)] d).bind fun q1 => (if zin 0 8 then (if wr q1.1 = wr ((q1.2.m ((a0 + 3)) (zix 0))) then zB P 142 13 [(2, ((a0 : Nat) : Int)), (0, a1), (0, a2), (0, 0)] [] q1.2 else some (0, q1.2)) else none)) := by
  have hT := cT_142
  refine Eq.trans (MM_def sm_142 (Nat.le_of_ble_eq_true rfl)) ?_
  change zB P 142 0 [(2, ((a0 : Nat) : Int)), (0, a1), (0, a2), (3, 0)] [] d = _
  refine Eq.trans (x1 (h := 0) hT rfl rfl (by decide)) ?_
  refine Eq.trans (x1 (h := 1) hT rfl rfl (by decide)) ?_
  refine Eq.trans (x1 (h := 2) hT rfl rfl (by decide)) ?_
  refine Eq.trans (x31 (r := a0) (cl := 12) (as := [(0, a1), (0, a2)]) (st' := []) (h := 3) hT rfl sm_58 rfl ha0) ?_
  refine xbd (fun q1 => ?_)
  rw [rv_58]
  change zB P 142 4 [(2, ((a0 : Nat) : Int)), (0, a1), (0, a2), (3, 0)] [(0, q1.1)] q1.2 = _
  refine Eq.trans (x1 (h := 4) hT rfl rfl (by decide)) ?_
  refine Eq.trans (x21r (r := a0) (cl := 12) (o := 3) (h := 5) hT rfl ha0 (by decide) rfl) ?_
  refine Eq.trans (x0 (h := 6) hT rfl) ?_
  refine Eq.trans (x24 (r := (a0 + 3)) (n := 8) (h := 7) hT rfl (Or.inl (kd_12_9 ha0)) (ln_12_9 ha0)) ?_
  refine xig (fun hz2 => ?_)
  refine Eq.trans (x17_0 (h := 8) hT rfl) ?_
  refine xit (fun _ => ?_) (fun _ => ?_)
  · refine Eq.trans (x0 (h := 11) hT rfl) ?_
    refine Eq.trans (x2 (ls' := [(2, ((a0 : Nat) : Int)), (0, a1), (0, a2), (0, 0)]) (h := 12) hT rfl (Nat.le_of_ble_eq_true rfl) rfl) ?_
    exact rfl
  · refine Eq.trans (x0 (h := 9) hT rfl) ?_
    exact x203c (h := 10) hT rfl (by decide)
set_option maxRecDepth 100000 in
theorem q_142_13 {P : zP} {d : zD P} {a0 : Nat} {a1 : Int} {a2 : Int} {a3 : Int} (ha0 : zkd a0 = 12) : zB P 142 13 [(2, ((a0 : Nat) : Int)), (0, a1), (0, a2), (0, a3)] [] d = (if zin 0 8 then (if wr ((d.m ((a0 + 3)) (zix 0))) ≤ wr a3 then some (1, d) else ((MM P 57 [(2, ((a0 : Nat) : Int)), (0, a1), (0, a2), (0, a3)] d).bind fun q4 => (if zin ((1 + a3)) 8 then (if wr q4.1 = wr ((q4.2.m ((a0 + 3)) (zix ((1 + a3))))) then zB P 142 13 [(2, ((a0 : Nat) : Int)), (0, a1), (0, a2), (0, (a3 + 1))] [] q4.2 else some (0, q4.2)) else none))) else none) := by
  have hT := cT_142
  refine Eq.trans (x1 (h := 13) hT rfl rfl (by decide)) ?_
  refine Eq.trans (x1 (h := 14) hT rfl rfl (by decide)) ?_
  refine Eq.trans (x21r (r := a0) (cl := 12) (o := 3) (h := 15) hT rfl ha0 (by decide) rfl) ?_
  refine Eq.trans (x0 (h := 16) hT rfl) ?_
  refine Eq.trans (x24 (r := (a0 + 3)) (n := 8) (h := 17) hT rfl (Or.inl (kd_12_9 ha0)) (ln_12_9 ha0)) ?_
  refine xig (fun hz3 => ?_)
  refine Eq.trans (x17_3 (h := 18) hT rfl) ?_
  refine xit (fun _ => ?_) (fun _ => ?_)
  · refine Eq.trans (x0 (h := 35) hT rfl) ?_
    exact x203c (h := 36) hT rfl (by decide)
  · refine Eq.trans (x1 (h := 19) hT rfl rfl (by decide)) ?_
    refine Eq.trans (x1 (h := 20) hT rfl rfl (by decide)) ?_
    refine Eq.trans (x1 (h := 21) hT rfl rfl (by decide)) ?_
    refine Eq.trans (x1 (h := 22) hT rfl rfl (by decide)) ?_
    refine Eq.trans (x31 (r := a0) (cl := 12) (as := [(0, a1), (0, a2), (0, a3)]) (st' := []) (h := 23) hT rfl sm_57 rfl ha0) ?_
    refine xbd (fun q4 => ?_)
    rw [rv_57]
    change zB P 142 24 [(2, ((a0 : Nat) : Int)), (0, a1), (0, a2), (0, a3)] [(0, q4.1)] q4.2 = _
    refine Eq.trans (x1 (h := 24) hT rfl rfl (by decide)) ?_
    refine Eq.trans (x21r (r := a0) (cl := 12) (o := 3) (h := 25) hT rfl ha0 (by decide) rfl) ?_
    refine Eq.trans (x0 (h := 26) hT rfl) ?_
    refine Eq.trans (x1 (h := 27) hT rfl rfl (by decide)) ?_
    refine Eq.trans (x5_0 (h := 28) hT rfl) ?_
    refine Eq.trans (x24 (r := (a0 + 3)) (n := 8) (h := 29) hT rfl (Or.inl (kd_12_9 ha0)) (ln_12_9 ha0)) ?_
    refine xig (fun hz5 => ?_)
    refine Eq.trans (x17_0 (h := 30) hT rfl) ?_
    refine xit (fun _ => ?_) (fun _ => ?_)
    · refine Eq.trans (x4 (ls' := [(2, ((a0 : Nat) : Int)), (0, a1), (0, a2), (0, (a3 + 1))]) (h := 33) hT rfl rfl rfl) ?_
      refine Eq.trans (x18 (h := 34) hT rfl) ?_
      exact rfl
    · refine Eq.trans (x0 (h := 31) hT rfl) ?_
      exact x203c (h := 32) hT rfl (by decide)
/-! WordLinksModel.isKind(I)Z -/
set_option maxRecDepth 100000 in
theorem e_143 {P : zP} {d : zD P} {a0 : Int} : MM P 143 [(0, a0)] d = ((MM P 55 [(0, a0), (0, 0), (0, 5)] d).bind fun q1 => (if q1.1 = 0 ∨ q1.1 = 1 then some (q1.1, q1.2) else none)) := by
  have hT := cT_143
  refine Eq.trans (MM_def sm_143 (Nat.le_of_ble_eq_true rfl)) ?_
  change zB P 143 0 [(0, a0)] [] d = _
  refine Eq.trans (x1 (h := 0) hT rfl rfl (by decide)) ?_
  refine Eq.trans (x0 (h := 1) hT rfl) ?_
  refine Eq.trans (x0 (h := 2) hT rfl) ?_
  refine Eq.trans (x34 (as := [(0, a0), (0, 0), (0, 5)]) (st' := []) (h := 3) hT rfl sm_55 rfl) ?_
  refine xbd (fun q1 => ?_)
  rw [rv_55]
  change zB P 143 4 [(0, a0)] [(0, q1.1)] q1.2 = _
  exact x203 (h := 4) hT rfl
/-! WordLinksModel.isLower(III)Z -/
set_option maxRecDepth 100000 in
theorem e_144 {P : zP} {d : zD P} {a0 : Nat} {a1 : Int} {a2 : Int} {a3 : Int} (ha0 : zkd a0 = 12) : MM P 144 [(2, ((a0 : Nat) : Int)), (0, a1), (0, a2), (0, a3)] d = zB P 144 2 [(2, ((a0 : Nat) : Int)), (0, a1), (0, a2), (0, a3), (0, 0)] [] d := by
  have hT := cT_144
  refine Eq.trans (MM_def sm_144 (Nat.le_of_ble_eq_true rfl)) ?_
  change zB P 144 0 [(2, ((a0 : Nat) : Int)), (0, a1), (0, a2), (0, a3), (3, 0)] [] d = _
  refine Eq.trans (x0 (h := 0) hT rfl) ?_
  refine Eq.trans (x2 (ls' := [(2, ((a0 : Nat) : Int)), (0, a1), (0, a2), (0, a3), (0, 0)]) (h := 1) hT rfl (Nat.le_of_ble_eq_true rfl) rfl) ?_
  exact rfl
set_option maxRecDepth 100000 in
theorem q_144_2 {P : zP} {d : zD P} {a0 : Nat} {a1 : Int} {a2 : Int} {a3 : Int} {a4 : Int} (ha0 : zkd a0 = 12) : zB P 144 2 [(2, ((a0 : Nat) : Int)), (0, a1), (0, a2), (0, a3), (0, a4)] [] d = ((MM P 58 [(2, ((a0 : Nat) : Int)), (0, a1), (0, a2)] d).bind fun q1 => (if wr q1.1 ≤ wr a4 then ((MM P 58 [(2, ((a0 : Nat) : Int)), (0, a1), (0, a2)] q1.2).bind fun q2 => (if wr a4 ≠ wr q2.1 then ((MM P 58 [(2, ((a0 : Nat) : Int)), (0, a1), (0, a3)] q2.2).bind fun q3 => (if wr q3.1 ≤ wr a4 then some (0, q3.2) else ((MM P 57 [(2, ((a0 : Nat) : Int)), (0, a1), (0, a2), (0, a4)] q3.2).bind fun q4 => ((MM P 57 [(2, ((a0 : Nat) : Int)), (0, a1), (0, a3), (0, a4)] q4.2).bind fun q5 => (if wr q5.1 ≤ wr q4.1 then some (0, q5.2) else some (1, q5.2)))))) else ((MM P 58 [(2, ((a0 : Nat) : Int)), (0, a1), (0, a3)] q2.2).bind fun q6 => (if wr q6.1 ≤ wr a4 then some (0, q6.2) else some (1, q6.2))))) else ((MM P 58 [(2, ((a0 : Nat) : Int)), (0, a1), (0, a3)] q1.2).bind fun q7 => (if wr q7.1 ≤ wr a4 then ((MM P 58 [(2, ((a0 : Nat) : Int)), (0, a1), (0, a2)] q7.2).bind fun q8 => (if wr a4 ≠ wr q8.1 then ((MM P 58 [(2, ((a0 : Nat) : Int)), (0, a1), (0, a3)] q8.2).bind fun q9 => (if wr q9.1 ≤ wr a4 then some (0, q9.2) else ((MM P 57 [(2, ((a0 : Nat) : Int)), (0, a1), (0, a2), (0, a4)] q9.2).bind fun q10 => ((MM P 57 [(2, ((a0 : Nat) : Int)), (0, a1), (0, a3), (0, a4)] q10.2).bind fun q11 => (if wr q11.1 ≤ wr q10.1 then some (0, q11.2) else some (1, q11.2)))))) else ((MM P 58 [(2, ((a0 : Nat) : Int)), (0, a1), (0, a3)] q8.2).bind fun q12 => (if wr q12.1 ≤ wr a4 then some (0, q12.2) else some (1, q12.2))))) else ((MM P 57 [(2, ((a0 : Nat) : Int)), (0, a1), (0, a2), (0, a4)] q7.2).bind fun q13 => ((MM P 57 [(2, ((a0 : Nat) : Int)), (0, a1), (0, a3), (0, a4)] q13.2).bind fun q14 => (if wr q13.1 ≠ wr q14.1 then ((MM P 58 [(2, ((a0 : Nat) : Int)), (0, a1), (0, a2)] q14.2).bind fun q15 => (if wr a4 ≠ wr q15.1 then ((MM P 58 [(2, ((a0 : Nat) : Int)), (0, a1), (0, a3)] q15.2).bind fun q16 => (if wr q16.1 ≤ wr a4 then some (0, q16.2) else ((MM P 57 [(2, ((a0 : Nat) : Int)), (0, a1), (0, a2), (0, a4)] q16.2).bind fun q17 => ((MM P 57 [(2, ((a0 : Nat) : Int)), (0, a1), (0, a3), (0, a4)] q17.2).bind fun q18 => (if wr q18.1 ≤ wr q17.1 then some (0, q18.2) else some (1, q18.2)))))) else ((MM P 58 [(2, ((a0 : Nat) : Int)), (0, a1), (0, a3)] q15.2).bind fun q19 => (if wr q19.1 ≤ wr a4 then some (0, q19.2) else some (1, q19.2))))) else zB P 144 2 [(2, ((a0 : Nat) : Int)), (0, a1), (0, a2), (0, a3), (0, (a4 + 1))] [] q14.2))))))) := by
  have hT := cT_144
  refine Eq.trans (x1 (h := 2) hT rfl rfl (by decide)) ?_
  refine Eq.trans (x1 (h := 3) hT rfl rfl (by decide)) ?_
  refine Eq.trans (x1 (h := 4) hT rfl rfl (by decide)) ?_
  refine Eq.trans (x1 (h := 5) hT rfl rfl (by decide)) ?_
  refine Eq.trans (x31 (r := a0) (cl := 12) (as := [(0, a1), (0, a2)]) (st' := [(0, a4)]) (h := 6) hT rfl sm_58 rfl ha0) ?_
  refine xbd (fun q1 => ?_)
  rw [rv_58]
  change zB P 144 7 [(2, ((a0 : Nat) : Int)), (0, a1), (0, a2), (0, a3), (0, a4)] [(0, q1.1), (0, a4)] q1.2 = _
  refine Eq.trans (x17_3 (h := 7) hT rfl) ?_
  refine xit (fun _ => ?_) (fun _ => ?_)
  · refine Eq.trans (x1 (h := 30) hT rfl rfl (by decide)) ?_
    refine Eq.trans (x1 (h := 31) hT rfl rfl (by decide)) ?_
    refine Eq.trans (x1 (h := 32) hT rfl rfl (by decide)) ?_
    refine Eq.trans (x1 (h := 33) hT rfl rfl (by decide)) ?_
    refine Eq.trans (x31 (r := a0) (cl := 12) (as := [(0, a1), (0, a2)]) (st' := [(0, a4)]) (h := 34) hT rfl sm_58 rfl ha0) ?_
    refine xbd (fun q2 => ?_)
    rw [rv_58]
    change zB P 144 35 [(2, ((a0 : Nat) : Int)), (0, a1), (0, a2), (0, a3), (0, a4)] [(0, q2.1), (0, a4)] q2.2 = _
    refine Eq.trans (x17_1 (h := 35) hT rfl) ?_
    refine xit (fun _ => ?_) (fun _ => ?_)
    · refine Eq.trans (x1 (h := 46) hT rfl rfl (by decide)) ?_
      refine Eq.trans (x1 (h := 47) hT rfl rfl (by decide)) ?_
      refine Eq.trans (x1 (h := 48) hT rfl rfl (by decide)) ?_
      refine Eq.trans (x1 (h := 49) hT rfl rfl (by decide)) ?_
      refine Eq.trans (x31 (r := a0) (cl := 12) (as := [(0, a1), (0, a3)]) (st' := [(0, a4)]) (h := 50) hT rfl sm_58 rfl ha0) ?_
      refine xbd (fun q3 => ?_)
      rw [rv_58]
      change zB P 144 51 [(2, ((a0 : Nat) : Int)), (0, a1), (0, a2), (0, a3), (0, a4)] [(0, q3.1), (0, a4)] q3.2 = _
      refine Eq.trans (x17_3 (h := 51) hT rfl) ?_
      refine xit (fun _ => ?_) (fun _ => ?_)
      · refine Eq.trans (x0 (h := 65) hT rfl) ?_
        exact x203c (h := 66) hT rfl (by decide)
      · refine Eq.trans (x1 (h := 52) hT rfl rfl (by decide)) ?_
        refine Eq.trans (x1 (h := 53) hT rfl rfl (by decide)) ?_
        refine Eq.trans (x1 (h := 54) hT rfl rfl (by decide)) ?_
        refine Eq.trans (x1 (h := 55) hT rfl rfl (by decide)) ?_
        refine Eq.trans (x31 (r := a0) (cl := 12) (as := [(0, a1), (0, a2), (0, a4)]) (st' := []) (h := 56) hT rfl sm_57 rfl ha0) ?_
        refine xbd (fun q4 => ?_)
        rw [rv_57]
        change zB P 144 57 [(2, ((a0 : Nat) : Int)), (0, a1), (0, a2), (0, a3), (0, a4)] [(0, q4.1)] q4.2 = _
        refine Eq.trans (x1 (h := 57) hT rfl rfl (by decide)) ?_
        refine Eq.trans (x1 (h := 58) hT rfl rfl (by decide)) ?_
        refine Eq.trans (x1 (h := 59) hT rfl rfl (by decide)) ?_
        refine Eq.trans (x1 (h := 60) hT rfl rfl (by decide)) ?_
        refine Eq.trans (x31 (r := a0) (cl := 12) (as := [(0, a1), (0, a3), (0, a4)]) (st' := [(0, q4.1)]) (h := 61) hT rfl sm_57 rfl ha0) ?_
        refine xbd (fun q5 => ?_)
        rw [rv_57]
        change zB P 144 62 [(2, ((a0 : Nat) : Int)), (0, a1), (0, a2), (0, a3), (0, a4)] [(0, q5.1), (0, q4.1)] q5.2 = _
        refine Eq.trans (x17_3 (h := 62) hT rfl) ?_
        refine xit (fun _ => ?_) (fun _ => ?_)
        · refine Eq.trans (x0 (h := 65) hT rfl) ?_
          exact x203c (h := 66) hT rfl (by decide)
        · refine Eq.trans (x0 (h := 63) hT rfl) ?_
          refine Eq.trans (x18 (h := 64) hT rfl) ?_
          exact x203c (h := 66) hT rfl (by decide)
    · refine Eq.trans (x1 (h := 36) hT rfl rfl (by decide)) ?_
      refine Eq.trans (x1 (h := 37) hT rfl rfl (by decide)) ?_
      refine Eq.trans (x1 (h := 38) hT rfl rfl (by decide)) ?_
      refine Eq.trans (x1 (h := 39) hT rfl rfl (by decide)) ?_
      refine Eq.trans (x31 (r := a0) (cl := 12) (as := [(0, a1), (0, a3)]) (st' := [(0, a4)]) (h := 40) hT rfl sm_58 rfl ha0) ?_
      refine xbd (fun q6 => ?_)
      rw [rv_58]
      change zB P 144 41 [(2, ((a0 : Nat) : Int)), (0, a1), (0, a2), (0, a3), (0, a4)] [(0, q6.1), (0, a4)] q6.2 = _
      refine Eq.trans (x17_3 (h := 41) hT rfl) ?_
      refine xit (fun _ => ?_) (fun _ => ?_)
      · refine Eq.trans (x0 (h := 44) hT rfl) ?_
        exact x203c (h := 45) hT rfl (by decide)
      · refine Eq.trans (x0 (h := 42) hT rfl) ?_
        refine Eq.trans (x18 (h := 43) hT rfl) ?_
        exact x203c (h := 45) hT rfl (by decide)
  · refine Eq.trans (x1 (h := 8) hT rfl rfl (by decide)) ?_
    refine Eq.trans (x1 (h := 9) hT rfl rfl (by decide)) ?_
    refine Eq.trans (x1 (h := 10) hT rfl rfl (by decide)) ?_
    refine Eq.trans (x1 (h := 11) hT rfl rfl (by decide)) ?_
    refine Eq.trans (x31 (r := a0) (cl := 12) (as := [(0, a1), (0, a3)]) (st' := [(0, a4)]) (h := 12) hT rfl sm_58 rfl ha0) ?_
    refine xbd (fun q7 => ?_)
    rw [rv_58]
    change zB P 144 13 [(2, ((a0 : Nat) : Int)), (0, a1), (0, a2), (0, a3), (0, a4)] [(0, q7.1), (0, a4)] q7.2 = _
    refine Eq.trans (x17_3 (h := 13) hT rfl) ?_
    refine xit (fun _ => ?_) (fun _ => ?_)
    · refine Eq.trans (x1 (h := 30) hT rfl rfl (by decide)) ?_
      refine Eq.trans (x1 (h := 31) hT rfl rfl (by decide)) ?_
      refine Eq.trans (x1 (h := 32) hT rfl rfl (by decide)) ?_
      refine Eq.trans (x1 (h := 33) hT rfl rfl (by decide)) ?_
      refine Eq.trans (x31 (r := a0) (cl := 12) (as := [(0, a1), (0, a2)]) (st' := [(0, a4)]) (h := 34) hT rfl sm_58 rfl ha0) ?_
      refine xbd (fun q8 => ?_)
      rw [rv_58]
      change zB P 144 35 [(2, ((a0 : Nat) : Int)), (0, a1), (0, a2), (0, a3), (0, a4)] [(0, q8.1), (0, a4)] q8.2 = _
      refine Eq.trans (x17_1 (h := 35) hT rfl) ?_
      refine xit (fun _ => ?_) (fun _ => ?_)
      · refine Eq.trans (x1 (h := 46) hT rfl rfl (by decide)) ?_
        refine Eq.trans (x1 (h := 47) hT rfl rfl (by decide)) ?_
        refine Eq.trans (x1 (h := 48) hT rfl rfl (by decide)) ?_
        refine Eq.trans (x1 (h := 49) hT rfl rfl (by decide)) ?_
        refine Eq.trans (x31 (r := a0) (cl := 12) (as := [(0, a1), (0, a3)]) (st' := [(0, a4)]) (h := 50) hT rfl sm_58 rfl ha0) ?_
        refine xbd (fun q9 => ?_)
        rw [rv_58]
        change zB P 144 51 [(2, ((a0 : Nat) : Int)), (0, a1), (0, a2), (0, a3), (0, a4)] [(0, q9.1), (0, a4)] q9.2 = _
        refine Eq.trans (x17_3 (h := 51) hT rfl) ?_
        refine xit (fun _ => ?_) (fun _ => ?_)
        · refine Eq.trans (x0 (h := 65) hT rfl) ?_
          exact x203c (h := 66) hT rfl (by decide)
        · refine Eq.trans (x1 (h := 52) hT rfl rfl (by decide)) ?_
          refine Eq.trans (x1 (h := 53) hT rfl rfl (by decide)) ?_
          refine Eq.trans (x1 (h := 54) hT rfl rfl (by decide)) ?_
          refine Eq.trans (x1 (h := 55) hT rfl rfl (by decide)) ?_
          refine Eq.trans (x31 (r := a0) (cl := 12) (as := [(0, a1), (0, a2), (0, a4)]) (st' := []) (h := 56) hT rfl sm_57 rfl ha0) ?_
          refine xbd (fun q10 => ?_)
          rw [rv_57]
          change zB P 144 57 [(2, ((a0 : Nat) : Int)), (0, a1), (0, a2), (0, a3), (0, a4)] [(0, q10.1)] q10.2 = _
          refine Eq.trans (x1 (h := 57) hT rfl rfl (by decide)) ?_
          refine Eq.trans (x1 (h := 58) hT rfl rfl (by decide)) ?_
          refine Eq.trans (x1 (h := 59) hT rfl rfl (by decide)) ?_
          refine Eq.trans (x1 (h := 60) hT rfl rfl (by decide)) ?_
          refine Eq.trans (x31 (r := a0) (cl := 12) (as := [(0, a1), (0, a3), (0, a4)]) (st' := [(0, q10.1)]) (h := 61) hT rfl sm_57 rfl ha0) ?_
          refine xbd (fun q11 => ?_)
          rw [rv_57]
          change zB P 144 62 [(2, ((a0 : Nat) : Int)), (0, a1), (0, a2), (0, a3), (0, a4)] [(0, q11.1), (0, q10.1)] q11.2 = _
          refine Eq.trans (x17_3 (h := 62) hT rfl) ?_
          refine xit (fun _ => ?_) (fun _ => ?_)
          · refine Eq.trans (x0 (h := 65) hT rfl) ?_
            exact x203c (h := 66) hT rfl (by decide)
          · refine Eq.trans (x0 (h := 63) hT rfl) ?_
            refine Eq.trans (x18 (h := 64) hT rfl) ?_
            exact x203c (h := 66) hT rfl (by decide)
      · refine Eq.trans (x1 (h := 36) hT rfl rfl (by decide)) ?_
        refine Eq.trans (x1 (h := 37) hT rfl rfl (by decide)) ?_
        refine Eq.trans (x1 (h := 38) hT rfl rfl (by decide)) ?_
        refine Eq.trans (x1 (h := 39) hT rfl rfl (by decide)) ?_
        refine Eq.trans (x31 (r := a0) (cl := 12) (as := [(0, a1), (0, a3)]) (st' := [(0, a4)]) (h := 40) hT rfl sm_58 rfl ha0) ?_
        refine xbd (fun q12 => ?_)
        rw [rv_58]
        change zB P 144 41 [(2, ((a0 : Nat) : Int)), (0, a1), (0, a2), (0, a3), (0, a4)] [(0, q12.1), (0, a4)] q12.2 = _
        refine Eq.trans (x17_3 (h := 41) hT rfl) ?_
        refine xit (fun _ => ?_) (fun _ => ?_)
        · refine Eq.trans (x0 (h := 44) hT rfl) ?_
          exact x203c (h := 45) hT rfl (by decide)
        · refine Eq.trans (x0 (h := 42) hT rfl) ?_
          refine Eq.trans (x18 (h := 43) hT rfl) ?_
          exact x203c (h := 45) hT rfl (by decide)
    · refine Eq.trans (x1 (h := 14) hT rfl rfl (by decide)) ?_
      refine Eq.trans (x1 (h := 15) hT rfl rfl (by decide)) ?_
      refine Eq.trans (x1 (h := 16) hT rfl rfl (by decide)) ?_
      refine Eq.trans (x1 (h := 17) hT rfl rfl (by decide)) ?_
      refine Eq.trans (x31 (r := a0) (cl := 12) (as := [(0, a1), (0, a2), (0, a4)]) (st' := []) (h := 18) hT rfl sm_57 rfl ha0) ?_
      refine xbd (fun q13 => ?_)
      rw [rv_57]
      change zB P 144 19 [(2, ((a0 : Nat) : Int)), (0, a1), (0, a2), (0, a3), (0, a4)] [(0, q13.1)] q13.2 = _
      refine Eq.trans (x1 (h := 19) hT rfl rfl (by decide)) ?_
      refine Eq.trans (x1 (h := 20) hT rfl rfl (by decide)) ?_
      refine Eq.trans (x1 (h := 21) hT rfl rfl (by decide)) ?_
      refine Eq.trans (x1 (h := 22) hT rfl rfl (by decide)) ?_
      refine Eq.trans (x31 (r := a0) (cl := 12) (as := [(0, a1), (0, a3), (0, a4)]) (st' := [(0, q13.1)]) (h := 23) hT rfl sm_57 rfl ha0) ?_
      refine xbd (fun q14 => ?_)
      rw [rv_57]
      change zB P 144 24 [(2, ((a0 : Nat) : Int)), (0, a1), (0, a2), (0, a3), (0, a4)] [(0, q14.1), (0, q13.1)] q14.2 = _
      refine Eq.trans (x17_1 (h := 24) hT rfl) ?_
      refine xit (fun _ => ?_) (fun _ => ?_)
      · refine Eq.trans (x1 (h := 30) hT rfl rfl (by decide)) ?_
        refine Eq.trans (x1 (h := 31) hT rfl rfl (by decide)) ?_
        refine Eq.trans (x1 (h := 32) hT rfl rfl (by decide)) ?_
        refine Eq.trans (x1 (h := 33) hT rfl rfl (by decide)) ?_
        refine Eq.trans (x31 (r := a0) (cl := 12) (as := [(0, a1), (0, a2)]) (st' := [(0, a4)]) (h := 34) hT rfl sm_58 rfl ha0) ?_
        refine xbd (fun q15 => ?_)
        rw [rv_58]
        change zB P 144 35 [(2, ((a0 : Nat) : Int)), (0, a1), (0, a2), (0, a3), (0, a4)] [(0, q15.1), (0, a4)] q15.2 = _
        refine Eq.trans (x17_1 (h := 35) hT rfl) ?_
        refine xit (fun _ => ?_) (fun _ => ?_)
        · refine Eq.trans (x1 (h := 46) hT rfl rfl (by decide)) ?_
          refine Eq.trans (x1 (h := 47) hT rfl rfl (by decide)) ?_
          refine Eq.trans (x1 (h := 48) hT rfl rfl (by decide)) ?_
          refine Eq.trans (x1 (h := 49) hT rfl rfl (by decide)) ?_
          refine Eq.trans (x31 (r := a0) (cl := 12) (as := [(0, a1), (0, a3)]) (st' := [(0, a4)]) (h := 50) hT rfl sm_58 rfl ha0) ?_
          refine xbd (fun q16 => ?_)
          rw [rv_58]
          change zB P 144 51 [(2, ((a0 : Nat) : Int)), (0, a1), (0, a2), (0, a3), (0, a4)] [(0, q16.1), (0, a4)] q16.2 = _
          refine Eq.trans (x17_3 (h := 51) hT rfl) ?_
          refine xit (fun _ => ?_) (fun _ => ?_)
          · refine Eq.trans (x0 (h := 65) hT rfl) ?_
            exact x203c (h := 66) hT rfl (by decide)
          · refine Eq.trans (x1 (h := 52) hT rfl rfl (by decide)) ?_
            refine Eq.trans (x1 (h := 53) hT rfl rfl (by decide)) ?_
            refine Eq.trans (x1 (h := 54) hT rfl rfl (by decide)) ?_
            refine Eq.trans (x1 (h := 55) hT rfl rfl (by decide)) ?_
            refine Eq.trans (x31 (r := a0) (cl := 12) (as := [(0, a1), (0, a2), (0, a4)]) (st' := []) (h := 56) hT rfl sm_57 rfl ha0) ?_
            refine xbd (fun q17 => ?_)
            rw [rv_57]
            change zB P 144 57 [(2, ((a0 : Nat) : Int)), (0, a1), (0, a2), (0, a3), (0, a4)] [(0, q17.1)] q17.2 = _
            refine Eq.trans (x1 (h := 57) hT rfl rfl (by decide)) ?_
            refine Eq.trans (x1 (h := 58) hT rfl rfl (by decide)) ?_
            refine Eq.trans (x1 (h := 59) hT rfl rfl (by decide)) ?_
            refine Eq.trans (x1 (h := 60) hT rfl rfl (by decide)) ?_
            refine Eq.trans (x31 (r := a0) (cl := 12) (as := [(0, a1), (0, a3), (0, a4)]) (st' := [(0, q17.1)]) (h := 61) hT rfl sm_57 rfl ha0) ?_
            refine xbd (fun q18 => ?_)
            rw [rv_57]
            change zB P 144 62 [(2, ((a0 : Nat) : Int)), (0, a1), (0, a2), (0, a3), (0, a4)] [(0, q18.1), (0, q17.1)] q18.2 = _
            refine Eq.trans (x17_3 (h := 62) hT rfl) ?_
            refine xit (fun _ => ?_) (fun _ => ?_)
            · refine Eq.trans (x0 (h := 65) hT rfl) ?_
              exact x203c (h := 66) hT rfl (by decide)
            · refine Eq.trans (x0 (h := 63) hT rfl) ?_
              refine Eq.trans (x18 (h := 64) hT rfl) ?_
              exact x203c (h := 66) hT rfl (by decide)
        · refine Eq.trans (x1 (h := 36) hT rfl rfl (by decide)) ?_
          refine Eq.trans (x1 (h := 37) hT rfl rfl (by decide)) ?_
          refine Eq.trans (x1 (h := 38) hT rfl rfl (by decide)) ?_
          refine Eq.trans (x1 (h := 39) hT rfl rfl (by decide)) ?_
          refine Eq.trans (x31 (r := a0) (cl := 12) (as := [(0, a1), (0, a3)]) (st' := [(0, a4)]) (h := 40) hT rfl sm_58 rfl ha0) ?_
          refine xbd (fun q19 => ?_)
          rw [rv_58]
          change zB P 144 41 [(2, ((a0 : Nat) : Int)), (0, a1), (0, a2), (0, a3), (0, a4)] [(0, q19.1), (0, a4)] q19.2 = _
          refine Eq.trans (x17_3 (h := 41) hT rfl) ?_
          refine xit (fun _ => ?_) (fun _ => ?_)
          · refine Eq.trans (x0 (h := 44) hT rfl) ?_
            exact x203c (h := 45) hT rfl (by decide)
          · refine Eq.trans (x0 (h := 42) hT rfl) ?_
            refine Eq.trans (x18 (h := 43) hT rfl) ?_
            exact x203c (h := 45) hT rfl (by decide)
      · refine Eq.trans (x1 (h := 25) hT rfl rfl (by decide)) ?_
        refine Eq.trans (x0 (h := 26) hT rfl) ?_
        refine Eq.trans (x5_0 (h := 27) hT rfl) ?_
        refine Eq.trans (x2 (ls' := [(2, ((a0 : Nat) : Int)), (0, a1), (0, a2), (0, a3), (0, (a4 + 1))]) (h := 28) hT rfl (Nat.le_of_ble_eq_true rfl) rfl) ?_
        refine Eq.trans (x18 (h := 29) hT rfl) ?_
        exact rfl
/-! WordLinksModel.isPair(I)Z -/
set_option maxRecDepth 100000 in
theorem e_145 {P : zP} {d : zD P} {a0 : Nat} {a1 : Int} (ha0 : zkd a0 = 12) : MM P 145 [(2, ((a0 : Nat) : Int)), (0, a1)] d = (if zin 0 18180 then ((MM P 55 [(0, a1), (0, 0), (0, ((d.m ((a0 + 1)) (zix 0)) - 1))] d).bind fun q2 => (if q2.1 = 0 ∨ q2.1 = 1 then some (q2.1, q2.2) else none)) else none) := by
  have hT := cT_145
  refine Eq.trans (MM_def sm_145 (Nat.le_of_ble_eq_true rfl)) ?_
  change zB P 145 0 [(2, ((a0 : Nat) : Int)), (0, a1)] [] d = _
  refine Eq.trans (x1 (h := 0) hT rfl rfl (by decide)) ?_
  refine Eq.trans (x0 (h := 1) hT rfl) ?_
  refine Eq.trans (x1 (h := 2) hT rfl rfl (by decide)) ?_
  refine Eq.trans (x21r (r := a0) (cl := 12) (o := 1) (h := 3) hT rfl ha0 (by decide) rfl) ?_
  refine Eq.trans (x0 (h := 4) hT rfl) ?_
  refine Eq.trans (x24 (r := (a0 + 1)) (n := 18180) (h := 5) hT rfl (Or.inl (kd_12_0 ha0)) (ln_12_0 ha0)) ?_
  refine xig (fun hz1 => ?_)
  refine Eq.trans (x0 (h := 6) hT rfl) ?_
  refine Eq.trans (x5_1 (h := 7) hT rfl) ?_
  refine Eq.trans (x34 (as := [(0, a1), (0, 0), (0, ((d.m ((a0 + 1)) (zix 0)) - 1))]) (st' := []) (h := 8) hT rfl sm_55 rfl) ?_
  refine xbd (fun q2 => ?_)
  rw [rv_55]
  change zB P 145 9 [(2, ((a0 : Nat) : Int)), (0, a1)] [(0, q2.1)] q2.2 = _
  exact x203 (h := 9) hT rfl
/-! WordLinksModel.isPartner(III)Z -/
set_option maxRecDepth 100000 in
theorem e_146 {P : zP} {d : zD P} {a0 : Nat} {a1 : Int} {a2 : Int} {a3 : Int} (ha0 : zkd a0 = 12) : MM P 146 [(2, ((a0 : Nat) : Int)), (0, a1), (0, a2), (0, a3)] d = ((MM P 71 [(2, ((a0 : Nat) : Int)), (0, a1), (0, a2), (0, a3)] d).bind fun q1 => (if wr q1.1 = wr ((-1)) then some (0, q1.2) else some (1, q1.2))) := by
  have hT := cT_146
  refine Eq.trans (MM_def sm_146 (Nat.le_of_ble_eq_true rfl)) ?_
  change zB P 146 0 [(2, ((a0 : Nat) : Int)), (0, a1), (0, a2), (0, a3)] [] d = _
  refine Eq.trans (x1 (h := 0) hT rfl rfl (by decide)) ?_
  refine Eq.trans (x1 (h := 1) hT rfl rfl (by decide)) ?_
  refine Eq.trans (x1 (h := 2) hT rfl rfl (by decide)) ?_
  refine Eq.trans (x1 (h := 3) hT rfl rfl (by decide)) ?_
  refine Eq.trans (x31 (r := a0) (cl := 12) (as := [(0, a1), (0, a2), (0, a3)]) (st' := []) (h := 4) hT rfl sm_71 rfl ha0) ?_
  refine xbd (fun q1 => ?_)
  rw [rv_71]
  change zB P 146 5 [(2, ((a0 : Nat) : Int)), (0, a1), (0, a2), (0, a3)] [(0, q1.1)] q1.2 = _
  refine Eq.trans (x0 (h := 5) hT rfl) ?_
  refine Eq.trans (x17_0 (h := 6) hT rfl) ?_
  refine xit (fun _ => ?_) (fun _ => ?_)
  · refine Eq.trans (x0 (h := 9) hT rfl) ?_
    exact x203c (h := 10) hT rfl (by decide)
  · refine Eq.trans (x0 (h := 7) hT rfl) ?_
    refine Eq.trans (x18 (h := 8) hT rfl) ?_
    exact x203c (h := 10) hT rfl (by decide)
/-! WordLinksModel.isSide(I)Z -/
set_option maxRecDepth 100000 in
theorem e_147 {P : zP} {d : zD P} {a0 : Int} : MM P 147 [(0, a0)] d = ((MM P 55 [(0, a0), (0, 0), (0, 1)] d).bind fun q1 => (if q1.1 = 0 ∨ q1.1 = 1 then some (q1.1, q1.2) else none)) := by
  have hT := cT_147
  refine Eq.trans (MM_def sm_147 (Nat.le_of_ble_eq_true rfl)) ?_
  change zB P 147 0 [(0, a0)] [] d = _
  refine Eq.trans (x1 (h := 0) hT rfl rfl (by decide)) ?_
  refine Eq.trans (x0 (h := 1) hT rfl) ?_
  refine Eq.trans (x0 (h := 2) hT rfl) ?_
  refine Eq.trans (x34 (as := [(0, a0), (0, 0), (0, 1)]) (st' := []) (h := 3) hT rfl sm_55 rfl) ?_
  refine xbd (fun q1 => ?_)
  rw [rv_55]
  change zB P 147 4 [(0, a0)] [(0, q1.1)] q1.2 = _
  exact x203 (h := 4) hT rfl
/-! WordLinksModel.isUsed(II)Z -/
set_option maxRecDepth 100000 in
theorem e_148 {P : zP} {d : zD P} {a0 : Nat} {a1 : Int} {a2 : Int} (ha0 : zkd a0 = 12) : MM P 148 [(2, ((a0 : Nat) : Int)), (0, a1), (0, a2)] d = zB P 148 2 [(2, ((a0 : Nat) : Int)), (0, a1), (0, a2), (0, 0), (3, 0)] [] d := by
  have hT := cT_148
  refine Eq.trans (MM_def sm_148 (Nat.le_of_ble_eq_true rfl)) ?_
  change zB P 148 0 [(2, ((a0 : Nat) : Int)), (0, a1), (0, a2), (3, 0), (3, 0)] [] d = _
  refine Eq.trans (x0 (h := 0) hT rfl) ?_
  refine Eq.trans (x2 (ls' := [(2, ((a0 : Nat) : Int)), (0, a1), (0, a2), (0, 0), (3, 0)]) (h := 1) hT rfl (Nat.le_of_ble_eq_true rfl) rfl) ?_
  exact rfl
set_option maxRecDepth 100000 in
theorem q_148_2 {P : zP} {d : zD P} {a0 : Nat} {a1 : Int} {a2 : Int} {a3 : Int} {g4 : zV} (ha0 : zkd a0 = 12) : zB P 148 2 [(2, ((a0 : Nat) : Int)), (0, a1), (0, a2), (0, a3), g4] [] d = (if zin 0 18180 then (if wr ((d.m ((a0 + 1)) (zix 0))) ≤ wr a3 then some (0, d) else zB P 148 10 [(2, ((a0 : Nat) : Int)), (0, a1), (0, a2), (0, a3), (0, 0)] [] d) else none) := by
  have hT := cT_148
  refine Eq.trans (x1 (h := 2) hT rfl rfl (by decide)) ?_
  refine Eq.trans (x1 (h := 3) hT rfl rfl (by decide)) ?_
  refine Eq.trans (x21r (r := a0) (cl := 12) (o := 1) (h := 4) hT rfl ha0 (by decide) rfl) ?_
  refine Eq.trans (x0 (h := 5) hT rfl) ?_
  refine Eq.trans (x24 (r := (a0 + 1)) (n := 18180) (h := 6) hT rfl (Or.inl (kd_12_0 ha0)) (ln_12_0 ha0)) ?_
  refine xig (fun hz1 => ?_)
  refine Eq.trans (x17_3 (h := 7) hT rfl) ?_
  refine xit (fun _ => ?_) (fun _ => ?_)
  · refine Eq.trans (x0 (h := 29) hT rfl) ?_
    exact x203c (h := 30) hT rfl (by decide)
  · refine Eq.trans (x0 (h := 8) hT rfl) ?_
    refine Eq.trans (x2 (ls' := [(2, ((a0 : Nat) : Int)), (0, a1), (0, a2), (0, a3), (0, 0)]) (h := 9) hT rfl (Nat.le_of_ble_eq_true rfl) rfl) ?_
    exact rfl
set_option maxRecDepth 100000 in
theorem q_148_10 {P : zP} {d : zD P} {a0 : Nat} {a1 : Int} {a2 : Int} {a3 : Int} {a4 : Int} (ha0 : zkd a0 = 12) : zB P 148 10 [(2, ((a0 : Nat) : Int)), (0, a1), (0, a2), (0, a3), (0, a4)] [] d = ((MM P 60 [(2, ((a0 : Nat) : Int)), (0, a3), (0, a1)] d).bind fun q2 => (if wr q2.1 ≤ wr a4 then zB P 148 2 [(2, ((a0 : Nat) : Int)), (0, a1), (0, a2), (0, (a3 + 1)), (0, a4)] [] q2.2 else ((MM P 80 [(2, ((a0 : Nat) : Int)), (0, a3), (0, a1), (0, a4)] q2.2).bind fun q3 => (if wr q3.1 ≠ wr a2 then zB P 148 10 [(2, ((a0 : Nat) : Int)), (0, a1), (0, a2), (0, a3), (0, (a4 + 1))] [] q3.2 else some (1, q3.2))))) := by
  have hT := cT_148
  refine Eq.trans (x1 (h := 10) hT rfl rfl (by decide)) ?_
  refine Eq.trans (x1 (h := 11) hT rfl rfl (by decide)) ?_
  refine Eq.trans (x1 (h := 12) hT rfl rfl (by decide)) ?_
  refine Eq.trans (x1 (h := 13) hT rfl rfl (by decide)) ?_
  refine Eq.trans (x31 (r := a0) (cl := 12) (as := [(0, a3), (0, a1)]) (st' := [(0, a4)]) (h := 14) hT rfl sm_60 rfl ha0) ?_
  refine xbd (fun q2 => ?_)
  rw [rv_60]
  change zB P 148 15 [(2, ((a0 : Nat) : Int)), (0, a1), (0, a2), (0, a3), (0, a4)] [(0, q2.1), (0, a4)] q2.2 = _
  refine Eq.trans (x17_3 (h := 15) hT rfl) ?_
  refine xit (fun _ => ?_) (fun _ => ?_)
  · refine Eq.trans (x4 (ls' := [(2, ((a0 : Nat) : Int)), (0, a1), (0, a2), (0, (a3 + 1)), (0, a4)]) (h := 27) hT rfl rfl rfl) ?_
    refine Eq.trans (x18 (h := 28) hT rfl) ?_
    exact rfl
  · refine Eq.trans (x1 (h := 16) hT rfl rfl (by decide)) ?_
    refine Eq.trans (x1 (h := 17) hT rfl rfl (by decide)) ?_
    refine Eq.trans (x1 (h := 18) hT rfl rfl (by decide)) ?_
    refine Eq.trans (x1 (h := 19) hT rfl rfl (by decide)) ?_
    refine Eq.trans (x31 (r := a0) (cl := 12) (as := [(0, a3), (0, a1), (0, a4)]) (st' := []) (h := 20) hT rfl sm_80 rfl ha0) ?_
    refine xbd (fun q3 => ?_)
    rw [rv_80]
    change zB P 148 21 [(2, ((a0 : Nat) : Int)), (0, a1), (0, a2), (0, a3), (0, a4)] [(0, q3.1)] q3.2 = _
    refine Eq.trans (x1 (h := 21) hT rfl rfl (by decide)) ?_
    refine Eq.trans (x17_1 (h := 22) hT rfl) ?_
    refine xit (fun _ => ?_) (fun _ => ?_)
    · refine Eq.trans (x4 (ls' := [(2, ((a0 : Nat) : Int)), (0, a1), (0, a2), (0, a3), (0, (a4 + 1))]) (h := 25) hT rfl rfl rfl) ?_
      refine Eq.trans (x18 (h := 26) hT rfl) ?_
      exact rfl
    · refine Eq.trans (x0 (h := 23) hT rfl) ?_
      exact x203c (h := 24) hT rfl (by decide)
/-! WordLinksModel.isWord(II)Z -/
set_option maxRecDepth 100000 in
theorem e_149 {P : zP} {d : zD P} {a0 : Nat} {a1 : Int} {a2 : Int} (ha0 : zkd a0 = 12) : MM P 149 [(2, ((a0 : Nat) : Int)), (0, a1), (0, a2)] d = ((MM P 81 [(2, ((a0 : Nat) : Int)), (0, a1)] d).bind fun q1 => ((MM P 55 [(0, a2), (0, 0), (0, (q1.1 - 1))] q1.2).bind fun q2 => (if q2.1 = 0 ∨ q2.1 = 1 then some (q2.1, q2.2) else none))) := by
  have hT := cT_149
  refine Eq.trans (MM_def sm_149 (Nat.le_of_ble_eq_true rfl)) ?_
  change zB P 149 0 [(2, ((a0 : Nat) : Int)), (0, a1), (0, a2)] [] d = _
  refine Eq.trans (x1 (h := 0) hT rfl rfl (by decide)) ?_
  refine Eq.trans (x0 (h := 1) hT rfl) ?_
  refine Eq.trans (x1 (h := 2) hT rfl rfl (by decide)) ?_
  refine Eq.trans (x1 (h := 3) hT rfl rfl (by decide)) ?_
  refine Eq.trans (x31 (r := a0) (cl := 12) (as := [(0, a1)]) (st' := [(0, 0), (0, a2)]) (h := 4) hT rfl sm_81 rfl ha0) ?_
  refine xbd (fun q1 => ?_)
  rw [rv_81]
  change zB P 149 5 [(2, ((a0 : Nat) : Int)), (0, a1), (0, a2)] [(0, q1.1), (0, 0), (0, a2)] q1.2 = _
  refine Eq.trans (x0 (h := 5) hT rfl) ?_
  refine Eq.trans (x5_1 (h := 6) hT rfl) ?_
  refine Eq.trans (x34 (as := [(0, a2), (0, 0), (0, (q1.1 - 1))]) (st' := []) (h := 7) hT rfl sm_55 rfl) ?_
  refine xbd (fun q2 => ?_)
  rw [rv_55]
  change zB P 149 8 [(2, ((a0 : Nat) : Int)), (0, a1), (0, a2)] [(0, q2.1)] q2.2 = _
  exact x203 (h := 8) hT rfl
/-! WordLinksModel.keep()I -/
set_option maxRecDepth 100000 in
theorem e_150 {P : zP} {d : zD P} {a0 : Nat} (ha0 : zkd a0 = 12) : MM P 150 [(2, ((a0 : Nat) : Int))] d = ((MM P 50 [(2, ((a0 : Nat) : Int)), (0, 0), (0, 1)] ((d.up a0 1 1))).bind fun q1 => (if zin 0 18180 then some ((q1.2.m ((a0 + 1)) (zix 0)), q1.2) else none)) := by
  have hT := cT_150
  refine Eq.trans (MM_def sm_150 (Nat.le_of_ble_eq_true rfl)) ?_
  change zB P 150 0 [(2, ((a0 : Nat) : Int))] [] d = _
  refine Eq.trans (x1 (h := 0) hT rfl rfl (by decide)) ?_
  refine Eq.trans (x0 (h := 1) hT rfl) ?_
  refine Eq.trans (x22b (r := a0) (cl := 12) (h := 2) hT rfl ha0 (by decide) rfl) ?_
  refine Eq.trans (if_pos (by decide)) ?_
  refine Eq.trans (x1 (h := 3) hT rfl rfl (by decide)) ?_
  refine Eq.trans (x0 (h := 4) hT rfl) ?_
  refine Eq.trans (x0 (h := 5) hT rfl) ?_
  refine Eq.trans (x31 (r := a0) (cl := 12) (as := [(0, 0), (0, 1)]) (st' := []) (h := 6) hT rfl sm_50 rfl ha0) ?_
  refine xbd (fun q1 => ?_)
  rw [rv_50]
  change zB P 150 7 [(2, ((a0 : Nat) : Int))] [] q1.2 = _
  refine Eq.trans (x1 (h := 7) hT rfl rfl (by decide)) ?_
  refine Eq.trans (x21r (r := a0) (cl := 12) (o := 1) (h := 8) hT rfl ha0 (by decide) rfl) ?_
  refine Eq.trans (x0 (h := 9) hT rfl) ?_
  refine Eq.trans (x24 (r := (a0 + 1)) (n := 18180) (h := 10) hT rfl (Or.inl (kd_12_0 ha0)) (ln_12_0 ha0)) ?_
  refine xig (fun hz2 => ?_)
  exact x201 (h := 11) hT rfl
/-! WordLinksModel.least(I)I -/
set_option maxRecDepth 100000 in
theorem e_151 {P : zP} {d : zD P} {a0 : Nat} {a1 : Int} (ha0 : zkd a0 = 12) : MM P 151 [(2, ((a0 : Nat) : Int)), (0, a1)] d = ((MM P 55 [(0, a1), (0, 0), (0, 100000)] d).bind fun q1 => (if wr q1.1 ≠ 0 then (if zin 1 18180 then (if zin 1 18180 then some ((q1.2.m ((a0 + 1)) (zix 1)), (q1.2.up ((a0 + 1)) (zix 1) a1)) else none) else none) else some ((-1), q1.2))) := by
  have hT := cT_151
  refine Eq.trans (MM_def sm_151 (Nat.le_of_ble_eq_true rfl)) ?_
  change zB P 151 0 [(2, ((a0 : Nat) : Int)), (0, a1), (3, 0)] [] d = _
  refine Eq.trans (x1 (h := 0) hT rfl rfl (by decide)) ?_
  refine Eq.trans (x0 (h := 1) hT rfl) ?_
  refine Eq.trans (x0 (h := 2) hT rfl) ?_
  refine Eq.trans (x34 (as := [(0, a1), (0, 0), (0, 100000)]) (st' := []) (h := 3) hT rfl sm_55 rfl) ?_
  refine xbd (fun q1 => ?_)
  rw [rv_55]
  change zB P 151 4 [(2, ((a0 : Nat) : Int)), (0, a1), (3, 0)] [(0, q1.1)] q1.2 = _
  refine Eq.trans (x16_1 (h := 4) hT rfl) ?_
  refine xit (fun _ => ?_) (fun _ => ?_)
  · refine Eq.trans (x1 (h := 7) hT rfl rfl (by decide)) ?_
    refine Eq.trans (x21r (r := a0) (cl := 12) (o := 1) (h := 8) hT rfl ha0 (by decide) rfl) ?_
    refine Eq.trans (x0 (h := 9) hT rfl) ?_
    refine Eq.trans (x24 (r := (a0 + 1)) (n := 18180) (h := 10) hT rfl (Or.inl (kd_12_0 ha0)) (ln_12_0 ha0)) ?_
    refine xig (fun hz2 => ?_)
    refine Eq.trans (x2 (ls' := [(2, ((a0 : Nat) : Int)), (0, a1), (0, (q1.2.m ((a0 + 1)) (zix 1)))]) (h := 11) hT rfl (Nat.le_of_ble_eq_true rfl) rfl) ?_
    refine Eq.trans (x1 (h := 12) hT rfl rfl (by decide)) ?_
    refine Eq.trans (x21r (r := a0) (cl := 12) (o := 1) (h := 13) hT rfl ha0 (by decide) rfl) ?_
    refine Eq.trans (x0 (h := 14) hT rfl) ?_
    refine Eq.trans (x1 (h := 15) hT rfl rfl (by decide)) ?_
    refine Eq.trans (x25a (r := (a0 + 1)) (n := 18180) (h := 16) hT rfl (kd_12_0 ha0) (ln_12_0 ha0) (by decide) rfl) ?_
    refine xig (fun hz3 => ?_)
    refine Eq.trans (x1 (h := 17) hT rfl rfl (by decide)) ?_
    exact x201 (h := 18) hT rfl
  · refine Eq.trans (x0 (h := 5) hT rfl) ?_
    exact x201 (h := 6) hT rfl
/-! WordLinksModel.likenessOf(II)I -/
set_option maxRecDepth 100000 in
theorem e_152 {P : zP} {d : zD P} {a0 : Nat} {a1 : Int} {a2 : Int} (ha0 : zkd a0 = 12) : MM P 152 [(2, ((a0 : Nat) : Int)), (0, a1), (0, a2)] d = zB P 152 2 [(2, ((a0 : Nat) : Int)), (0, a1), (0, a2), (0, 0), (3, 0), (3, 0)] [] d := by
  have hT := cT_152
  refine Eq.trans (MM_def sm_152 (Nat.le_of_ble_eq_true rfl)) ?_
  change zB P 152 0 [(2, ((a0 : Nat) : Int)), (0, a1), (0, a2), (3, 0), (3, 0), (3, 0)] [] d = _
  refine Eq.trans (x0 (h := 0) hT rfl) ?_
  refine Eq.trans (x2 (ls' := [(2, ((a0 : Nat) : Int)), (0, a1), (0, a2), (0, 0), (3, 0), (3, 0)]) (h := 1) hT rfl (Nat.le_of_ble_eq_true rfl) rfl) ?_
  exact rfl
set_option maxRecDepth 100000 in
theorem q_152_2 {P : zP} {d : zD P} {a0 : Nat} {a1 : Int} {a2 : Int} {a3 : Int} {g4 : zV} {g5 : zV} (ha0 : zkd a0 = 12) : zB P 152 2 [(2, ((a0 : Nat) : Int)), (0, a1), (0, a2), (0, a3), g4, g5] [] d = (if wr 64 ≤ wr a3 then zB P 152 14 [(2, ((a0 : Nat) : Int)), (0, a1), (0, a2), (0, 1), g4, g5] [] d else (if zin a3 64 then zB P 152 2 [(2, ((a0 : Nat) : Int)), (0, a1), (0, a2), (0, (a3 + 1)), g4, g5] [] ((d.up ((a0 + 14)) (zix a3) 0)) else none)) := by
  have hT := cT_152
  refine Eq.trans (x1 (h := 2) hT rfl rfl (by decide)) ?_
  refine Eq.trans (x0 (h := 3) hT rfl) ?_
  refine Eq.trans (x17_3 (h := 4) hT rfl) ?_
  refine xit (fun _ => ?_) (fun _ => ?_)
  · refine Eq.trans (x0 (h := 12) hT rfl) ?_
    refine Eq.trans (x2 (ls' := [(2, ((a0 : Nat) : Int)), (0, a1), (0, a2), (0, 1), g4, g5]) (h := 13) hT rfl (Nat.le_of_ble_eq_true rfl) rfl) ?_
    exact rfl
  · refine Eq.trans (x1 (h := 5) hT rfl rfl (by decide)) ?_
    refine Eq.trans (x21r (r := a0) (cl := 12) (o := 14) (h := 6) hT rfl ha0 (by decide) rfl) ?_
    refine Eq.trans (x1 (h := 7) hT rfl rfl (by decide)) ?_
    refine Eq.trans (x0 (h := 8) hT rfl) ?_
    refine Eq.trans (x25a (r := (a0 + 14)) (n := 64) (h := 9) hT rfl (kd_12_21 ha0) (ln_12_21 ha0) (by decide) rfl) ?_
    refine xig (fun hz1 => ?_)
    refine Eq.trans (x4 (ls' := [(2, ((a0 : Nat) : Int)), (0, a1), (0, a2), (0, (a3 + 1)), g4, g5]) (h := 10) hT rfl rfl rfl) ?_
    refine Eq.trans (x18 (h := 11) hT rfl) ?_
    exact rfl
set_option maxRecDepth 100000 in
theorem q_152_14 {P : zP} {d : zD P} {a0 : Nat} {a1 : Int} {a2 : Int} {a3 : Int} {g4 : zV} {g5 : zV} (ha0 : zkd a0 = 12) : zB P 152 14 [(2, ((a0 : Nat) : Int)), (0, a1), (0, a2), (0, a3), g4, g5] [] d = ((MM P 58 [(2, ((a0 : Nat) : Int)), (0, 0), (0, a1)] d).bind fun q2 => (if wr q2.1 < wr a3 then ((MM P 58 [(2, ((a0 : Nat) : Int)), (0, 0), (0, a1)] q2.2).bind fun q3 => ((MM P 58 [(2, ((a0 : Nat) : Int)), (0, 1), (0, a2)] q3.2).bind fun q4 => (if zin (((8 * q3.1) + q4.1)) 64 then some ((q4.2.m ((a0 + 14)) (zix (((8 * q3.1) + q4.1)))), q4.2) else none))) else zB P 152 22 [(2, ((a0 : Nat) : Int)), (0, a1), (0, a2), (0, a3), (0, 1), g5] [] q2.2)) := by
  have hT := cT_152
  refine Eq.trans (x1 (h := 14) hT rfl rfl (by decide)) ?_
  refine Eq.trans (x1 (h := 15) hT rfl rfl (by decide)) ?_
  refine Eq.trans (x0 (h := 16) hT rfl) ?_
  refine Eq.trans (x1 (h := 17) hT rfl rfl (by decide)) ?_
  refine Eq.trans (x31 (r := a0) (cl := 12) (as := [(0, 0), (0, a1)]) (st' := [(0, a3)]) (h := 18) hT rfl sm_58 rfl ha0) ?_
  refine xbd (fun q2 => ?_)
  rw [rv_58]
  change zB P 152 19 [(2, ((a0 : Nat) : Int)), (0, a1), (0, a2), (0, a3), g4, g5] [(0, q2.1), (0, a3)] q2.2 = _
  refine Eq.trans (x17_4 (h := 19) hT rfl) ?_
  refine xit (fun _ => ?_) (fun _ => ?_)
  · refine Eq.trans (x1 (h := 95) hT rfl rfl (by decide)) ?_
    refine Eq.trans (x21r (r := a0) (cl := 12) (o := 14) (h := 96) hT rfl ha0 (by decide) rfl) ?_
    refine Eq.trans (x0 (h := 97) hT rfl) ?_
    refine Eq.trans (x1 (h := 98) hT rfl rfl (by decide)) ?_
    refine Eq.trans (x0 (h := 99) hT rfl) ?_
    refine Eq.trans (x1 (h := 100) hT rfl rfl (by decide)) ?_
    refine Eq.trans (x31 (r := a0) (cl := 12) (as := [(0, 0), (0, a1)]) (st' := [(0, 8), (2, (((a0 + 14) : Nat) : Int))]) (h := 101) hT rfl sm_58 rfl ha0) ?_
    refine xbd (fun q3 => ?_)
    rw [rv_58]
    change zB P 152 102 [(2, ((a0 : Nat) : Int)), (0, a1), (0, a2), (0, a3), g4, g5] [(0, q3.1), (0, 8), (2, (((a0 + 14) : Nat) : Int))] q3.2 = _
    refine Eq.trans (x5_2 (h := 102) hT rfl) ?_
    refine Eq.trans (x1 (h := 103) hT rfl rfl (by decide)) ?_
    refine Eq.trans (x0 (h := 104) hT rfl) ?_
    refine Eq.trans (x1 (h := 105) hT rfl rfl (by decide)) ?_
    refine Eq.trans (x31 (r := a0) (cl := 12) (as := [(0, 1), (0, a2)]) (st' := [(0, (8 * q3.1)), (2, (((a0 + 14) : Nat) : Int))]) (h := 106) hT rfl sm_58 rfl ha0) ?_
    refine xbd (fun q4 => ?_)
    rw [rv_58]
    change zB P 152 107 [(2, ((a0 : Nat) : Int)), (0, a1), (0, a2), (0, a3), g4, g5] [(0, q4.1), (0, (8 * q3.1)), (2, (((a0 + 14) : Nat) : Int))] q4.2 = _
    refine Eq.trans (x5_0 (h := 107) hT rfl) ?_
    refine Eq.trans (x24 (r := (a0 + 14)) (n := 64) (h := 108) hT rfl (Or.inl (kd_12_21 ha0)) (ln_12_21 ha0)) ?_
    refine xig (fun hz5 => ?_)
    exact x201 (h := 109) hT rfl
  · refine Eq.trans (x0 (h := 20) hT rfl) ?_
    refine Eq.trans (x2 (ls' := [(2, ((a0 : Nat) : Int)), (0, a1), (0, a2), (0, a3), (0, 1), g5]) (h := 21) hT rfl (Nat.le_of_ble_eq_true rfl) rfl) ?_
    exact rfl
set_option maxRecDepth 100000 in
theorem q_152_22 {P : zP} {d : zD P} {a0 : Nat} {a1 : Int} {a2 : Int} {a3 : Int} {a4 : Int} {g5 : zV} (ha0 : zkd a0 = 12) : zB P 152 22 [(2, ((a0 : Nat) : Int)), (0, a1), (0, a2), (0, a3), (0, a4), g5] [] d = ((MM P 58 [(2, ((a0 : Nat) : Int)), (0, 1), (0, a2)] d).bind fun q6 => (if wr q6.1 < wr a4 then zB P 152 14 [(2, ((a0 : Nat) : Int)), (0, a1), (0, a2), (0, (a3 + 1)), (0, a4), g5] [] q6.2 else ((MM P 57 [(2, ((a0 : Nat) : Int)), (0, 0), (0, a1), (0, (a3 - 1))] q6.2).bind fun q7 => ((MM P 57 [(2, ((a0 : Nat) : Int)), (0, 1), (0, a2), (0, (a4 - 1))] q7.2).bind fun q8 => (if wr q7.1 ≠ wr q8.1 then (if wr 0 = 0 then (if zin ((((8 * a3) + a4) - 8)) 64 then (if zin ((((8 * a3) + a4) - 1)) 64 then ((MM P 61 [(0, (q8.2.m ((a0 + 14)) (zix ((((8 * a3) + a4) - 8))))), (0, (q8.2.m ((a0 + 14)) (zix ((((8 * a3) + a4) - 1)))))] q8.2).bind fun q11 => (if zin (((8 * a3) + a4)) 64 then zB P 152 22 [(2, ((a0 : Nat) : Int)), (0, a1), (0, a2), (0, a3), (0, (a4 + 1)), (0, 0)] [] ((q11.2.up ((a0 + 14)) (zix (((8 * a3) + a4))) q11.1)) else none)) else none) else none) else (if zin ((((8 * a3) + a4) - 9)) 64 then (if zin (((8 * a3) + a4)) 64 then zB P 152 22 [(2, ((a0 : Nat) : Int)), (0, a1), (0, a2), (0, a3), (0, (a4 + 1)), (0, 0)] [] ((q8.2.up ((a0 + 14)) (zix (((8 * a3) + a4))) (((q8.2.m ((a0 + 14)) (zix ((((8 * a3) + a4) - 9)))) + 1)))) else none) else none)) else (if wr 1 = 0 then (if zin ((((8 * a3) + a4) - 8)) 64 then (if zin ((((8 * a3) + a4) - 1)) 64 then ((MM P 61 [(0, (q8.2.m ((a0 + 14)) (zix ((((8 * a3) + a4) - 8))))), (0, (q8.2.m ((a0 + 14)) (zix ((((8 * a3) + a4) - 1)))))] q8.2).bind fun q17 => (if zin (((8 * a3) + a4)) 64 then zB P 152 22 [(2, ((a0 : Nat) : Int)), (0, a1), (0, a2), (0, a3), (0, (a4 + 1)), (0, 1)] [] ((q17.2.up ((a0 + 14)) (zix (((8 * a3) + a4))) q17.1)) else none)) else none) else none) else (if zin ((((8 * a3) + a4) - 9)) 64 then (if zin (((8 * a3) + a4)) 64 then zB P 152 22 [(2, ((a0 : Nat) : Int)), (0, a1), (0, a2), (0, a3), (0, (a4 + 1)), (0, 1)] [] ((q8.2.up ((a0 + 14)) (zix (((8 * a3) + a4))) (((q8.2.m ((a0 + 14)) (zix ((((8 * a3) + a4) - 9)))) + 1)))) else none) else none))))))) := by
  have hT := cT_152
  refine Eq.trans (x1 (h := 22) hT rfl rfl (by decide)) ?_
  refine Eq.trans (x1 (h := 23) hT rfl rfl (by decide)) ?_
  refine Eq.trans (x0 (h := 24) hT rfl) ?_
  refine Eq.trans (x1 (h := 25) hT rfl rfl (by decide)) ?_
  refine Eq.trans (x31 (r := a0) (cl := 12) (as := [(0, 1), (0, a2)]) (st' := [(0, a4)]) (h := 26) hT rfl sm_58 rfl ha0) ?_
  refine xbd (fun q6 => ?_)
  rw [rv_58]
  change zB P 152 27 [(2, ((a0 : Nat) : Int)), (0, a1), (0, a2), (0, a3), (0, a4), g5] [(0, q6.1), (0, a4)] q6.2 = _
  refine Eq.trans (x17_4 (h := 27) hT rfl) ?_
  refine xit (fun _ => ?_) (fun _ => ?_)
  · refine Eq.trans (x4 (ls' := [(2, ((a0 : Nat) : Int)), (0, a1), (0, a2), (0, (a3 + 1)), (0, a4), g5]) (h := 93) hT rfl rfl rfl) ?_
    refine Eq.trans (x18 (h := 94) hT rfl) ?_
    exact rfl
  · refine Eq.trans (x1 (h := 28) hT rfl rfl (by decide)) ?_
    refine Eq.trans (x0 (h := 29) hT rfl) ?_
    refine Eq.trans (x1 (h := 30) hT rfl rfl (by decide)) ?_
    refine Eq.trans (x1 (h := 31) hT rfl rfl (by decide)) ?_
    refine Eq.trans (x0 (h := 32) hT rfl) ?_
    refine Eq.trans (x5_1 (h := 33) hT rfl) ?_
    refine Eq.trans (x31 (r := a0) (cl := 12) (as := [(0, 0), (0, a1), (0, (a3 - 1))]) (st' := []) (h := 34) hT rfl sm_57 rfl ha0) ?_
    refine xbd (fun q7 => ?_)
    rw [rv_57]
    change zB P 152 35 [(2, ((a0 : Nat) : Int)), (0, a1), (0, a2), (0, a3), (0, a4), g5] [(0, q7.1)] q7.2 = _
    refine Eq.trans (x1 (h := 35) hT rfl rfl (by decide)) ?_
    refine Eq.trans (x0 (h := 36) hT rfl) ?_
    refine Eq.trans (x1 (h := 37) hT rfl rfl (by decide)) ?_
    refine Eq.trans (x1 (h := 38) hT rfl rfl (by decide)) ?_
    refine Eq.trans (x0 (h := 39) hT rfl) ?_
    refine Eq.trans (x5_1 (h := 40) hT rfl) ?_
    refine Eq.trans (x31 (r := a0) (cl := 12) (as := [(0, 1), (0, a2), (0, (a4 - 1))]) (st' := [(0, q7.1)]) (h := 41) hT rfl sm_57 rfl ha0) ?_
    refine xbd (fun q8 => ?_)
    rw [rv_57]
    change zB P 152 42 [(2, ((a0 : Nat) : Int)), (0, a1), (0, a2), (0, a3), (0, a4), g5] [(0, q8.1), (0, q7.1)] q8.2 = _
    refine Eq.trans (x17_1 (h := 42) hT rfl) ?_
    refine xit (fun _ => ?_) (fun _ => ?_)
    · refine Eq.trans (x0 (h := 45) hT rfl) ?_
      refine Eq.trans (x2 (ls' := [(2, ((a0 : Nat) : Int)), (0, a1), (0, a2), (0, a3), (0, a4), (0, 0)]) (h := 46) hT rfl (Nat.le_of_ble_eq_true rfl) rfl) ?_
      refine Eq.trans (x1 (h := 47) hT rfl rfl (by decide)) ?_
      refine Eq.trans (x21r (r := a0) (cl := 12) (o := 14) (h := 48) hT rfl ha0 (by decide) rfl) ?_
      refine Eq.trans (x0 (h := 49) hT rfl) ?_
      refine Eq.trans (x1 (h := 50) hT rfl rfl (by decide)) ?_
      refine Eq.trans (x5_2 (h := 51) hT rfl) ?_
      refine Eq.trans (x1 (h := 52) hT rfl rfl (by decide)) ?_
      refine Eq.trans (x5_0 (h := 53) hT rfl) ?_
      refine Eq.trans (x1 (h := 54) hT rfl rfl (by decide)) ?_
      refine Eq.trans (x16_0 (h := 55) hT rfl) ?_
      refine xit (fun _ => ?_) (fun _ => ?_)
      · refine Eq.trans (x1 (h := 69) hT rfl rfl (by decide)) ?_
        refine Eq.trans (x21r (r := a0) (cl := 12) (o := 14) (h := 70) hT rfl ha0 (by decide) rfl) ?_
        refine Eq.trans (x0 (h := 71) hT rfl) ?_
        refine Eq.trans (x1 (h := 72) hT rfl rfl (by decide)) ?_
        refine Eq.trans (x5_2 (h := 73) hT rfl) ?_
        refine Eq.trans (x1 (h := 74) hT rfl rfl (by decide)) ?_
        refine Eq.trans (x5_0 (h := 75) hT rfl) ?_
        refine Eq.trans (x0 (h := 76) hT rfl) ?_
        refine Eq.trans (x5_1 (h := 77) hT rfl) ?_
        refine Eq.trans (x24 (r := (a0 + 14)) (n := 64) (h := 78) hT rfl (Or.inl (kd_12_21 ha0)) (ln_12_21 ha0)) ?_
        refine xig (fun hz9 => ?_)
        refine Eq.trans (x1 (h := 79) hT rfl rfl (by decide)) ?_
        refine Eq.trans (x21r (r := a0) (cl := 12) (o := 14) (h := 80) hT rfl ha0 (by decide) rfl) ?_
        refine Eq.trans (x0 (h := 81) hT rfl) ?_
        refine Eq.trans (x1 (h := 82) hT rfl rfl (by decide)) ?_
        refine Eq.trans (x5_2 (h := 83) hT rfl) ?_
        refine Eq.trans (x1 (h := 84) hT rfl rfl (by decide)) ?_
        refine Eq.trans (x5_0 (h := 85) hT rfl) ?_
        refine Eq.trans (x0 (h := 86) hT rfl) ?_
        refine Eq.trans (x5_1 (h := 87) hT rfl) ?_
        refine Eq.trans (x24 (r := (a0 + 14)) (n := 64) (h := 88) hT rfl (Or.inl (kd_12_21 ha0)) (ln_12_21 ha0)) ?_
        refine xig (fun hz10 => ?_)
        refine Eq.trans (x34 (as := [(0, (q8.2.m ((a0 + 14)) (zix ((((8 * a3) + a4) - 8))))), (0, (q8.2.m ((a0 + 14)) (zix ((((8 * a3) + a4) - 1)))))]) (st' := [(0, ((8 * a3) + a4)), (2, (((a0 + 14) : Nat) : Int))]) (h := 89) hT rfl sm_61 rfl) ?_
        refine xbd (fun q11 => ?_)
        rw [rv_61]
        change zB P 152 90 [(2, ((a0 : Nat) : Int)), (0, a1), (0, a2), (0, a3), (0, a4), (0, 0)] [(0, q11.1), (0, ((8 * a3) + a4)), (2, (((a0 + 14) : Nat) : Int))] q11.2 = _
        refine Eq.trans (x25a (r := (a0 + 14)) (n := 64) (h := 90) hT rfl (kd_12_21 ha0) (ln_12_21 ha0) (by decide) rfl) ?_
        refine xig (fun hz12 => ?_)
        refine Eq.trans (x4 (ls' := [(2, ((a0 : Nat) : Int)), (0, a1), (0, a2), (0, a3), (0, (a4 + 1)), (0, 0)]) (h := 91) hT rfl rfl rfl) ?_
        refine Eq.trans (x18 (h := 92) hT rfl) ?_
        exact rfl
      · refine Eq.trans (x1 (h := 56) hT rfl rfl (by decide)) ?_
        refine Eq.trans (x21r (r := a0) (cl := 12) (o := 14) (h := 57) hT rfl ha0 (by decide) rfl) ?_
        refine Eq.trans (x0 (h := 58) hT rfl) ?_
        refine Eq.trans (x1 (h := 59) hT rfl rfl (by decide)) ?_
        refine Eq.trans (x5_2 (h := 60) hT rfl) ?_
        refine Eq.trans (x1 (h := 61) hT rfl rfl (by decide)) ?_
        refine Eq.trans (x5_0 (h := 62) hT rfl) ?_
        refine Eq.trans (x0 (h := 63) hT rfl) ?_
        refine Eq.trans (x5_1 (h := 64) hT rfl) ?_
        refine Eq.trans (x24 (r := (a0 + 14)) (n := 64) (h := 65) hT rfl (Or.inl (kd_12_21 ha0)) (ln_12_21 ha0)) ?_
        refine xig (fun hz13 => ?_)
        refine Eq.trans (x0 (h := 66) hT rfl) ?_
        refine Eq.trans (x5_0 (h := 67) hT rfl) ?_
        refine Eq.trans (x18 (h := 68) hT rfl) ?_
        refine Eq.trans (x25a (r := (a0 + 14)) (n := 64) (h := 90) hT rfl (kd_12_21 ha0) (ln_12_21 ha0) (by decide) rfl) ?_
        refine xig (fun hz14 => ?_)
        refine Eq.trans (x4 (ls' := [(2, ((a0 : Nat) : Int)), (0, a1), (0, a2), (0, a3), (0, (a4 + 1)), (0, 0)]) (h := 91) hT rfl rfl rfl) ?_
        refine Eq.trans (x18 (h := 92) hT rfl) ?_
        exact rfl
    · refine Eq.trans (x0 (h := 43) hT rfl) ?_
      refine Eq.trans (x18 (h := 44) hT rfl) ?_
      refine Eq.trans (x2 (ls' := [(2, ((a0 : Nat) : Int)), (0, a1), (0, a2), (0, a3), (0, a4), (0, 1)]) (h := 46) hT rfl (Nat.le_of_ble_eq_true rfl) rfl) ?_
      refine Eq.trans (x1 (h := 47) hT rfl rfl (by decide)) ?_
      refine Eq.trans (x21r (r := a0) (cl := 12) (o := 14) (h := 48) hT rfl ha0 (by decide) rfl) ?_
      refine Eq.trans (x0 (h := 49) hT rfl) ?_
      refine Eq.trans (x1 (h := 50) hT rfl rfl (by decide)) ?_
      refine Eq.trans (x5_2 (h := 51) hT rfl) ?_
      refine Eq.trans (x1 (h := 52) hT rfl rfl (by decide)) ?_
      refine Eq.trans (x5_0 (h := 53) hT rfl) ?_
      refine Eq.trans (x1 (h := 54) hT rfl rfl (by decide)) ?_
      refine Eq.trans (x16_0 (h := 55) hT rfl) ?_
      refine xit (fun _ => ?_) (fun _ => ?_)
      · refine Eq.trans (x1 (h := 69) hT rfl rfl (by decide)) ?_
        refine Eq.trans (x21r (r := a0) (cl := 12) (o := 14) (h := 70) hT rfl ha0 (by decide) rfl) ?_
        refine Eq.trans (x0 (h := 71) hT rfl) ?_
        refine Eq.trans (x1 (h := 72) hT rfl rfl (by decide)) ?_
        refine Eq.trans (x5_2 (h := 73) hT rfl) ?_
        refine Eq.trans (x1 (h := 74) hT rfl rfl (by decide)) ?_
        refine Eq.trans (x5_0 (h := 75) hT rfl) ?_
        refine Eq.trans (x0 (h := 76) hT rfl) ?_
        refine Eq.trans (x5_1 (h := 77) hT rfl) ?_
        refine Eq.trans (x24 (r := (a0 + 14)) (n := 64) (h := 78) hT rfl (Or.inl (kd_12_21 ha0)) (ln_12_21 ha0)) ?_
        refine xig (fun hz15 => ?_)
        refine Eq.trans (x1 (h := 79) hT rfl rfl (by decide)) ?_
        refine Eq.trans (x21r (r := a0) (cl := 12) (o := 14) (h := 80) hT rfl ha0 (by decide) rfl) ?_
        refine Eq.trans (x0 (h := 81) hT rfl) ?_
        refine Eq.trans (x1 (h := 82) hT rfl rfl (by decide)) ?_
        refine Eq.trans (x5_2 (h := 83) hT rfl) ?_
        refine Eq.trans (x1 (h := 84) hT rfl rfl (by decide)) ?_
        refine Eq.trans (x5_0 (h := 85) hT rfl) ?_
        refine Eq.trans (x0 (h := 86) hT rfl) ?_
        refine Eq.trans (x5_1 (h := 87) hT rfl) ?_
        refine Eq.trans (x24 (r := (a0 + 14)) (n := 64) (h := 88) hT rfl (Or.inl (kd_12_21 ha0)) (ln_12_21 ha0)) ?_
        refine xig (fun hz16 => ?_)
        refine Eq.trans (x34 (as := [(0, (q8.2.m ((a0 + 14)) (zix ((((8 * a3) + a4) - 8))))), (0, (q8.2.m ((a0 + 14)) (zix ((((8 * a3) + a4) - 1)))))]) (st' := [(0, ((8 * a3) + a4)), (2, (((a0 + 14) : Nat) : Int))]) (h := 89) hT rfl sm_61 rfl) ?_
        refine xbd (fun q17 => ?_)
        rw [rv_61]
        change zB P 152 90 [(2, ((a0 : Nat) : Int)), (0, a1), (0, a2), (0, a3), (0, a4), (0, 1)] [(0, q17.1), (0, ((8 * a3) + a4)), (2, (((a0 + 14) : Nat) : Int))] q17.2 = _
        refine Eq.trans (x25a (r := (a0 + 14)) (n := 64) (h := 90) hT rfl (kd_12_21 ha0) (ln_12_21 ha0) (by decide) rfl) ?_
        refine xig (fun hz18 => ?_)
        refine Eq.trans (x4 (ls' := [(2, ((a0 : Nat) : Int)), (0, a1), (0, a2), (0, a3), (0, (a4 + 1)), (0, 1)]) (h := 91) hT rfl rfl rfl) ?_
        refine Eq.trans (x18 (h := 92) hT rfl) ?_
        exact rfl
      · refine Eq.trans (x1 (h := 56) hT rfl rfl (by decide)) ?_
        refine Eq.trans (x21r (r := a0) (cl := 12) (o := 14) (h := 57) hT rfl ha0 (by decide) rfl) ?_
        refine Eq.trans (x0 (h := 58) hT rfl) ?_
        refine Eq.trans (x1 (h := 59) hT rfl rfl (by decide)) ?_
        refine Eq.trans (x5_2 (h := 60) hT rfl) ?_
        refine Eq.trans (x1 (h := 61) hT rfl rfl (by decide)) ?_
        refine Eq.trans (x5_0 (h := 62) hT rfl) ?_
        refine Eq.trans (x0 (h := 63) hT rfl) ?_
        refine Eq.trans (x5_1 (h := 64) hT rfl) ?_
        refine Eq.trans (x24 (r := (a0 + 14)) (n := 64) (h := 65) hT rfl (Or.inl (kd_12_21 ha0)) (ln_12_21 ha0)) ?_
        refine xig (fun hz19 => ?_)
        refine Eq.trans (x0 (h := 66) hT rfl) ?_
        refine Eq.trans (x5_0 (h := 67) hT rfl) ?_
        refine Eq.trans (x18 (h := 68) hT rfl) ?_
        refine Eq.trans (x25a (r := (a0 + 14)) (n := 64) (h := 90) hT rfl (kd_12_21 ha0) (ln_12_21 ha0) (by decide) rfl) ?_
        refine xig (fun hz20 => ?_)
        refine Eq.trans (x4 (ls' := [(2, ((a0 : Nat) : Int)), (0, a1), (0, a2), (0, a3), (0, (a4 + 1)), (0, 1)]) (h := 91) hT rfl rfl rfl) ?_
        refine Eq.trans (x18 (h := 92) hT rfl) ?_
        exact rfl
/-! WordLinksModel.linkedFrom(I)I -/
set_option maxRecDepth 100000 in
theorem e_153 {P : zP} {d : zD P} {a0 : Nat} {a1 : Int} (ha0 : zkd a0 = 12) : MM P 153 [(2, ((a0 : Nat) : Int)), (0, a1)] d = zB P 153 2 [(2, ((a0 : Nat) : Int)), (0, a1), (0, 0)] [] d := by
  have hT := cT_153
  refine Eq.trans (MM_def sm_153 (Nat.le_of_ble_eq_true rfl)) ?_
  change zB P 153 0 [(2, ((a0 : Nat) : Int)), (0, a1), (3, 0)] [] d = _
  refine Eq.trans (x0 (h := 0) hT rfl) ?_
  refine Eq.trans (x2 (ls' := [(2, ((a0 : Nat) : Int)), (0, a1), (0, 0)]) (h := 1) hT rfl (Nat.le_of_ble_eq_true rfl) rfl) ?_
  exact rfl
set_option maxRecDepth 100000 in
theorem q_153_2 {P : zP} {d : zD P} {a0 : Nat} {a1 : Int} {a2 : Int} (ha0 : zkd a0 = 12) : zB P 153 2 [(2, ((a0 : Nat) : Int)), (0, a1), (0, a2)] [] d = (if wr 6 ≤ wr a2 then some (255, d) else (if zin a2 6 then ((MM P 53 [(0, (d.m ((a0 + 17)) (zix a2))), (0, a1)] d).bind fun q2 => (if wr q2.1 = 0 then zB P 153 2 [(2, ((a0 : Nat) : Int)), (0, a1), (0, (a2 + 1))] [] q2.2 else some (a2, q2.2))) else none)) := by
  have hT := cT_153
  refine Eq.trans (x1 (h := 2) hT rfl rfl (by decide)) ?_
  refine Eq.trans (x0 (h := 3) hT rfl) ?_
  refine Eq.trans (x17_3 (h := 4) hT rfl) ?_
  refine xit (fun _ => ?_) (fun _ => ?_)
  · refine Eq.trans (x0 (h := 16) hT rfl) ?_
    exact x201 (h := 17) hT rfl
  · refine Eq.trans (x1 (h := 5) hT rfl rfl (by decide)) ?_
    refine Eq.trans (x21r (r := a0) (cl := 12) (o := 17) (h := 6) hT rfl ha0 (by decide) rfl) ?_
    refine Eq.trans (x1 (h := 7) hT rfl rfl (by decide)) ?_
    refine Eq.trans (x24 (r := (a0 + 17)) (n := 6) (h := 8) hT rfl (Or.inl (kd_12_24 ha0)) (ln_12_24 ha0)) ?_
    refine xig (fun hz1 => ?_)
    refine Eq.trans (x1 (h := 9) hT rfl rfl (by decide)) ?_
    refine Eq.trans (x34 (as := [(0, (d.m ((a0 + 17)) (zix a2))), (0, a1)]) (st' := []) (h := 10) hT rfl sm_53 rfl) ?_
    refine xbd (fun q2 => ?_)
    rw [rv_53]
    change zB P 153 11 [(2, ((a0 : Nat) : Int)), (0, a1), (0, a2)] [(0, q2.1)] q2.2 = _
    refine Eq.trans (x16_0 (h := 11) hT rfl) ?_
    refine xit (fun _ => ?_) (fun _ => ?_)
    · refine Eq.trans (x4 (ls' := [(2, ((a0 : Nat) : Int)), (0, a1), (0, (a2 + 1))]) (h := 14) hT rfl rfl rfl) ?_
      refine Eq.trans (x18 (h := 15) hT rfl) ?_
      exact rfl
    · refine Eq.trans (x1 (h := 12) hT rfl rfl (by decide)) ?_
      exact x201 (h := 13) hT rfl
/-! WordLinksModel.linksMany()I -/
set_option maxRecDepth 100000 in
theorem e_154 {P : zP} {d : zD P} {a0 : Nat} (ha0 : zkd a0 = 12) : MM P 154 [(2, ((a0 : Nat) : Int))] d = zB P 154 4 [(2, ((a0 : Nat) : Int)), (0, 0), (0, 0)] [] d := by
  have hT := cT_154
  refine Eq.trans (MM_def sm_154 (Nat.le_of_ble_eq_true rfl)) ?_
  change zB P 154 0 [(2, ((a0 : Nat) : Int)), (3, 0), (3, 0)] [] d = _
  refine Eq.trans (x0 (h := 0) hT rfl) ?_
  refine Eq.trans (x2 (ls' := [(2, ((a0 : Nat) : Int)), (0, 0), (3, 0)]) (h := 1) hT rfl (Nat.le_of_ble_eq_true rfl) rfl) ?_
  refine Eq.trans (x0 (h := 2) hT rfl) ?_
  refine Eq.trans (x2 (ls' := [(2, ((a0 : Nat) : Int)), (0, 0), (0, 0)]) (h := 3) hT rfl (Nat.le_of_ble_eq_true rfl) rfl) ?_
  exact rfl
set_option maxRecDepth 100000 in
theorem q_154_4 {P : zP} {d : zD P} {a0 : Nat} {a1 : Int} {a2 : Int} (ha0 : zkd a0 = 12) : zB P 154 4 [(2, ((a0 : Nat) : Int)), (0, a1), (0, a2)] [] d = (if wr 6 ≤ wr a2 then some (a1, d) else (if zin a2 6 then ((MM P 73 [(0, (d.m ((a0 + 17)) (zix a2)))] d).bind fun q2 => zB P 154 4 [(2, ((a0 : Nat) : Int)), (0, (a1 + q2.1)), (0, (a2 + 1))] [] q2.2) else none)) := by
  have hT := cT_154
  refine Eq.trans (x1 (h := 4) hT rfl rfl (by decide)) ?_
  refine Eq.trans (x0 (h := 5) hT rfl) ?_
  refine Eq.trans (x17_3 (h := 6) hT rfl) ?_
  refine xit (fun _ => ?_) (fun _ => ?_)
  · refine Eq.trans (x1 (h := 17) hT rfl rfl (by decide)) ?_
    exact x201 (h := 18) hT rfl
  · refine Eq.trans (x1 (h := 7) hT rfl rfl (by decide)) ?_
    refine Eq.trans (x1 (h := 8) hT rfl rfl (by decide)) ?_
    refine Eq.trans (x21r (r := a0) (cl := 12) (o := 17) (h := 9) hT rfl ha0 (by decide) rfl) ?_
    refine Eq.trans (x1 (h := 10) hT rfl rfl (by decide)) ?_
    refine Eq.trans (x24 (r := (a0 + 17)) (n := 6) (h := 11) hT rfl (Or.inl (kd_12_24 ha0)) (ln_12_24 ha0)) ?_
    refine xig (fun hz1 => ?_)
    refine Eq.trans (x34 (as := [(0, (d.m ((a0 + 17)) (zix a2)))]) (st' := [(0, a1)]) (h := 12) hT rfl sm_73 rfl) ?_
    refine xbd (fun q2 => ?_)
    rw [rv_73]
    change zB P 154 13 [(2, ((a0 : Nat) : Int)), (0, a1), (0, a2)] [(0, q2.1), (0, a1)] q2.2 = _
    refine Eq.trans (x5_0 (h := 13) hT rfl) ?_
    refine Eq.trans (x2 (ls' := [(2, ((a0 : Nat) : Int)), (0, (a1 + q2.1)), (0, a2)]) (h := 14) hT rfl (Nat.le_of_ble_eq_true rfl) rfl) ?_
    refine Eq.trans (x4 (ls' := [(2, ((a0 : Nat) : Int)), (0, (a1 + q2.1)), (0, (a2 + 1))]) (h := 15) hT rfl rfl rfl) ?_
    refine Eq.trans (x18 (h := 16) hT rfl) ?_
    exact rfl
/-! WordLinksModel.longRow(I)I -/
set_option maxRecDepth 100000 in
theorem e_155 {P : zP} {d : zD P} {a0 : Int} : MM P 155 [(0, a0)] d = ((MM P 79 [(0, a0), (0, 1)] d).bind fun q1 => (if 0 ≤ wr q1.1 then ((MM P 79 [(0, a0), (0, 2)] q1.2).bind fun q2 => (if 0 ≤ wr q2.1 then some (3, q2.2) else some (2, q2.2))) else some (1, q1.2))) := by
  have hT := cT_155
  refine Eq.trans (MM_def sm_155 (Nat.le_of_ble_eq_true rfl)) ?_
  change zB P 155 0 [(0, a0)] [] d = _
  refine Eq.trans (x1 (h := 0) hT rfl rfl (by decide)) ?_
  refine Eq.trans (x0 (h := 1) hT rfl) ?_
  refine Eq.trans (x34 (as := [(0, a0), (0, 1)]) (st' := []) (h := 2) hT rfl sm_79 rfl) ?_
  refine xbd (fun q1 => ?_)
  rw [rv_79]
  change zB P 155 3 [(0, a0)] [(0, q1.1)] q1.2 = _
  refine Eq.trans (x16_3 (h := 3) hT rfl) ?_
  refine xit (fun _ => ?_) (fun _ => ?_)
  · refine Eq.trans (x1 (h := 6) hT rfl rfl (by decide)) ?_
    refine Eq.trans (x0 (h := 7) hT rfl) ?_
    refine Eq.trans (x34 (as := [(0, a0), (0, 2)]) (st' := []) (h := 8) hT rfl sm_79 rfl) ?_
    refine xbd (fun q2 => ?_)
    rw [rv_79]
    change zB P 155 9 [(0, a0)] [(0, q2.1)] q2.2 = _
    refine Eq.trans (x16_3 (h := 9) hT rfl) ?_
    refine xit (fun _ => ?_) (fun _ => ?_)
    · refine Eq.trans (x0 (h := 12) hT rfl) ?_
      exact x201 (h := 13) hT rfl
    · refine Eq.trans (x0 (h := 10) hT rfl) ?_
      refine Eq.trans (x18 (h := 11) hT rfl) ?_
      exact x201 (h := 13) hT rfl
  · refine Eq.trans (x0 (h := 4) hT rfl) ?_
    refine Eq.trans (x18 (h := 5) hT rfl) ?_
    exact x201 (h := 13) hT rfl
/-! WordLinksModel.nearness(IIII)I -/
set_option maxRecDepth 100000 in
theorem e_156 {P : zP} {d : zD P} {a0 : Nat} {a1 : Int} {a2 : Int} {a3 : Int} {a4 : Int} (ha0 : zkd a0 = 12) : MM P 156 [(2, ((a0 : Nat) : Int)), (0, a1), (0, a2), (0, a3), (0, a4)] d = ((MM P 60 [(2, ((a0 : Nat) : Int)), (0, a2), (0, a1)] d).bind fun q1 => ((MM P 60 [(2, ((a0 : Nat) : Int)), (0, a2), (0, (1 - a1))] q1.2).bind fun q2 => ((MM P 72 [(0, ((a3 * q2.1) - (a4 * q1.1)))] q2.2).bind fun q3 => (if wr ((q1.1 * q2.1)) ≠ 0 then ((MM P 62 [(0, 7), (0, (zdiv 0 ((q3.1 * 8)) ((q1.1 * q2.1))))] q3.2).bind fun q5 => some (q5.1, q5.2)) else none)))) := by
  have hT := cT_156
  refine Eq.trans (MM_def sm_156 (Nat.le_of_ble_eq_true rfl)) ?_
  change zB P 156 0 [(2, ((a0 : Nat) : Int)), (0, a1), (0, a2), (0, a3), (0, a4), (3, 0), (3, 0)] [] d = _
  refine Eq.trans (x1 (h := 0) hT rfl rfl (by decide)) ?_
  refine Eq.trans (x1 (h := 1) hT rfl rfl (by decide)) ?_
  refine Eq.trans (x1 (h := 2) hT rfl rfl (by decide)) ?_
  refine Eq.trans (x31 (r := a0) (cl := 12) (as := [(0, a2), (0, a1)]) (st' := []) (h := 3) hT rfl sm_60 rfl ha0) ?_
  refine xbd (fun q1 => ?_)
  rw [rv_60]
  change zB P 156 4 [(2, ((a0 : Nat) : Int)), (0, a1), (0, a2), (0, a3), (0, a4), (3, 0), (3, 0)] [(0, q1.1)] q1.2 = _
  refine Eq.trans (x2 (ls' := [(2, ((a0 : Nat) : Int)), (0, a1), (0, a2), (0, a3), (0, a4), (0, q1.1), (3, 0)]) (h := 4) hT rfl (Nat.le_of_ble_eq_true rfl) rfl) ?_
  refine Eq.trans (x1 (h := 5) hT rfl rfl (by decide)) ?_
  refine Eq.trans (x1 (h := 6) hT rfl rfl (by decide)) ?_
  refine Eq.trans (x0 (h := 7) hT rfl) ?_
  refine Eq.trans (x1 (h := 8) hT rfl rfl (by decide)) ?_
  refine Eq.trans (x5_1 (h := 9) hT rfl) ?_
  refine Eq.trans (x31 (r := a0) (cl := 12) (as := [(0, a2), (0, (1 - a1))]) (st' := []) (h := 10) hT rfl sm_60 rfl ha0) ?_
  refine xbd (fun q2 => ?_)
  rw [rv_60]
  change zB P 156 11 [(2, ((a0 : Nat) : Int)), (0, a1), (0, a2), (0, a3), (0, a4), (0, q1.1), (3, 0)] [(0, q2.1)] q2.2 = _
  refine Eq.trans (x2 (ls' := [(2, ((a0 : Nat) : Int)), (0, a1), (0, a2), (0, a3), (0, a4), (0, q1.1), (0, q2.1)]) (h := 11) hT rfl (Nat.le_of_ble_eq_true rfl) rfl) ?_
  refine Eq.trans (x0 (h := 12) hT rfl) ?_
  refine Eq.trans (x1 (h := 13) hT rfl rfl (by decide)) ?_
  refine Eq.trans (x1 (h := 14) hT rfl rfl (by decide)) ?_
  refine Eq.trans (x5_2 (h := 15) hT rfl) ?_
  refine Eq.trans (x1 (h := 16) hT rfl rfl (by decide)) ?_
  refine Eq.trans (x1 (h := 17) hT rfl rfl (by decide)) ?_
  refine Eq.trans (x5_2 (h := 18) hT rfl) ?_
  refine Eq.trans (x5_1 (h := 19) hT rfl) ?_
  refine Eq.trans (x34 (as := [(0, ((a3 * q2.1) - (a4 * q1.1)))]) (st' := [(0, 7)]) (h := 20) hT rfl sm_72 rfl) ?_
  refine xbd (fun q3 => ?_)
  rw [rv_72]
  change zB P 156 21 [(2, ((a0 : Nat) : Int)), (0, a1), (0, a2), (0, a3), (0, a4), (0, q1.1), (0, q2.1)] [(0, q3.1), (0, 7)] q3.2 = _
  refine Eq.trans (x0 (h := 21) hT rfl) ?_
  refine Eq.trans (x5_2 (h := 22) hT rfl) ?_
  refine Eq.trans (x1 (h := 23) hT rfl rfl (by decide)) ?_
  refine Eq.trans (x1 (h := 24) hT rfl rfl (by decide)) ?_
  refine Eq.trans (x5_2 (h := 25) hT rfl) ?_
  refine Eq.trans (x6 (h := 26) hT rfl) ?_
  refine xig (fun hz4 => ?_)
  refine Eq.trans (x34 (as := [(0, 7), (0, (zdiv 0 ((q3.1 * 8)) ((q1.1 * q2.1))))]) (st' := []) (h := 27) hT rfl sm_62 rfl) ?_
  refine xbd (fun q5 => ?_)
  rw [rv_62]
  change zB P 156 28 [(2, ((a0 : Nat) : Int)), (0, a1), (0, a2), (0, a3), (0, a4), (0, q1.1), (0, q2.1)] [(0, q5.1)] q5.2 = _
  exact x201 (h := 28) hT rfl
/-! WordLinksModel.partCost(III)I -/
set_option maxRecDepth 100000 in
theorem e_157 {P : zP} {d : zD P} {a0 : Nat} {a1 : Int} {a2 : Int} {a3 : Int} (ha0 : zkd a0 = 12) : MM P 157 [(2, ((a0 : Nat) : Int)), (0, a1), (0, a2), (0, a3)] d = (if wr a1 = wr 1 then some (45, d) else (if wr a1 ≠ wr 2 then zB P 157 12 [(2, ((a0 : Nat) : Int)), (0, a1), (0, a2), (0, a3), (0, 0), (0, 0)] [] d else some (45, d))) := by
  have hT := cT_157
  refine Eq.trans (MM_def sm_157 (Nat.le_of_ble_eq_true rfl)) ?_
  change zB P 157 0 [(2, ((a0 : Nat) : Int)), (0, a1), (0, a2), (0, a3), (3, 0), (3, 0)] [] d = _
  refine Eq.trans (x1 (h := 0) hT rfl rfl (by decide)) ?_
  refine Eq.trans (x0 (h := 1) hT rfl) ?_
  refine Eq.trans (x17_0 (h := 2) hT rfl) ?_
  refine xit (fun _ => ?_) (fun _ => ?_)
  · refine Eq.trans (x0 (h := 6) hT rfl) ?_
    exact x201 (h := 7) hT rfl
  · refine Eq.trans (x1 (h := 3) hT rfl rfl (by decide)) ?_
    refine Eq.trans (x0 (h := 4) hT rfl) ?_
    refine Eq.trans (x17_1 (h := 5) hT rfl) ?_
    refine xit (fun _ => ?_) (fun _ => ?_)
    · refine Eq.trans (x0 (h := 8) hT rfl) ?_
      refine Eq.trans (x2 (ls' := [(2, ((a0 : Nat) : Int)), (0, a1), (0, a2), (0, a3), (0, 0), (3, 0)]) (h := 9) hT rfl (Nat.le_of_ble_eq_true rfl) rfl) ?_
      refine Eq.trans (x0 (h := 10) hT rfl) ?_
      refine Eq.trans (x2 (ls' := [(2, ((a0 : Nat) : Int)), (0, a1), (0, a2), (0, a3), (0, 0), (0, 0)]) (h := 11) hT rfl (Nat.le_of_ble_eq_true rfl) rfl) ?_
      exact rfl
    · refine Eq.trans (x0 (h := 6) hT rfl) ?_
      exact x201 (h := 7) hT rfl
set_option maxRecDepth 100000 in
theorem q_157_12 {P : zP} {d : zD P} {a0 : Nat} {a1 : Int} {a2 : Int} {a3 : Int} {a4 : Int} {a5 : Int} (ha0 : zkd a0 = 12) : zB P 157 12 [(2, ((a0 : Nat) : Int)), (0, a1), (0, a2), (0, a3), (0, a4), (0, a5)] [] d = ((MM P 76 [(0, a1), (0, 0)] d).bind fun q1 => (if wr q1.1 ≤ wr a5 then zB P 157 30 [(2, ((a0 : Nat) : Int)), (0, a1), (0, a2), (0, a3), (0, a4), (0, 0)] [] q1.2 else (if zin ((a2 + a5)) 16 then zB P 157 12 [(2, ((a0 : Nat) : Int)), (0, a1), (0, a2), (0, a3), (0, (a4 + (q1.2.m ((a0 + 6)) (zix ((a2 + a5)))))), (0, (a5 + 1))] [] q1.2 else none))) := by
  have hT := cT_157
  refine Eq.trans (x1 (h := 12) hT rfl rfl (by decide)) ?_
  refine Eq.trans (x1 (h := 13) hT rfl rfl (by decide)) ?_
  refine Eq.trans (x0 (h := 14) hT rfl) ?_
  refine Eq.trans (x34 (as := [(0, a1), (0, 0)]) (st' := [(0, a5)]) (h := 15) hT rfl sm_76 rfl) ?_
  refine xbd (fun q1 => ?_)
  rw [rv_76]
  change zB P 157 16 [(2, ((a0 : Nat) : Int)), (0, a1), (0, a2), (0, a3), (0, a4), (0, a5)] [(0, q1.1), (0, a5)] q1.2 = _
  refine Eq.trans (x17_3 (h := 16) hT rfl) ?_
  refine xit (fun _ => ?_) (fun _ => ?_)
  · refine Eq.trans (x0 (h := 28) hT rfl) ?_
    refine Eq.trans (x2 (ls' := [(2, ((a0 : Nat) : Int)), (0, a1), (0, a2), (0, a3), (0, a4), (0, 0)]) (h := 29) hT rfl (Nat.le_of_ble_eq_true rfl) rfl) ?_
    exact rfl
  · refine Eq.trans (x1 (h := 17) hT rfl rfl (by decide)) ?_
    refine Eq.trans (x1 (h := 18) hT rfl rfl (by decide)) ?_
    refine Eq.trans (x21r (r := a0) (cl := 12) (o := 6) (h := 19) hT rfl ha0 (by decide) rfl) ?_
    refine Eq.trans (x1 (h := 20) hT rfl rfl (by decide)) ?_
    refine Eq.trans (x1 (h := 21) hT rfl rfl (by decide)) ?_
    refine Eq.trans (x5_0 (h := 22) hT rfl) ?_
    refine Eq.trans (x24 (r := (a0 + 6)) (n := 16) (h := 23) hT rfl (Or.inl (kd_12_13 ha0)) (ln_12_13 ha0)) ?_
    refine xig (fun hz2 => ?_)
    refine Eq.trans (x5_0 (h := 24) hT rfl) ?_
    refine Eq.trans (x2 (ls' := [(2, ((a0 : Nat) : Int)), (0, a1), (0, a2), (0, a3), (0, (a4 + (q1.2.m ((a0 + 6)) (zix ((a2 + a5)))))), (0, a5)]) (h := 25) hT rfl (Nat.le_of_ble_eq_true rfl) rfl) ?_
    refine Eq.trans (x4 (ls' := [(2, ((a0 : Nat) : Int)), (0, a1), (0, a2), (0, a3), (0, (a4 + (q1.2.m ((a0 + 6)) (zix ((a2 + a5)))))), (0, (a5 + 1))]) (h := 26) hT rfl rfl rfl) ?_
    refine Eq.trans (x18 (h := 27) hT rfl) ?_
    exact rfl
set_option maxRecDepth 100000 in
theorem q_157_30 {P : zP} {d : zD P} {a0 : Nat} {a1 : Int} {g2 : zV} {a3 : Int} {a4 : Int} {a5 : Int} (ha0 : zkd a0 = 12) : zB P 157 30 [(2, ((a0 : Nat) : Int)), (0, a1), g2, (0, a3), (0, a4), (0, a5)] [] d = ((MM P 76 [(0, a1), (0, 1)] d).bind fun q3 => (if wr q3.1 ≤ wr a5 then ((MM P 72 [(0, a4)] q3.2).bind fun q4 => (if wr a1 ≠ 0 then some (((10 * q4.1) + 20), q4.2) else some (((10 * q4.1) + 0), q4.2))) else (if zin (((8 + a3) + a5)) 16 then zB P 157 30 [(2, ((a0 : Nat) : Int)), (0, a1), g2, (0, a3), (0, (a4 - (q3.2.m ((a0 + 6)) (zix (((8 + a3) + a5)))))), (0, (a5 + 1))] [] q3.2 else none))) := by
  have hT := cT_157
  refine Eq.trans (x1 (h := 30) hT rfl rfl (by decide)) ?_
  refine Eq.trans (x1 (h := 31) hT rfl rfl (by decide)) ?_
  refine Eq.trans (x0 (h := 32) hT rfl) ?_
  refine Eq.trans (x34 (as := [(0, a1), (0, 1)]) (st' := [(0, a5)]) (h := 33) hT rfl sm_76 rfl) ?_
  refine xbd (fun q3 => ?_)
  rw [rv_76]
  change zB P 157 34 [(2, ((a0 : Nat) : Int)), (0, a1), g2, (0, a3), (0, a4), (0, a5)] [(0, q3.1), (0, a5)] q3.2 = _
  refine Eq.trans (x17_3 (h := 34) hT rfl) ?_
  refine xit (fun _ => ?_) (fun _ => ?_)
  · refine Eq.trans (x0 (h := 48) hT rfl) ?_
    refine Eq.trans (x1 (h := 49) hT rfl rfl (by decide)) ?_
    refine Eq.trans (x34 (as := [(0, a4)]) (st' := [(0, 10)]) (h := 50) hT rfl sm_72 rfl) ?_
    refine xbd (fun q4 => ?_)
    rw [rv_72]
    change zB P 157 51 [(2, ((a0 : Nat) : Int)), (0, a1), g2, (0, a3), (0, a4), (0, a5)] [(0, q4.1), (0, 10)] q4.2 = _
    refine Eq.trans (x5_2 (h := 51) hT rfl) ?_
    refine Eq.trans (x1 (h := 52) hT rfl rfl (by decide)) ?_
    refine Eq.trans (x16_1 (h := 53) hT rfl) ?_
    refine xit (fun _ => ?_) (fun _ => ?_)
    · refine Eq.trans (x0 (h := 56) hT rfl) ?_
      refine Eq.trans (x5_0 (h := 57) hT rfl) ?_
      exact x201 (h := 58) hT rfl
    · refine Eq.trans (x0 (h := 54) hT rfl) ?_
      refine Eq.trans (x18 (h := 55) hT rfl) ?_
      refine Eq.trans (x5_0 (h := 57) hT rfl) ?_
      exact x201 (h := 58) hT rfl
  · refine Eq.trans (x1 (h := 35) hT rfl rfl (by decide)) ?_
    refine Eq.trans (x1 (h := 36) hT rfl rfl (by decide)) ?_
    refine Eq.trans (x21r (r := a0) (cl := 12) (o := 6) (h := 37) hT rfl ha0 (by decide) rfl) ?_
    refine Eq.trans (x0 (h := 38) hT rfl) ?_
    refine Eq.trans (x1 (h := 39) hT rfl rfl (by decide)) ?_
    refine Eq.trans (x5_0 (h := 40) hT rfl) ?_
    refine Eq.trans (x1 (h := 41) hT rfl rfl (by decide)) ?_
    refine Eq.trans (x5_0 (h := 42) hT rfl) ?_
    refine Eq.trans (x24 (r := (a0 + 6)) (n := 16) (h := 43) hT rfl (Or.inl (kd_12_13 ha0)) (ln_12_13 ha0)) ?_
    refine xig (fun hz5 => ?_)
    refine Eq.trans (x5_1 (h := 44) hT rfl) ?_
    refine Eq.trans (x2 (ls' := [(2, ((a0 : Nat) : Int)), (0, a1), g2, (0, a3), (0, (a4 - (q3.2.m ((a0 + 6)) (zix (((8 + a3) + a5)))))), (0, a5)]) (h := 45) hT rfl (Nat.le_of_ble_eq_true rfl) rfl) ?_
    refine Eq.trans (x4 (ls' := [(2, ((a0 : Nat) : Int)), (0, a1), g2, (0, a3), (0, (a4 - (q3.2.m ((a0 + 6)) (zix (((8 + a3) + a5)))))), (0, (a5 + 1))]) (h := 46) hT rfl rfl rfl) ?_
    refine Eq.trans (x18 (h := 47) hT rfl) ?_
    exact rfl
/-! WordLinksModel.readsWord()Z -/
set_option maxRecDepth 100000 in
theorem e_158 {P : zP} {d : zD P} {a0 : Nat} (ha0 : zkd a0 = 12) : MM P 158 [(2, ((a0 : Nat) : Int))] d = zB P 158 2 [(2, ((a0 : Nat) : Int)), (0, 0)] [] d := by
  have hT := cT_158
  refine Eq.trans (MM_def sm_158 (Nat.le_of_ble_eq_true rfl)) ?_
  change zB P 158 0 [(2, ((a0 : Nat) : Int)), (3, 0)] [] d = _
  refine Eq.trans (x0 (h := 0) hT rfl) ?_
  refine Eq.trans (x2 (ls' := [(2, ((a0 : Nat) : Int)), (0, 0)]) (h := 1) hT rfl (Nat.le_of_ble_eq_true rfl) rfl) ?_
  exact rfl
set_option maxRecDepth 100000 in
theorem q_158_2 {P : zP} {d : zD P} {a0 : Nat} {a1 : Int} (ha0 : zkd a0 = 12) : zB P 158 2 [(2, ((a0 : Nat) : Int)), (0, a1)] [] d = ((MM P 54 [(2, ((a0 : Nat) : Int))] d).bind fun q1 => ((MM P 55 [(0, q1.1), (0, 97), (0, 122)] q1.2).bind fun q2 => (if wr q2.1 = 0 then (if zin 0 8 then (if 0 < wr a1 then some (1, (q2.2.up ((a0 + 3)) (zix 0) a1)) else ((MM P 83 [(2, ((a0 : Nat) : Int)), (0, 1), (0, (((q2.2.up ((a0 + 3)) (zix 0) a1)).m a0 4))] ((q2.2.up ((a0 + 3)) (zix 0) a1))).bind fun q4 => (if wr q4.1 = 0 then some (0, q4.2) else some (1, q4.2)))) else none) else (if wr a1 ≠ wr 7 then ((MM P 54 [(2, ((a0 : Nat) : Int))] q2.2).bind fun q5 => (if zin ((1 + a1)) 8 then zB P 158 2 [(2, ((a0 : Nat) : Int)), (0, (a1 + 1))] [] ((((q5.2.up ((a0 + 3)) (zix ((1 + a1))) q5.1)).up a0 4 (((((q5.2.up ((a0 + 3)) (zix ((1 + a1))) q5.1)).m a0 4) + 1)))) else none)) else ((MM P 83 [(2, ((a0 : Nat) : Int)), (0, 2), (0, (q2.2.m a0 4))] q2.2).bind fun q7 => (if q7.1 = 0 ∨ q7.1 = 1 then some (q7.1, q7.2) else none)))))) := by
  have hT := cT_158
  refine Eq.trans (x1 (h := 2) hT rfl rfl (by decide)) ?_
  refine Eq.trans (x31 (r := a0) (cl := 12) (as := []) (st' := []) (h := 3) hT rfl sm_54 rfl ha0) ?_
  refine xbd (fun q1 => ?_)
  rw [rv_54]
  change zB P 158 4 [(2, ((a0 : Nat) : Int)), (0, a1)] [(0, q1.1)] q1.2 = _
  refine Eq.trans (x0 (h := 4) hT rfl) ?_
  refine Eq.trans (x0 (h := 5) hT rfl) ?_
  refine Eq.trans (x34 (as := [(0, q1.1), (0, 97), (0, 122)]) (st' := []) (h := 6) hT rfl sm_55 rfl) ?_
  refine xbd (fun q2 => ?_)
  rw [rv_55]
  change zB P 158 7 [(2, ((a0 : Nat) : Int)), (0, a1)] [(0, q2.1)] q2.2 = _
  refine Eq.trans (x16_0 (h := 7) hT rfl) ?_
  refine xit (fun _ => ?_) (fun _ => ?_)
  · refine Eq.trans (x1 (h := 36) hT rfl rfl (by decide)) ?_
    refine Eq.trans (x21r (r := a0) (cl := 12) (o := 3) (h := 37) hT rfl ha0 (by decide) rfl) ?_
    refine Eq.trans (x0 (h := 38) hT rfl) ?_
    refine Eq.trans (x1 (h := 39) hT rfl rfl (by decide)) ?_
    refine Eq.trans (x25a (r := (a0 + 3)) (n := 8) (h := 40) hT rfl (kd_12_9 ha0) (ln_12_9 ha0) (by decide) rfl) ?_
    refine xig (fun hz3 => ?_)
    refine Eq.trans (x1 (h := 41) hT rfl rfl (by decide)) ?_
    refine Eq.trans (x16_4 (h := 42) hT rfl) ?_
    refine xit (fun _ => ?_) (fun _ => ?_)
    · refine Eq.trans (x0 (h := 49) hT rfl) ?_
      refine Eq.trans (x18 (h := 50) hT rfl) ?_
      exact x203c (h := 52) hT rfl (by decide)
    · refine Eq.trans (x1 (h := 43) hT rfl rfl (by decide)) ?_
      refine Eq.trans (x0 (h := 44) hT rfl) ?_
      refine Eq.trans (x1 (h := 45) hT rfl rfl (by decide)) ?_
      refine Eq.trans (x21 (r := a0) (cl := 12) (h := 46) hT rfl ha0) ?_
      refine Eq.trans (x31 (r := a0) (cl := 12) (as := [(0, 1), (0, (((q2.2.up ((a0 + 3)) (zix 0) a1)).m a0 4))]) (st' := []) (h := 47) hT rfl sm_83 rfl ha0) ?_
      refine xbd (fun q4 => ?_)
      rw [rv_83]
      change zB P 158 48 [(2, ((a0 : Nat) : Int)), (0, a1)] [(0, q4.1)] q4.2 = _
      refine Eq.trans (x16_0 (h := 48) hT rfl) ?_
      refine xit (fun _ => ?_) (fun _ => ?_)
      · refine Eq.trans (x0 (h := 51) hT rfl) ?_
        exact x203c (h := 52) hT rfl (by decide)
      · refine Eq.trans (x0 (h := 49) hT rfl) ?_
        refine Eq.trans (x18 (h := 50) hT rfl) ?_
        exact x203c (h := 52) hT rfl (by decide)
  · refine Eq.trans (x1 (h := 8) hT rfl rfl (by decide)) ?_
    refine Eq.trans (x0 (h := 9) hT rfl) ?_
    refine Eq.trans (x17_1 (h := 10) hT rfl) ?_
    refine xit (fun _ => ?_) (fun _ => ?_)
    · refine Eq.trans (x1 (h := 17) hT rfl rfl (by decide)) ?_
      refine Eq.trans (x21r (r := a0) (cl := 12) (o := 3) (h := 18) hT rfl ha0 (by decide) rfl) ?_
      refine Eq.trans (x0 (h := 19) hT rfl) ?_
      refine Eq.trans (x1 (h := 20) hT rfl rfl (by decide)) ?_
      refine Eq.trans (x5_0 (h := 21) hT rfl) ?_
      refine Eq.trans (x1 (h := 22) hT rfl rfl (by decide)) ?_
      refine Eq.trans (x31 (r := a0) (cl := 12) (as := []) (st' := [(0, (1 + a1)), (2, (((a0 + 3) : Nat) : Int))]) (h := 23) hT rfl sm_54 rfl ha0) ?_
      refine xbd (fun q5 => ?_)
      rw [rv_54]
      change zB P 158 24 [(2, ((a0 : Nat) : Int)), (0, a1)] [(0, q5.1), (0, (1 + a1)), (2, (((a0 + 3) : Nat) : Int))] q5.2 = _
      refine Eq.trans (x25a (r := (a0 + 3)) (n := 8) (h := 24) hT rfl (kd_12_9 ha0) (ln_12_9 ha0) (by decide) rfl) ?_
      refine xig (fun hz6 => ?_)
      refine Eq.trans (x1 (h := 25) hT rfl rfl (by decide)) ?_
      refine Eq.trans (x0 (h := 26) hT rfl) ?_
      refine Eq.trans (x5_0 (h := 27) hT rfl) ?_
      refine Eq.trans (x2 (ls' := [(2, ((a0 : Nat) : Int)), (0, (a1 + 1))]) (h := 28) hT rfl (Nat.le_of_ble_eq_true rfl) rfl) ?_
      refine Eq.trans (x1 (h := 29) hT rfl rfl (by decide)) ?_
      refine Eq.trans (x1 (h := 30) hT rfl rfl (by decide)) ?_
      refine Eq.trans (x21 (r := a0) (cl := 12) (h := 31) hT rfl ha0) ?_
      refine Eq.trans (x0 (h := 32) hT rfl) ?_
      refine Eq.trans (x5_0 (h := 33) hT rfl) ?_
      refine Eq.trans (x22 (r := a0) (cl := 12) (h := 34) hT rfl ha0 (by decide) rfl (by decide)) ?_
      refine Eq.trans (x18 (h := 35) hT rfl) ?_
      exact rfl
    · refine Eq.trans (x1 (h := 11) hT rfl rfl (by decide)) ?_
      refine Eq.trans (x0 (h := 12) hT rfl) ?_
      refine Eq.trans (x1 (h := 13) hT rfl rfl (by decide)) ?_
      refine Eq.trans (x21 (r := a0) (cl := 12) (h := 14) hT rfl ha0) ?_
      refine Eq.trans (x31 (r := a0) (cl := 12) (as := [(0, 2), (0, (q2.2.m a0 4))]) (st' := []) (h := 15) hT rfl sm_83 rfl ha0) ?_
      refine xbd (fun q7 => ?_)
      rw [rv_83]
      change zB P 158 16 [(2, ((a0 : Nat) : Int)), (0, a1)] [(0, q7.1)] q7.2 = _
      exact x203 (h := 16) hT rfl
/-! WordLinksModel.rowKey(IIII)I -/
set_option maxRecDepth 100000 in
theorem e_159 {P : zP} {d : zD P} {a0 : Nat} {a1 : Int} {a2 : Int} {a3 : Int} {a4 : Int} (ha0 : zkd a0 = 12) : MM P 159 [(2, ((a0 : Nat) : Int)), (0, a1), (0, a2), (0, a3), (0, a4)] d = zB P 159 4 [(2, ((a0 : Nat) : Int)), (0, a1), (0, a2), (0, a3), (0, a4), (0, 0), (0, 0)] [] d := by
  have hT := cT_159
  refine Eq.trans (MM_def sm_159 (Nat.le_of_ble_eq_true rfl)) ?_
  change zB P 159 0 [(2, ((a0 : Nat) : Int)), (0, a1), (0, a2), (0, a3), (0, a4), (3, 0), (3, 0)] [] d = _
  refine Eq.trans (x0 (h := 0) hT rfl) ?_
  refine Eq.trans (x2 (ls' := [(2, ((a0 : Nat) : Int)), (0, a1), (0, a2), (0, a3), (0, a4), (0, 0), (3, 0)]) (h := 1) hT rfl (Nat.le_of_ble_eq_true rfl) rfl) ?_
  refine Eq.trans (x0 (h := 2) hT rfl) ?_
  refine Eq.trans (x2 (ls' := [(2, ((a0 : Nat) : Int)), (0, a1), (0, a2), (0, a3), (0, a4), (0, 0), (0, 0)]) (h := 3) hT rfl (Nat.le_of_ble_eq_true rfl) rfl) ?_
  exact rfl
set_option maxRecDepth 100000 in
theorem q_159_4 {P : zP} {d : zD P} {a0 : Nat} {a1 : Int} {a2 : Int} {a3 : Int} {a4 : Int} {a5 : Int} {a6 : Int} (ha0 : zkd a0 = 12) : zB P 159 4 [(2, ((a0 : Nat) : Int)), (0, a1), (0, a2), (0, a3), (0, a4), (0, a5), (0, a6)] [] d = (if wr 3 ≤ wr a6 then some (a5, d) else (if wr a4 < wr ((a3 + a6)) then zB P 159 4 [(2, ((a0 : Nat) : Int)), (0, a1), (0, a2), (0, a3), (0, a4), (0, ((41 * a5) + 0)), (0, (a6 + 1))] [] d else ((MM P 80 [(2, ((a0 : Nat) : Int)), (0, a1), (0, a2), (0, (a3 + a6))] d).bind fun q1 => zB P 159 4 [(2, ((a0 : Nat) : Int)), (0, a1), (0, a2), (0, a3), (0, a4), (0, ((41 * a5) + (q1.1 + 1))), (0, (a6 + 1))] [] q1.2))) := by
  have hT := cT_159
  refine Eq.trans (x1 (h := 4) hT rfl rfl (by decide)) ?_
  refine Eq.trans (x0 (h := 5) hT rfl) ?_
  refine Eq.trans (x17_3 (h := 6) hT rfl) ?_
  refine xit (fun _ => ?_) (fun _ => ?_)
  · refine Eq.trans (x1 (h := 30) hT rfl rfl (by decide)) ?_
    exact x201 (h := 31) hT rfl
  · refine Eq.trans (x0 (h := 7) hT rfl) ?_
    refine Eq.trans (x1 (h := 8) hT rfl rfl (by decide)) ?_
    refine Eq.trans (x5_2 (h := 9) hT rfl) ?_
    refine Eq.trans (x1 (h := 10) hT rfl rfl (by decide)) ?_
    refine Eq.trans (x1 (h := 11) hT rfl rfl (by decide)) ?_
    refine Eq.trans (x5_0 (h := 12) hT rfl) ?_
    refine Eq.trans (x1 (h := 13) hT rfl rfl (by decide)) ?_
    refine Eq.trans (x17_4 (h := 14) hT rfl) ?_
    refine xit (fun _ => ?_) (fun _ => ?_)
    · refine Eq.trans (x0 (h := 25) hT rfl) ?_
      refine Eq.trans (x5_0 (h := 26) hT rfl) ?_
      refine Eq.trans (x2 (ls' := [(2, ((a0 : Nat) : Int)), (0, a1), (0, a2), (0, a3), (0, a4), (0, ((41 * a5) + 0)), (0, a6)]) (h := 27) hT rfl (Nat.le_of_ble_eq_true rfl) rfl) ?_
      refine Eq.trans (x4 (ls' := [(2, ((a0 : Nat) : Int)), (0, a1), (0, a2), (0, a3), (0, a4), (0, ((41 * a5) + 0)), (0, (a6 + 1))]) (h := 28) hT rfl rfl rfl) ?_
      refine Eq.trans (x18 (h := 29) hT rfl) ?_
      exact rfl
    · refine Eq.trans (x1 (h := 15) hT rfl rfl (by decide)) ?_
      refine Eq.trans (x1 (h := 16) hT rfl rfl (by decide)) ?_
      refine Eq.trans (x1 (h := 17) hT rfl rfl (by decide)) ?_
      refine Eq.trans (x1 (h := 18) hT rfl rfl (by decide)) ?_
      refine Eq.trans (x1 (h := 19) hT rfl rfl (by decide)) ?_
      refine Eq.trans (x5_0 (h := 20) hT rfl) ?_
      refine Eq.trans (x31 (r := a0) (cl := 12) (as := [(0, a1), (0, a2), (0, (a3 + a6))]) (st' := [(0, (41 * a5))]) (h := 21) hT rfl sm_80 rfl ha0) ?_
      refine xbd (fun q1 => ?_)
      rw [rv_80]
      change zB P 159 22 [(2, ((a0 : Nat) : Int)), (0, a1), (0, a2), (0, a3), (0, a4), (0, a5), (0, a6)] [(0, q1.1), (0, (41 * a5))] q1.2 = _
      refine Eq.trans (x0 (h := 22) hT rfl) ?_
      refine Eq.trans (x5_0 (h := 23) hT rfl) ?_
      refine Eq.trans (x18 (h := 24) hT rfl) ?_
      refine Eq.trans (x5_0 (h := 26) hT rfl) ?_
      refine Eq.trans (x2 (ls' := [(2, ((a0 : Nat) : Int)), (0, a1), (0, a2), (0, a3), (0, a4), (0, ((41 * a5) + (q1.1 + 1))), (0, a6)]) (h := 27) hT rfl (Nat.le_of_ble_eq_true rfl) rfl) ?_
      refine Eq.trans (x4 (ls' := [(2, ((a0 : Nat) : Int)), (0, a1), (0, a2), (0, a3), (0, a4), (0, ((41 * a5) + (q1.1 + 1))), (0, (a6 + 1))]) (h := 28) hT rfl rfl rfl) ?_
      refine Eq.trans (x18 (h := 29) hT rfl) ?_
      exact rfl
/-! WordLinksModel.standsIn(II)I -/
set_option maxRecDepth 100000 in
theorem e_160 {P : zP} {d : zD P} {a0 : Nat} {a1 : Int} {a2 : Int} (ha0 : zkd a0 = 12) : MM P 160 [(2, ((a0 : Nat) : Int)), (0, a1), (0, a2)] d = zB P 160 4 [(2, ((a0 : Nat) : Int)), (0, a1), (0, a2), (0, 0), (0, 0), (3, 0)] [] d := by
  have hT := cT_160
  refine Eq.trans (MM_def sm_160 (Nat.le_of_ble_eq_true rfl)) ?_
  change zB P 160 0 [(2, ((a0 : Nat) : Int)), (0, a1), (0, a2), (3, 0), (3, 0), (3, 0)] [] d = _
  refine Eq.trans (x0 (h := 0) hT rfl) ?_
  refine Eq.trans (x2 (ls' := [(2, ((a0 : Nat) : Int)), (0, a1), (0, a2), (0, 0), (3, 0), (3, 0)]) (h := 1) hT rfl (Nat.le_of_ble_eq_true rfl) rfl) ?_
  refine Eq.trans (x0 (h := 2) hT rfl) ?_
  refine Eq.trans (x2 (ls' := [(2, ((a0 : Nat) : Int)), (0, a1), (0, a2), (0, 0), (0, 0), (3, 0)]) (h := 3) hT rfl (Nat.le_of_ble_eq_true rfl) rfl) ?_
  exact rfl
set_option maxRecDepth 100000 in
theorem q_160_4 {P : zP} {d : zD P} {a0 : Nat} {a1 : Int} {a2 : Int} {a3 : Int} {a4 : Int} {g5 : zV} (ha0 : zkd a0 = 12) : zB P 160 4 [(2, ((a0 : Nat) : Int)), (0, a1), (0, a2), (0, a3), (0, a4), g5] [] d = (if zin 0 18180 then (if wr ((d.m ((a0 + 1)) (zix 0))) ≤ wr a4 then some (a3, d) else zB P 160 12 [(2, ((a0 : Nat) : Int)), (0, a1), (0, a2), (0, a3), (0, a4), (0, 0)] [] d) else none) := by
  have hT := cT_160
  refine Eq.trans (x1 (h := 4) hT rfl rfl (by decide)) ?_
  refine Eq.trans (x1 (h := 5) hT rfl rfl (by decide)) ?_
  refine Eq.trans (x21r (r := a0) (cl := 12) (o := 1) (h := 6) hT rfl ha0 (by decide) rfl) ?_
  refine Eq.trans (x0 (h := 7) hT rfl) ?_
  refine Eq.trans (x24 (r := (a0 + 1)) (n := 18180) (h := 8) hT rfl (Or.inl (kd_12_0 ha0)) (ln_12_0 ha0)) ?_
  refine xig (fun hz1 => ?_)
  refine Eq.trans (x17_3 (h := 9) hT rfl) ?_
  refine xit (fun _ => ?_) (fun _ => ?_)
  · refine Eq.trans (x1 (h := 33) hT rfl rfl (by decide)) ?_
    exact x201 (h := 34) hT rfl
  · refine Eq.trans (x0 (h := 10) hT rfl) ?_
    refine Eq.trans (x2 (ls' := [(2, ((a0 : Nat) : Int)), (0, a1), (0, a2), (0, a3), (0, a4), (0, 0)]) (h := 11) hT rfl (Nat.le_of_ble_eq_true rfl) rfl) ?_
    exact rfl
set_option maxRecDepth 100000 in
theorem q_160_12 {P : zP} {d : zD P} {a0 : Nat} {a1 : Int} {a2 : Int} {a3 : Int} {a4 : Int} {a5 : Int} (ha0 : zkd a0 = 12) : zB P 160 12 [(2, ((a0 : Nat) : Int)), (0, a1), (0, a2), (0, a3), (0, a4), (0, a5)] [] d = ((MM P 60 [(2, ((a0 : Nat) : Int)), (0, a4), (0, a1)] d).bind fun q2 => (if wr q2.1 ≤ wr a5 then zB P 160 4 [(2, ((a0 : Nat) : Int)), (0, a1), (0, a2), (0, a3), (0, (a4 + 1)), (0, a5)] [] q2.2 else ((MM P 80 [(2, ((a0 : Nat) : Int)), (0, a4), (0, a1), (0, a5)] q2.2).bind fun q3 => (if wr q3.1 ≠ wr a2 then zB P 160 12 [(2, ((a0 : Nat) : Int)), (0, a1), (0, a2), (0, a3), (0, a4), (0, (a5 + 1))] [] q3.2 else zB P 160 12 [(2, ((a0 : Nat) : Int)), (0, a1), (0, a2), (0, (a3 + 1)), (0, a4), (0, (a5 + 1))] [] q3.2)))) := by
  have hT := cT_160
  refine Eq.trans (x1 (h := 12) hT rfl rfl (by decide)) ?_
  refine Eq.trans (x1 (h := 13) hT rfl rfl (by decide)) ?_
  refine Eq.trans (x1 (h := 14) hT rfl rfl (by decide)) ?_
  refine Eq.trans (x1 (h := 15) hT rfl rfl (by decide)) ?_
  refine Eq.trans (x31 (r := a0) (cl := 12) (as := [(0, a4), (0, a1)]) (st' := [(0, a5)]) (h := 16) hT rfl sm_60 rfl ha0) ?_
  refine xbd (fun q2 => ?_)
  rw [rv_60]
  change zB P 160 17 [(2, ((a0 : Nat) : Int)), (0, a1), (0, a2), (0, a3), (0, a4), (0, a5)] [(0, q2.1), (0, a5)] q2.2 = _
  refine Eq.trans (x17_3 (h := 17) hT rfl) ?_
  refine xit (fun _ => ?_) (fun _ => ?_)
  · refine Eq.trans (x4 (ls' := [(2, ((a0 : Nat) : Int)), (0, a1), (0, a2), (0, a3), (0, (a4 + 1)), (0, a5)]) (h := 31) hT rfl rfl rfl) ?_
    refine Eq.trans (x18 (h := 32) hT rfl) ?_
    exact rfl
  · refine Eq.trans (x1 (h := 18) hT rfl rfl (by decide)) ?_
    refine Eq.trans (x1 (h := 19) hT rfl rfl (by decide)) ?_
    refine Eq.trans (x1 (h := 20) hT rfl rfl (by decide)) ?_
    refine Eq.trans (x1 (h := 21) hT rfl rfl (by decide)) ?_
    refine Eq.trans (x31 (r := a0) (cl := 12) (as := [(0, a4), (0, a1), (0, a5)]) (st' := []) (h := 22) hT rfl sm_80 rfl ha0) ?_
    refine xbd (fun q3 => ?_)
    rw [rv_80]
    change zB P 160 23 [(2, ((a0 : Nat) : Int)), (0, a1), (0, a2), (0, a3), (0, a4), (0, a5)] [(0, q3.1)] q3.2 = _
    refine Eq.trans (x1 (h := 23) hT rfl rfl (by decide)) ?_
    refine Eq.trans (x17_1 (h := 24) hT rfl) ?_
    refine xit (fun _ => ?_) (fun _ => ?_)
    · refine Eq.trans (x4 (ls' := [(2, ((a0 : Nat) : Int)), (0, a1), (0, a2), (0, a3), (0, a4), (0, (a5 + 1))]) (h := 29) hT rfl rfl rfl) ?_
      refine Eq.trans (x18 (h := 30) hT rfl) ?_
      exact rfl
    · refine Eq.trans (x1 (h := 25) hT rfl rfl (by decide)) ?_
      refine Eq.trans (x0 (h := 26) hT rfl) ?_
      refine Eq.trans (x5_0 (h := 27) hT rfl) ?_
      refine Eq.trans (x2 (ls' := [(2, ((a0 : Nat) : Int)), (0, a1), (0, a2), (0, (a3 + 1)), (0, a4), (0, a5)]) (h := 28) hT rfl (Nat.le_of_ble_eq_true rfl) rfl) ?_
      refine Eq.trans (x4 (ls' := [(2, ((a0 : Nat) : Int)), (0, a1), (0, a2), (0, (a3 + 1)), (0, a4), (0, (a5 + 1))]) (h := 29) hT rfl rfl rfl) ?_
      refine Eq.trans (x18 (h := 30) hT rfl) ?_
      exact rfl
/-! WordLinksModel.takesSign(I)Z -/
set_option maxRecDepth 100000 in
theorem e_161 {P : zP} {d : zD P} {a0 : Nat} {a1 : Int} (ha0 : zkd a0 = 12) : MM P 161 [(2, ((a0 : Nat) : Int)), (0, a1)] d = ((MM P 54 [(2, ((a0 : Nat) : Int))] d).bind fun q1 => (if wr q1.1 = wr a1 then some (1, (q1.2.up a0 4 (((q1.2.m a0 4) + 1)))) else ((MM P 83 [(2, ((a0 : Nat) : Int)), (0, 1), (0, (q1.2.m a0 4))] q1.2).bind fun q2 => (if q2.1 = 0 ∨ q2.1 = 1 then some (q2.1, q2.2) else none)))) := by
  have hT := cT_161
  refine Eq.trans (MM_def sm_161 (Nat.le_of_ble_eq_true rfl)) ?_
  change zB P 161 0 [(2, ((a0 : Nat) : Int)), (0, a1)] [] d = _
  refine Eq.trans (x1 (h := 0) hT rfl rfl (by decide)) ?_
  refine Eq.trans (x31 (r := a0) (cl := 12) (as := []) (st' := []) (h := 1) hT rfl sm_54 rfl ha0) ?_
  refine xbd (fun q1 => ?_)
  rw [rv_54]
  change zB P 161 2 [(2, ((a0 : Nat) : Int)), (0, a1)] [(0, q1.1)] q1.2 = _
  refine Eq.trans (x1 (h := 2) hT rfl rfl (by decide)) ?_
  refine Eq.trans (x17_0 (h := 3) hT rfl) ?_
  refine xit (fun _ => ?_) (fun _ => ?_)
  · refine Eq.trans (x1 (h := 10) hT rfl rfl (by decide)) ?_
    refine Eq.trans (x1 (h := 11) hT rfl rfl (by decide)) ?_
    refine Eq.trans (x21 (r := a0) (cl := 12) (h := 12) hT rfl ha0) ?_
    refine Eq.trans (x0 (h := 13) hT rfl) ?_
    refine Eq.trans (x5_0 (h := 14) hT rfl) ?_
    refine Eq.trans (x22 (r := a0) (cl := 12) (h := 15) hT rfl ha0 (by decide) rfl (by decide)) ?_
    refine Eq.trans (x0 (h := 16) hT rfl) ?_
    exact x203c (h := 17) hT rfl (by decide)
  · refine Eq.trans (x1 (h := 4) hT rfl rfl (by decide)) ?_
    refine Eq.trans (x0 (h := 5) hT rfl) ?_
    refine Eq.trans (x1 (h := 6) hT rfl rfl (by decide)) ?_
    refine Eq.trans (x21 (r := a0) (cl := 12) (h := 7) hT rfl ha0) ?_
    refine Eq.trans (x31 (r := a0) (cl := 12) (as := [(0, 1), (0, (q1.2.m a0 4))]) (st' := []) (h := 8) hT rfl sm_83 rfl ha0) ?_
    refine xbd (fun q2 => ?_)
    rw [rv_83]
    change zB P 161 9 [(2, ((a0 : Nat) : Int)), (0, a1)] [(0, q2.1)] q2.2 = _
    exact x203 (h := 9) hT rfl
/-! WordLinksModel.toldMany(I)I -/
set_option maxRecDepth 100000 in
theorem e_162 {P : zP} {d : zD P} {a0 : Nat} {a1 : Int} (ha0 : zkd a0 = 12) : MM P 162 [(2, ((a0 : Nat) : Int)), (0, a1)] d = zB P 162 4 [(2, ((a0 : Nat) : Int)), (0, a1), (0, 0), (0, 0)] [] d := by
  have hT := cT_162
  refine Eq.trans (MM_def sm_162 (Nat.le_of_ble_eq_true rfl)) ?_
  change zB P 162 0 [(2, ((a0 : Nat) : Int)), (0, a1), (3, 0), (3, 0)] [] d = _
  refine Eq.trans (x0 (h := 0) hT rfl) ?_
  refine Eq.trans (x2 (ls' := [(2, ((a0 : Nat) : Int)), (0, a1), (0, 0), (3, 0)]) (h := 1) hT rfl (Nat.le_of_ble_eq_true rfl) rfl) ?_
  refine Eq.trans (x0 (h := 2) hT rfl) ?_
  refine Eq.trans (x2 (ls' := [(2, ((a0 : Nat) : Int)), (0, a1), (0, 0), (0, 0)]) (h := 3) hT rfl (Nat.le_of_ble_eq_true rfl) rfl) ?_
  exact rfl
set_option maxRecDepth 100000 in
theorem q_162_4 {P : zP} {d : zD P} {a0 : Nat} {a1 : Int} {a2 : Int} {a3 : Int} (ha0 : zkd a0 = 12) : zB P 162 4 [(2, ((a0 : Nat) : Int)), (0, a1), (0, a2), (0, a3)] [] d = (if wr 6 ≤ wr a3 then some (a2, d) else ((MM P 77 [(2, ((a0 : Nat) : Int)), (0, a1), (0, a3)] d).bind fun q1 => ((MM P 73 [(0, q1.1)] q1.2).bind fun q2 => zB P 162 4 [(2, ((a0 : Nat) : Int)), (0, a1), (0, (a2 + q2.1)), (0, (a3 + 1))] [] q2.2))) := by
  have hT := cT_162
  refine Eq.trans (x1 (h := 4) hT rfl rfl (by decide)) ?_
  refine Eq.trans (x0 (h := 5) hT rfl) ?_
  refine Eq.trans (x17_3 (h := 6) hT rfl) ?_
  refine xit (fun _ => ?_) (fun _ => ?_)
  · refine Eq.trans (x1 (h := 17) hT rfl rfl (by decide)) ?_
    exact x201 (h := 18) hT rfl
  · refine Eq.trans (x1 (h := 7) hT rfl rfl (by decide)) ?_
    refine Eq.trans (x1 (h := 8) hT rfl rfl (by decide)) ?_
    refine Eq.trans (x1 (h := 9) hT rfl rfl (by decide)) ?_
    refine Eq.trans (x1 (h := 10) hT rfl rfl (by decide)) ?_
    refine Eq.trans (x31 (r := a0) (cl := 12) (as := [(0, a1), (0, a3)]) (st' := [(0, a2)]) (h := 11) hT rfl sm_77 rfl ha0) ?_
    refine xbd (fun q1 => ?_)
    rw [rv_77]
    change zB P 162 12 [(2, ((a0 : Nat) : Int)), (0, a1), (0, a2), (0, a3)] [(0, q1.1), (0, a2)] q1.2 = _
    refine Eq.trans (x34 (as := [(0, q1.1)]) (st' := [(0, a2)]) (h := 12) hT rfl sm_73 rfl) ?_
    refine xbd (fun q2 => ?_)
    rw [rv_73]
    change zB P 162 13 [(2, ((a0 : Nat) : Int)), (0, a1), (0, a2), (0, a3)] [(0, q2.1), (0, a2)] q2.2 = _
    refine Eq.trans (x5_0 (h := 13) hT rfl) ?_
    refine Eq.trans (x2 (ls' := [(2, ((a0 : Nat) : Int)), (0, a1), (0, (a2 + q2.1)), (0, a3)]) (h := 14) hT rfl (Nat.le_of_ble_eq_true rfl) rfl) ?_
    refine Eq.trans (x4 (ls' := [(2, ((a0 : Nat) : Int)), (0, a1), (0, (a2 + q2.1)), (0, (a3 + 1))]) (h := 15) hT rfl rfl rfl) ?_
    refine Eq.trans (x18 (h := 16) hT rfl) ?_
    exact rfl
/-! WordLinksModel.undo()Z -/
set_option maxRecDepth 100000 in
theorem e_163 {P : zP} {d : zD P} {a0 : Nat} (ha0 : zkd a0 = 12) : MM P 163 [(2, ((a0 : Nat) : Int))] d = (if wr ((d.m a0 1)) ≠ 0 then ((MM P 50 [(2, ((a0 : Nat) : Int)), (0, 1), (0, 0)] d).bind fun q1 => some (1, q1.2)) else some (0, d)) := by
  have hT := cT_163
  refine Eq.trans (MM_def sm_163 (Nat.le_of_ble_eq_true rfl)) ?_
  change zB P 163 0 [(2, ((a0 : Nat) : Int))] [] d = _
  refine Eq.trans (x1 (h := 0) hT rfl rfl (by decide)) ?_
  refine Eq.trans (x21 (r := a0) (cl := 12) (h := 1) hT rfl ha0) ?_
  refine Eq.trans (x16_1 (h := 2) hT rfl) ?_
  refine xit (fun _ => ?_) (fun _ => ?_)
  · refine Eq.trans (x1 (h := 5) hT rfl rfl (by decide)) ?_
    refine Eq.trans (x0 (h := 6) hT rfl) ?_
    refine Eq.trans (x0 (h := 7) hT rfl) ?_
    refine Eq.trans (x31 (r := a0) (cl := 12) (as := [(0, 1), (0, 0)]) (st' := []) (h := 8) hT rfl sm_50 rfl ha0) ?_
    refine xbd (fun q1 => ?_)
    rw [rv_50]
    change zB P 163 9 [(2, ((a0 : Nat) : Int))] [] q1.2 = _
    refine Eq.trans (x0 (h := 9) hT rfl) ?_
    exact x203c (h := 10) hT rfl (by decide)
  · refine Eq.trans (x0 (h := 3) hT rfl) ?_
    exact x203c (h := 4) hT rfl (by decide)
/-! WordLinks$Corpus.allToldLinks()I -/
set_option maxRecDepth 100000 in
theorem e_164 {P : zP} {d : zD P} {a0 : Nat} (ha0 : zkd a0 = 0) : MM P 164 [(2, ((a0 : Nat) : Int))] d = zB P 164 4 [(2, ((a0 : Nat) : Int)), (0, 0), (0, 0)] [] d := by
  have hT := cT_164
  refine Eq.trans (MM_def sm_164 (Nat.le_of_ble_eq_true rfl)) ?_
  change zB P 164 0 [(2, ((a0 : Nat) : Int)), (3, 0), (3, 0)] [] d = _
  refine Eq.trans (x0 (h := 0) hT rfl) ?_
  refine Eq.trans (x2 (ls' := [(2, ((a0 : Nat) : Int)), (0, 0), (3, 0)]) (h := 1) hT rfl (Nat.le_of_ble_eq_true rfl) rfl) ?_
  refine Eq.trans (x0 (h := 2) hT rfl) ?_
  refine Eq.trans (x2 (ls' := [(2, ((a0 : Nat) : Int)), (0, 0), (0, 0)]) (h := 3) hT rfl (Nat.le_of_ble_eq_true rfl) rfl) ?_
  exact rfl
set_option maxRecDepth 100000 in
theorem q_164_4 {P : zP} {d : zD P} {a0 : Nat} {a1 : Int} {a2 : Int} (ha0 : zkd a0 = 0) : zB P 164 4 [(2, ((a0 : Nat) : Int)), (0, a1), (0, a2)] [] d = (if wr ((d.m a0 6)) ≤ wr a2 then some (a1, d) else ((MM P 92 [(2, ((a0 : Nat) : Int)), (0, a2)] d).bind fun q1 => zB P 164 4 [(2, ((a0 : Nat) : Int)), (0, (a1 + q1.1)), (0, (a2 + 1))] [] q1.2)) := by
  have hT := cT_164
  refine Eq.trans (x1 (h := 4) hT rfl rfl (by decide)) ?_
  refine Eq.trans (x1 (h := 5) hT rfl rfl (by decide)) ?_
  refine Eq.trans (x21 (r := a0) (cl := 0) (h := 6) hT rfl ha0) ?_
  refine Eq.trans (x17_3 (h := 7) hT rfl) ?_
  refine xit (fun _ => ?_) (fun _ => ?_)
  · refine Eq.trans (x1 (h := 16) hT rfl rfl (by decide)) ?_
    exact x201 (h := 17) hT rfl
  · refine Eq.trans (x1 (h := 8) hT rfl rfl (by decide)) ?_
    refine Eq.trans (x1 (h := 9) hT rfl rfl (by decide)) ?_
    refine Eq.trans (x1 (h := 10) hT rfl rfl (by decide)) ?_
    refine Eq.trans (x31 (r := a0) (cl := 0) (as := [(0, a2)]) (st' := [(0, a1)]) (h := 11) hT rfl sm_92 rfl ha0) ?_
    refine xbd (fun q1 => ?_)
    rw [rv_92]
    change zB P 164 12 [(2, ((a0 : Nat) : Int)), (0, a1), (0, a2)] [(0, q1.1), (0, a1)] q1.2 = _
    refine Eq.trans (x5_0 (h := 12) hT rfl) ?_
    refine Eq.trans (x2 (ls' := [(2, ((a0 : Nat) : Int)), (0, (a1 + q1.1)), (0, a2)]) (h := 13) hT rfl (Nat.le_of_ble_eq_true rfl) rfl) ?_
    refine Eq.trans (x4 (ls' := [(2, ((a0 : Nat) : Int)), (0, (a1 + q1.1)), (0, (a2 + 1))]) (h := 14) hT rfl rfl rfl) ?_
    refine Eq.trans (x18 (h := 15) hT rfl) ?_
    exact rfl
/-! WordLinks$Corpus.removeLatest()Z -/
set_option maxRecDepth 100000 in
theorem e_165 {P : zP} {d : zD P} {a0 : Nat} (ha0 : zkd a0 = 0) : MM P 165 [(2, ((a0 : Nat) : Int))] d = (if 0 < wr ((d.m a0 6)) then zB P 165 13 [(2, ((a0 : Nat) : Int)), (0, 0)] [] ((d.up a0 6 (((d.m a0 6) - 1)))) else some (0, d)) := by
  have hT := cT_165
  refine Eq.trans (MM_def sm_165 (Nat.le_of_ble_eq_true rfl)) ?_
  change zB P 165 0 [(2, ((a0 : Nat) : Int)), (3, 0)] [] d = _
  refine Eq.trans (x1 (h := 0) hT rfl rfl (by decide)) ?_
  refine Eq.trans (x21 (r := a0) (cl := 0) (h := 1) hT rfl ha0) ?_
  refine Eq.trans (x16_4 (h := 2) hT rfl) ?_
  refine xit (fun _ => ?_) (fun _ => ?_)
  · refine Eq.trans (x1 (h := 5) hT rfl rfl (by decide)) ?_
    refine Eq.trans (x13 (h := 6) hT rfl (by decide)) ?_
    refine Eq.trans (x21 (r := a0) (cl := 0) (h := 7) hT rfl ha0) ?_
    refine Eq.trans (x0 (h := 8) hT rfl) ?_
    refine Eq.trans (x5_1 (h := 9) hT rfl) ?_
    refine Eq.trans (x22 (r := a0) (cl := 0) (h := 10) hT rfl ha0 (by decide) rfl (by decide)) ?_
    refine Eq.trans (x0 (h := 11) hT rfl) ?_
    refine Eq.trans (x2 (ls' := [(2, ((a0 : Nat) : Int)), (0, 0)]) (h := 12) hT rfl (Nat.le_of_ble_eq_true rfl) rfl) ?_
    exact rfl
  · refine Eq.trans (x0 (h := 3) hT rfl) ?_
    exact x203c (h := 4) hT rfl (by decide)
set_option maxRecDepth 100000 in
theorem q_165_13 {P : zP} {d : zD P} {a0 : Nat} {a1 : Int} (ha0 : zkd a0 = 0) : zB P 165 13 [(2, ((a0 : Nat) : Int)), (0, a1)] [] d = (if wr 6 ≤ wr a1 then ((MM P 93 [(2, ((a0 : Nat) : Int)), (0, 0)] d).bind fun q1 => (if zin 0 2 then ((MM P 93 [(2, ((a0 : Nat) : Int)), (0, 1)] ((q1.2.up ((a0 + 1)) (zix 0) q1.1))).bind fun q3 => (if zin 1 2 then ((MM P 89 [(2, ((a0 : Nat) : Int))] ((q3.2.up ((a0 + 1)) (zix 1) q3.1))).bind fun q5 => some (1, q5.2)) else none)) else none)) else (if zin ((((d.m a0 6) * 6) + a1)) 144 then zB P 165 13 [(2, ((a0 : Nat) : Int)), (0, (a1 + 1))] [] ((d.up ((a0 + 14)) (zix ((((d.m a0 6) * 6) + a1))) 0)) else none)) := by
  have hT := cT_165
  refine Eq.trans (x1 (h := 13) hT rfl rfl (by decide)) ?_
  refine Eq.trans (x0 (h := 14) hT rfl) ?_
  refine Eq.trans (x17_3 (h := 15) hT rfl) ?_
  refine xit (fun _ => ?_) (fun _ => ?_)
  · refine Eq.trans (x1 (h := 28) hT rfl rfl (by decide)) ?_
    refine Eq.trans (x21r (r := a0) (cl := 0) (o := 1) (h := 29) hT rfl ha0 (by decide) rfl) ?_
    refine Eq.trans (x0 (h := 30) hT rfl) ?_
    refine Eq.trans (x1 (h := 31) hT rfl rfl (by decide)) ?_
    refine Eq.trans (x0 (h := 32) hT rfl) ?_
    refine Eq.trans (x31 (r := a0) (cl := 0) (as := [(0, 0)]) (st' := [(0, 0), (2, (((a0 + 1) : Nat) : Int))]) (h := 33) hT rfl sm_93 rfl ha0) ?_
    refine xbd (fun q1 => ?_)
    rw [rv_93]
    change zB P 165 34 [(2, ((a0 : Nat) : Int)), (0, a1)] [(0, q1.1), (0, 0), (2, (((a0 + 1) : Nat) : Int))] q1.2 = _
    refine Eq.trans (x25a (r := (a0 + 1)) (n := 2) (h := 34) hT rfl (kd_0_0 ha0) (ln_0_0 ha0) (by decide) rfl) ?_
    refine xig (fun hz2 => ?_)
    refine Eq.trans (x1 (h := 35) hT rfl rfl (by decide)) ?_
    refine Eq.trans (x21r (r := a0) (cl := 0) (o := 1) (h := 36) hT rfl ha0 (by decide) rfl) ?_
    refine Eq.trans (x0 (h := 37) hT rfl) ?_
    refine Eq.trans (x1 (h := 38) hT rfl rfl (by decide)) ?_
    refine Eq.trans (x0 (h := 39) hT rfl) ?_
    refine Eq.trans (x31 (r := a0) (cl := 0) (as := [(0, 1)]) (st' := [(0, 1), (2, (((a0 + 1) : Nat) : Int))]) (h := 40) hT rfl sm_93 rfl ha0) ?_
    refine xbd (fun q3 => ?_)
    rw [rv_93]
    change zB P 165 41 [(2, ((a0 : Nat) : Int)), (0, a1)] [(0, q3.1), (0, 1), (2, (((a0 + 1) : Nat) : Int))] q3.2 = _
    refine Eq.trans (x25a (r := (a0 + 1)) (n := 2) (h := 41) hT rfl (kd_0_0 ha0) (ln_0_0 ha0) (by decide) rfl) ?_
    refine xig (fun hz4 => ?_)
    refine Eq.trans (x1 (h := 42) hT rfl rfl (by decide)) ?_
    refine Eq.trans (x31 (r := a0) (cl := 0) (as := []) (st' := []) (h := 43) hT rfl sm_89 rfl ha0) ?_
    refine xbd (fun q5 => ?_)
    rw [rv_89]
    change zB P 165 44 [(2, ((a0 : Nat) : Int)), (0, a1)] [] q5.2 = _
    refine Eq.trans (x0 (h := 44) hT rfl) ?_
    exact x203c (h := 45) hT rfl (by decide)
  · refine Eq.trans (x1 (h := 16) hT rfl rfl (by decide)) ?_
    refine Eq.trans (x21r (r := a0) (cl := 0) (o := 14) (h := 17) hT rfl ha0 (by decide) rfl) ?_
    refine Eq.trans (x1 (h := 18) hT rfl rfl (by decide)) ?_
    refine Eq.trans (x21 (r := a0) (cl := 0) (h := 19) hT rfl ha0) ?_
    refine Eq.trans (x0 (h := 20) hT rfl) ?_
    refine Eq.trans (x5_2 (h := 21) hT rfl) ?_
    refine Eq.trans (x1 (h := 22) hT rfl rfl (by decide)) ?_
    refine Eq.trans (x5_0 (h := 23) hT rfl) ?_
    refine Eq.trans (x0 (h := 24) hT rfl) ?_
    refine Eq.trans (x25a (r := (a0 + 14)) (n := 144) (h := 25) hT rfl (kd_0_5 ha0) (ln_0_5 ha0) (by decide) rfl) ?_
    refine xig (fun hz6 => ?_)
    refine Eq.trans (x4 (ls' := [(2, ((a0 : Nat) : Int)), (0, (a1 + 1))]) (h := 26) hT rfl rfl rfl) ?_
    refine Eq.trans (x18 (h := 27) hT rfl) ?_
    exact rfl
/-! WordLinks$Corpus.takeRow(ILWordLinks$Rows;I)V -/
set_option maxRecDepth 100000 in
theorem e_166 {P : zP} {d : zD P} {a0 : Nat} {a1 : Int} {a2 : Nat} {a3 : Int} (ha0 : zkd a0 = 0) (ha2 : zkd a2 = 7) : MM P 166 [(2, ((a0 : Nat) : Int)), (0, a1), (2, ((a2 : Nat) : Int)), (0, a3)] d = ((MM P 25 [(2, ((a2 : Nat) : Int)), (0, a3)] d).bind fun q1 => (if zin a1 2 then (if zin ((q1.2.m a0 6)) 24 then zB P 166 16 [(2, ((a0 : Nat) : Int)), (0, a1), (2, ((a2 : Nat) : Int)), (0, a3), (0, (if wr 6 < wr q1.1 then 6 else q1.1)), (0, 0)] [] ((q1.2.up (((a0 + 8) + (1 + zix a1))) (zix ((q1.2.m a0 6))) ((if wr 6 < wr q1.1 then 6 else q1.1)))) else none) else none)) := by
  have hT := cT_166
  refine Eq.trans (MM_def sm_166 (Nat.le_of_ble_eq_true rfl)) ?_
  change zB P 166 0 [(2, ((a0 : Nat) : Int)), (0, a1), (2, ((a2 : Nat) : Int)), (0, a3), (3, 0), (3, 0)] [] d = _
  refine Eq.trans (x1 (h := 0) hT rfl rfl (by decide)) ?_
  refine Eq.trans (x1 (h := 1) hT rfl rfl (by decide)) ?_
  refine Eq.trans (x31 (r := a2) (cl := 7) (as := [(0, a3)]) (st' := []) (h := 2) hT rfl sm_25 rfl ha2) ?_
  refine xbd (fun q1 => ?_)
  rw [rv_25]
  change zB P 166 3 [(2, ((a0 : Nat) : Int)), (0, a1), (2, ((a2 : Nat) : Int)), (0, a3), (3, 0), (3, 0)] [(0, q1.1)] q1.2 = _
  refine Eq.trans (x0 (h := 3) hT rfl) ?_
  refine Eq.trans (x361 (h := 4) hT rfl rfl) ?_
  refine Eq.trans (x2 (ls' := [(2, ((a0 : Nat) : Int)), (0, a1), (2, ((a2 : Nat) : Int)), (0, a3), (0, (if wr 6 < wr q1.1 then 6 else q1.1)), (3, 0)]) (h := 5) hT rfl (Nat.le_of_ble_eq_true rfl) rfl) ?_
  refine Eq.trans (x1 (h := 6) hT rfl rfl (by decide)) ?_
  refine Eq.trans (x21r (r := a0) (cl := 0) (o := 8) (h := 7) hT rfl ha0 (by decide) rfl) ?_
  refine Eq.trans (x1 (h := 8) hT rfl rfl (by decide)) ?_
  refine Eq.trans (x24r (r := (a0 + 8)) (n := 2) (h := 9) hT rfl (kd_0_3 ha0) (ln_0_3 ha0) (by decide)) ?_
  refine xig (fun hz2 => ?_)
  refine Eq.trans (x1 (h := 10) hT rfl rfl (by decide)) ?_
  refine Eq.trans (x21 (r := a0) (cl := 0) (h := 11) hT rfl ha0) ?_
  refine Eq.trans (x1 (h := 12) hT rfl rfl (by decide)) ?_
  refine Eq.trans (x25a (r := ((a0 + 8) + (1 + zix a1))) (n := 24) (h := 13) hT rfl (kq_0_3 ha0 (zix_lt hz2)) (lq_0_3 ha0 (zix_lt hz2)) (by decide) rfl) ?_
  refine xig (fun hz3 => ?_)
  refine Eq.trans (x0 (h := 14) hT rfl) ?_
  refine Eq.trans (x2 (ls' := [(2, ((a0 : Nat) : Int)), (0, a1), (2, ((a2 : Nat) : Int)), (0, a3), (0, (if wr 6 < wr q1.1 then 6 else q1.1)), (0, 0)]) (h := 15) hT rfl (Nat.le_of_ble_eq_true rfl) rfl) ?_
  exact rfl
set_option maxRecDepth 100000 in
theorem q_166_16 {P : zP} {d : zD P} {a0 : Nat} {a1 : Int} {a2 : Nat} {a3 : Int} {a4 : Int} {a5 : Int} (ha0 : zkd a0 = 0) (ha2 : zkd a2 = 7) : zB P 166 16 [(2, ((a0 : Nat) : Int)), (0, a1), (2, ((a2 : Nat) : Int)), (0, a3), (0, a4), (0, a5)] [] d = (if wr a4 ≤ wr a5 then some (0, d) else (if zin a1 2 then ((MM P 112 [(2, ((a2 : Nat) : Int)), (0, a3), (0, a5)] d).bind fun q5 => (if zin a1 2 then ((MM P 3 [(2, ((a0 : Nat) : Int)), (0, a1), (1, q5.1), (0, (q5.2.m ((a0 + 1)) (zix a1)))] q5.2).bind fun q7 => (if zin ((((d.m a0 6) * 6) + a5)) 144 then zB P 166 16 [(2, ((a0 : Nat) : Int)), (0, a1), (2, ((a2 : Nat) : Int)), (0, a3), (0, a4), (0, (a5 + 1))] [] ((q7.2.up (((a0 + 11) + (1 + zix a1))) (zix ((((d.m a0 6) * 6) + a5))) ((if wr q7.1 < wr 0 then 0 else q7.1)))) else none)) else none)) else none)) := by
  have hT := cT_166
  refine Eq.trans (x1 (h := 16) hT rfl rfl (by decide)) ?_
  refine Eq.trans (x1 (h := 17) hT rfl rfl (by decide)) ?_
  refine Eq.trans (x17_3 (h := 18) hT rfl) ?_
  refine xit (fun _ => ?_) (fun _ => ?_)
  · exact x20 (h := 45) hT rfl
  · refine Eq.trans (x1 (h := 19) hT rfl rfl (by decide)) ?_
    refine Eq.trans (x21r (r := a0) (cl := 0) (o := 11) (h := 20) hT rfl ha0 (by decide) rfl) ?_
    refine Eq.trans (x1 (h := 21) hT rfl rfl (by decide)) ?_
    refine Eq.trans (x24r (r := (a0 + 11)) (n := 2) (h := 22) hT rfl (kd_0_4 ha0) (ln_0_4 ha0) (by decide)) ?_
    refine xig (fun hz4 => ?_)
    refine Eq.trans (x1 (h := 23) hT rfl rfl (by decide)) ?_
    refine Eq.trans (x21 (r := a0) (cl := 0) (h := 24) hT rfl ha0) ?_
    refine Eq.trans (x0 (h := 25) hT rfl) ?_
    refine Eq.trans (x5_2 (h := 26) hT rfl) ?_
    refine Eq.trans (x1 (h := 27) hT rfl rfl (by decide)) ?_
    refine Eq.trans (x5_0 (h := 28) hT rfl) ?_
    refine Eq.trans (x1 (h := 29) hT rfl rfl (by decide)) ?_
    refine Eq.trans (x1 (h := 30) hT rfl rfl (by decide)) ?_
    refine Eq.trans (x1 (h := 31) hT rfl rfl (by decide)) ?_
    refine Eq.trans (x1 (h := 32) hT rfl rfl (by decide)) ?_
    refine Eq.trans (x1 (h := 33) hT rfl rfl (by decide)) ?_
    refine Eq.trans (x31 (r := a2) (cl := 7) (as := [(0, a3), (0, a5)]) (st' := [(0, a1), (2, ((a0 : Nat) : Int)), (0, (((d.m a0 6) * 6) + a5)), (2, ((((a0 + 11) + (1 + zix a1)) : Nat) : Int))]) (h := 34) hT rfl sm_112 rfl ha2) ?_
    refine xbd (fun q5 => ?_)
    rw [rv_112]
    change zB P 166 35 [(2, ((a0 : Nat) : Int)), (0, a1), (2, ((a2 : Nat) : Int)), (0, a3), (0, a4), (0, a5)] [(1, q5.1), (0, a1), (2, ((a0 : Nat) : Int)), (0, (((d.m a0 6) * 6) + a5)), (2, ((((a0 + 11) + (1 + zix a1)) : Nat) : Int))] q5.2 = _
    refine Eq.trans (x1 (h := 35) hT rfl rfl (by decide)) ?_
    refine Eq.trans (x21r (r := a0) (cl := 0) (o := 1) (h := 36) hT rfl ha0 (by decide) rfl) ?_
    refine Eq.trans (x1 (h := 37) hT rfl rfl (by decide)) ?_
    refine Eq.trans (x24 (r := (a0 + 1)) (n := 2) (h := 38) hT rfl (Or.inl (kd_0_0 ha0)) (ln_0_0 ha0)) ?_
    refine xig (fun hz6 => ?_)
    refine Eq.trans (x31 (r := a0) (cl := 0) (as := [(0, a1), (1, q5.1), (0, (q5.2.m ((a0 + 1)) (zix a1)))]) (st' := [(0, (((d.m a0 6) * 6) + a5)), (2, ((((a0 + 11) + (1 + zix a1)) : Nat) : Int))]) (h := 39) hT rfl sm_3 rfl ha0) ?_
    refine xbd (fun q7 => ?_)
    rw [rv_3]
    change zB P 166 40 [(2, ((a0 : Nat) : Int)), (0, a1), (2, ((a2 : Nat) : Int)), (0, a3), (0, a4), (0, a5)] [(0, q7.1), (0, (((d.m a0 6) * 6) + a5)), (2, ((((a0 + 11) + (1 + zix a1)) : Nat) : Int))] q7.2 = _
    refine Eq.trans (x0 (h := 40) hT rfl) ?_
    refine Eq.trans (x36 (h := 41) hT rfl rfl) ?_
    refine Eq.trans (x25a (r := ((a0 + 11) + (1 + zix a1))) (n := 144) (h := 42) hT rfl (kq_0_4 ha0 (zix_lt hz4)) (lq_0_4 ha0 (zix_lt hz4)) (by decide) rfl) ?_
    refine xig (fun hz8 => ?_)
    refine Eq.trans (x4 (ls' := [(2, ((a0 : Nat) : Int)), (0, a1), (2, ((a2 : Nat) : Int)), (0, a3), (0, a4), (0, (a5 + 1))]) (h := 43) hT rfl rfl rfl) ?_
    refine Eq.trans (x18 (h := 44) hT rfl) ?_
    exact rfl
/-! WordLinks$Corpus.wordsWith(ILWordLinks$Rows;)I -/
set_option maxRecDepth 100000 in
theorem e_167 {P : zP} {d : zD P} {a0 : Nat} {a1 : Int} {a2 : Nat} (ha0 : zkd a0 = 0) (ha2 : zkd a2 = 7) : MM P 167 [(2, ((a0 : Nat) : Int)), (0, a1), (2, ((a2 : Nat) : Int))] d = (if zin a1 2 then zB P 167 7 [(2, ((a0 : Nat) : Int)), (0, a1), (2, ((a2 : Nat) : Int)), (0, (d.m ((a0 + 1)) (zix a1))), (0, 0), (3, 0), (3, 0), (3, 0)] [] d else none) := by
  have hT := cT_167
  refine Eq.trans (MM_def sm_167 (Nat.le_of_ble_eq_true rfl)) ?_
  change zB P 167 0 [(2, ((a0 : Nat) : Int)), (0, a1), (2, ((a2 : Nat) : Int)), (3, 0), (3, 0), (3, 0), (3, 0), (3, 0)] [] d = _
  refine Eq.trans (x1 (h := 0) hT rfl rfl (by decide)) ?_
  refine Eq.trans (x21r (r := a0) (cl := 0) (o := 1) (h := 1) hT rfl ha0 (by decide) rfl) ?_
  refine Eq.trans (x1 (h := 2) hT rfl rfl (by decide)) ?_
  refine Eq.trans (x24 (r := (a0 + 1)) (n := 2) (h := 3) hT rfl (Or.inl (kd_0_0 ha0)) (ln_0_0 ha0)) ?_
  refine xig (fun hz1 => ?_)
  refine Eq.trans (x2 (ls' := [(2, ((a0 : Nat) : Int)), (0, a1), (2, ((a2 : Nat) : Int)), (0, (d.m ((a0 + 1)) (zix a1))), (3, 0), (3, 0), (3, 0), (3, 0)]) (h := 4) hT rfl (Nat.le_of_ble_eq_true rfl) rfl) ?_
  refine Eq.trans (x0 (h := 5) hT rfl) ?_
  refine Eq.trans (x2 (ls' := [(2, ((a0 : Nat) : Int)), (0, a1), (2, ((a2 : Nat) : Int)), (0, (d.m ((a0 + 1)) (zix a1))), (0, 0), (3, 0), (3, 0), (3, 0)]) (h := 6) hT rfl (Nat.le_of_ble_eq_true rfl) rfl) ?_
  exact rfl
set_option maxRecDepth 100000 in
theorem q_167_7 {P : zP} {d : zD P} {a0 : Nat} {a1 : Int} {a2 : Nat} {a3 : Int} {a4 : Int} {g5 : zV} {g6 : zV} {g7 : zV} (ha0 : zkd a0 = 0) (ha2 : zkd a2 = 7) : zB P 167 7 [(2, ((a0 : Nat) : Int)), (0, a1), (2, ((a2 : Nat) : Int)), (0, a3), (0, a4), g5, g6, g7] [] d = (if wr ((d.m a2 2)) ≤ wr a4 then some (a3, d) else zB P 167 13 [(2, ((a0 : Nat) : Int)), (0, a1), (2, ((a2 : Nat) : Int)), (0, a3), (0, a4), (0, 0), g6, g7] [] d) := by
  have hT := cT_167
  refine Eq.trans (x1 (h := 7) hT rfl rfl (by decide)) ?_
  refine Eq.trans (x1 (h := 8) hT rfl rfl (by decide)) ?_
  refine Eq.trans (x21 (r := a2) (cl := 7) (h := 9) hT rfl ha2) ?_
  refine Eq.trans (x17_3 (h := 10) hT rfl) ?_
  refine xit (fun _ => ?_) (fun _ => ?_)
  · refine Eq.trans (x1 (h := 46) hT rfl rfl (by decide)) ?_
    exact x201 (h := 47) hT rfl
  · refine Eq.trans (x0 (h := 11) hT rfl) ?_
    refine Eq.trans (x2 (ls' := [(2, ((a0 : Nat) : Int)), (0, a1), (2, ((a2 : Nat) : Int)), (0, a3), (0, a4), (0, 0), g6, g7]) (h := 12) hT rfl (Nat.le_of_ble_eq_true rfl) rfl) ?_
    exact rfl
set_option maxRecDepth 100000 in
theorem q_167_13 {P : zP} {d : zD P} {a0 : Nat} {a1 : Int} {a2 : Nat} {a3 : Int} {a4 : Int} {a5 : Int} {g6 : zV} {g7 : zV} (ha0 : zkd a0 = 0) (ha2 : zkd a2 = 7) : zB P 167 13 [(2, ((a0 : Nat) : Int)), (0, a1), (2, ((a2 : Nat) : Int)), (0, a3), (0, a4), (0, a5), g6, g7] [] d = ((MM P 25 [(2, ((a2 : Nat) : Int)), (0, a4)] d).bind fun q2 => (if wr q2.1 ≤ wr a5 then zB P 167 7 [(2, ((a0 : Nat) : Int)), (0, a1), (2, ((a2 : Nat) : Int)), (0, a3), (0, (a4 + 1)), (0, a5), g6, g7] [] q2.2 else ((MM P 112 [(2, ((a2 : Nat) : Int)), (0, a4), (0, a5)] q2.2).bind fun q3 => ((MM P 3 [(2, ((a0 : Nat) : Int)), (0, a1), (1, q3.1), (0, a3)] q3.2).bind fun q4 => (if 0 ≤ wr q4.1 then zB P 167 13 [(2, ((a0 : Nat) : Int)), (0, a1), (2, ((a2 : Nat) : Int)), (0, a3), (0, a4), (0, (a5 + 1)), (1, q3.1), (3, 0)] [] q4.2 else (if wr a3 < wr 40 then (if zin a1 2 then (if zin a3 40 then zB P 167 13 [(2, ((a0 : Nat) : Int)), (0, a1), (2, ((a2 : Nat) : Int)), (0, (a3 + 1)), (0, a4), (0, (a5 + 1)), (1, q3.1), (3, 0)] [] ((q4.2.up (((a0 + 2) + (1 + zix a1))) (zix a3) q3.1)) else none) else none) else some (41, q4.2))))))) := by
  have hT := cT_167
  refine Eq.trans (x1 (h := 13) hT rfl rfl (by decide)) ?_
  refine Eq.trans (x1 (h := 14) hT rfl rfl (by decide)) ?_
  refine Eq.trans (x1 (h := 15) hT rfl rfl (by decide)) ?_
  refine Eq.trans (x31 (r := a2) (cl := 7) (as := [(0, a4)]) (st' := [(0, a5)]) (h := 16) hT rfl sm_25 rfl ha2) ?_
  refine xbd (fun q2 => ?_)
  rw [rv_25]
  change zB P 167 17 [(2, ((a0 : Nat) : Int)), (0, a1), (2, ((a2 : Nat) : Int)), (0, a3), (0, a4), (0, a5), g6, g7] [(0, q2.1), (0, a5)] q2.2 = _
  refine Eq.trans (x17_3 (h := 17) hT rfl) ?_
  refine xit (fun _ => ?_) (fun _ => ?_)
  · refine Eq.trans (x4 (ls' := [(2, ((a0 : Nat) : Int)), (0, a1), (2, ((a2 : Nat) : Int)), (0, a3), (0, (a4 + 1)), (0, a5), g6, g7]) (h := 44) hT rfl rfl rfl) ?_
    refine Eq.trans (x18 (h := 45) hT rfl) ?_
    exact rfl
  · refine Eq.trans (x1 (h := 18) hT rfl rfl (by decide)) ?_
    refine Eq.trans (x1 (h := 19) hT rfl rfl (by decide)) ?_
    refine Eq.trans (x1 (h := 20) hT rfl rfl (by decide)) ?_
    refine Eq.trans (x31 (r := a2) (cl := 7) (as := [(0, a4), (0, a5)]) (st' := []) (h := 21) hT rfl sm_112 rfl ha2) ?_
    refine xbd (fun q3 => ?_)
    rw [rv_112]
    change zB P 167 22 [(2, ((a0 : Nat) : Int)), (0, a1), (2, ((a2 : Nat) : Int)), (0, a3), (0, a4), (0, a5), g6, g7] [(1, q3.1)] q3.2 = _
    refine Eq.trans (x3 (ls' := [(2, ((a0 : Nat) : Int)), (0, a1), (2, ((a2 : Nat) : Int)), (0, a3), (0, a4), (0, a5), (1, q3.1), (3, 0)]) (h := 22) hT rfl (Nat.le_of_ble_eq_true rfl) rfl) ?_
    refine Eq.trans (x1 (h := 23) hT rfl rfl (by decide)) ?_
    refine Eq.trans (x1 (h := 24) hT rfl rfl (by decide)) ?_
    refine Eq.trans (x1 (h := 25) hT rfl rfl (by decide)) ?_
    refine Eq.trans (x1 (h := 26) hT rfl rfl (by decide)) ?_
    refine Eq.trans (x31 (r := a0) (cl := 0) (as := [(0, a1), (1, q3.1), (0, a3)]) (st' := []) (h := 27) hT rfl sm_3 rfl ha0) ?_
    refine xbd (fun q4 => ?_)
    rw [rv_3]
    change zB P 167 28 [(2, ((a0 : Nat) : Int)), (0, a1), (2, ((a2 : Nat) : Int)), (0, a3), (0, a4), (0, a5), (1, q3.1), (3, 0)] [(0, q4.1)] q4.2 = _
    refine Eq.trans (x16_3 (h := 28) hT rfl) ?_
    refine xit (fun _ => ?_) (fun _ => ?_)
    · refine Eq.trans (x4 (ls' := [(2, ((a0 : Nat) : Int)), (0, a1), (2, ((a2 : Nat) : Int)), (0, a3), (0, a4), (0, (a5 + 1)), (1, q3.1), (3, 0)]) (h := 42) hT rfl rfl rfl) ?_
      refine Eq.trans (x18 (h := 43) hT rfl) ?_
      exact rfl
    · refine Eq.trans (x1 (h := 29) hT rfl rfl (by decide)) ?_
      refine Eq.trans (x0 (h := 30) hT rfl) ?_
      refine Eq.trans (x17_2 (h := 31) hT rfl) ?_
      refine xit (fun _ => ?_) (fun _ => ?_)
      · refine Eq.trans (x1 (h := 34) hT rfl rfl (by decide)) ?_
        refine Eq.trans (x21r (r := a0) (cl := 0) (o := 2) (h := 35) hT rfl ha0 (by decide) rfl) ?_
        refine Eq.trans (x1 (h := 36) hT rfl rfl (by decide)) ?_
        refine Eq.trans (x24r (r := (a0 + 2)) (n := 2) (h := 37) hT rfl (kd_0_1 ha0) (ln_0_1 ha0) (by decide)) ?_
        refine xig (fun hz5 => ?_)
        refine Eq.trans (x1 (h := 38) hT rfl rfl (by decide)) ?_
        refine Eq.trans (x1 (h := 39) hT rfl rfl (by decide)) ?_
        refine Eq.trans (x25a (r := ((a0 + 2) + (1 + zix a1))) (n := 40) (h := 40) hT rfl (kq_0_1 ha0 (zix_lt hz5)) (lq_0_1 ha0 (zix_lt hz5)) (by decide) rfl) ?_
        refine xig (fun hz6 => ?_)
        refine Eq.trans (x4 (ls' := [(2, ((a0 : Nat) : Int)), (0, a1), (2, ((a2 : Nat) : Int)), (0, (a3 + 1)), (0, a4), (0, a5), (1, q3.1), (3, 0)]) (h := 41) hT rfl rfl rfl) ?_
        refine Eq.trans (x4 (ls' := [(2, ((a0 : Nat) : Int)), (0, a1), (2, ((a2 : Nat) : Int)), (0, (a3 + 1)), (0, a4), (0, (a5 + 1)), (1, q3.1), (3, 0)]) (h := 42) hT rfl rfl rfl) ?_
        refine Eq.trans (x18 (h := 43) hT rfl) ?_
        exact rfl
      · refine Eq.trans (x0 (h := 32) hT rfl) ?_
        exact x201 (h := 33) hT rfl
/-! WordLinks$Linker.crossings()I -/
set_option maxRecDepth 100000 in
theorem e_168 {P : zP} {d : zD P} {a0 : Nat} (ha0 : zkd a0 = 1) : MM P 168 [(2, ((a0 : Nat) : Int))] d = zB P 168 4 [(2, ((a0 : Nat) : Int)), (0, 0), (0, 0), (3, 0)] [] d := by
  have hT := cT_168
  refine Eq.trans (MM_def sm_168 (Nat.le_of_ble_eq_true rfl)) ?_
  change zB P 168 0 [(2, ((a0 : Nat) : Int)), (3, 0), (3, 0), (3, 0)] [] d = _
  refine Eq.trans (x0 (h := 0) hT rfl) ?_
  refine Eq.trans (x2 (ls' := [(2, ((a0 : Nat) : Int)), (0, 0), (3, 0), (3, 0)]) (h := 1) hT rfl (Nat.le_of_ble_eq_true rfl) rfl) ?_
  refine Eq.trans (x0 (h := 2) hT rfl) ?_
  refine Eq.trans (x2 (ls' := [(2, ((a0 : Nat) : Int)), (0, 0), (0, 0), (3, 0)]) (h := 3) hT rfl (Nat.le_of_ble_eq_true rfl) rfl) ?_
  exact rfl
set_option maxRecDepth 100000 in
theorem q_168_4 {P : zP} {d : zD P} {a0 : Nat} {a1 : Int} {a2 : Int} {g3 : zV} (ha0 : zkd a0 = 1) : zB P 168 4 [(2, ((a0 : Nat) : Int)), (0, a1), (0, a2), g3] [] d = (if wr ((d.m a0 4)) ≤ wr a2 then some (a1, d) else zB P 168 10 [(2, ((a0 : Nat) : Int)), (0, a1), (0, a2), (0, 0)] [] d) := by
  have hT := cT_168
  refine Eq.trans (x1 (h := 4) hT rfl rfl (by decide)) ?_
  refine Eq.trans (x1 (h := 5) hT rfl rfl (by decide)) ?_
  refine Eq.trans (x21 (r := a0) (cl := 1) (h := 6) hT rfl ha0) ?_
  refine Eq.trans (x17_3 (h := 7) hT rfl) ?_
  refine xit (fun _ => ?_) (fun _ => ?_)
  · refine Eq.trans (x1 (h := 39) hT rfl rfl (by decide)) ?_
    exact x201 (h := 40) hT rfl
  · refine Eq.trans (x0 (h := 8) hT rfl) ?_
    refine Eq.trans (x2 (ls' := [(2, ((a0 : Nat) : Int)), (0, a1), (0, a2), (0, 0)]) (h := 9) hT rfl (Nat.le_of_ble_eq_true rfl) rfl) ?_
    exact rfl
set_option maxRecDepth 100000 in
theorem q_168_10 {P : zP} {d : zD P} {a0 : Nat} {a1 : Int} {a2 : Int} {a3 : Int} (ha0 : zkd a0 = 1) : zB P 168 10 [(2, ((a0 : Nat) : Int)), (0, a1), (0, a2), (0, a3)] [] d = (if wr ((d.m a0 5)) ≤ wr a3 then zB P 168 4 [(2, ((a0 : Nat) : Int)), (0, a1), (0, (a2 + 1)), (0, a3)] [] d else (if zin a2 6 then (if wr ((zbin 3 ((zbin 8 ((d.m ((a0 + 4)) (zix a2))) a3)) 1)) = 0 then zB P 168 10 [(2, ((a0 : Nat) : Int)), (0, a1), (0, a2), (0, (a3 + 1))] [] d else ((MM P 98 [(2, ((a0 : Nat) : Int)), (0, (a2 + 1)), (0, (d.m a0 4)), (0, 0), (0, a3)] d).bind fun q2 => zB P 168 10 [(2, ((a0 : Nat) : Int)), (0, (a1 + q2.1)), (0, a2), (0, (a3 + 1))] [] q2.2)) else none)) := by
  have hT := cT_168
  refine Eq.trans (x1 (h := 10) hT rfl rfl (by decide)) ?_
  refine Eq.trans (x1 (h := 11) hT rfl rfl (by decide)) ?_
  refine Eq.trans (x21 (r := a0) (cl := 1) (h := 12) hT rfl ha0) ?_
  refine Eq.trans (x17_3 (h := 13) hT rfl) ?_
  refine xit (fun _ => ?_) (fun _ => ?_)
  · refine Eq.trans (x4 (ls' := [(2, ((a0 : Nat) : Int)), (0, a1), (0, (a2 + 1)), (0, a3)]) (h := 37) hT rfl rfl rfl) ?_
    refine Eq.trans (x18 (h := 38) hT rfl) ?_
    exact rfl
  · refine Eq.trans (x1 (h := 14) hT rfl rfl (by decide)) ?_
    refine Eq.trans (x21r (r := a0) (cl := 1) (o := 4) (h := 15) hT rfl ha0 (by decide) rfl) ?_
    refine Eq.trans (x1 (h := 16) hT rfl rfl (by decide)) ?_
    refine Eq.trans (x24 (r := (a0 + 4)) (n := 6) (h := 17) hT rfl (Or.inl (kd_1_3 ha0)) (ln_1_3 ha0)) ?_
    refine xig (fun hz1 => ?_)
    refine Eq.trans (x1 (h := 18) hT rfl rfl (by decide)) ?_
    refine Eq.trans (x5n (h := 19) hT rfl) ?_
    refine Eq.trans (x0 (h := 20) hT rfl) ?_
    refine Eq.trans (x5n (h := 21) hT rfl) ?_
    refine Eq.trans (x16_0 (h := 22) hT rfl) ?_
    refine xit (fun _ => ?_) (fun _ => ?_)
    · refine Eq.trans (x4 (ls' := [(2, ((a0 : Nat) : Int)), (0, a1), (0, a2), (0, (a3 + 1))]) (h := 35) hT rfl rfl rfl) ?_
      refine Eq.trans (x18 (h := 36) hT rfl) ?_
      exact rfl
    · refine Eq.trans (x1 (h := 23) hT rfl rfl (by decide)) ?_
      refine Eq.trans (x1 (h := 24) hT rfl rfl (by decide)) ?_
      refine Eq.trans (x1 (h := 25) hT rfl rfl (by decide)) ?_
      refine Eq.trans (x0 (h := 26) hT rfl) ?_
      refine Eq.trans (x5_0 (h := 27) hT rfl) ?_
      refine Eq.trans (x1 (h := 28) hT rfl rfl (by decide)) ?_
      refine Eq.trans (x21 (r := a0) (cl := 1) (h := 29) hT rfl ha0) ?_
      refine Eq.trans (x0 (h := 30) hT rfl) ?_
      refine Eq.trans (x1 (h := 31) hT rfl rfl (by decide)) ?_
      refine Eq.trans (x31 (r := a0) (cl := 1) (as := [(0, (a2 + 1)), (0, (d.m a0 4)), (0, 0), (0, a3)]) (st' := [(0, a1)]) (h := 32) hT rfl sm_98 rfl ha0) ?_
      refine xbd (fun q2 => ?_)
      rw [rv_98]
      change zB P 168 33 [(2, ((a0 : Nat) : Int)), (0, a1), (0, a2), (0, a3)] [(0, q2.1), (0, a1)] q2.2 = _
      refine Eq.trans (x5_0 (h := 33) hT rfl) ?_
      refine Eq.trans (x2 (ls' := [(2, ((a0 : Nat) : Int)), (0, (a1 + q2.1)), (0, a2), (0, a3)]) (h := 34) hT rfl (Nat.le_of_ble_eq_true rfl) rfl) ?_
      refine Eq.trans (x4 (ls' := [(2, ((a0 : Nat) : Int)), (0, (a1 + q2.1)), (0, a2), (0, (a3 + 1))]) (h := 35) hT rfl rfl rfl) ?_
      refine Eq.trans (x18 (h := 36) hT rfl) ?_
      exact rfl
/-! WordLinks$Linker.fillUp()V -/
set_option maxRecDepth 100000 in
theorem e_169 {P : zP} {d : zD P} {a0 : Nat} (ha0 : zkd a0 = 1) : MM P 169 [(2, ((a0 : Nat) : Int))] d = zB P 169 2 [(2, ((a0 : Nat) : Int)), (0, 0), (3, 0)] [] d := by
  have hT := cT_169
  refine Eq.trans (MM_def sm_169 (Nat.le_of_ble_eq_true rfl)) ?_
  change zB P 169 0 [(2, ((a0 : Nat) : Int)), (3, 0), (3, 0)] [] d = _
  refine Eq.trans (x0 (h := 0) hT rfl) ?_
  refine Eq.trans (x2 (ls' := [(2, ((a0 : Nat) : Int)), (0, 0), (3, 0)]) (h := 1) hT rfl (Nat.le_of_ble_eq_true rfl) rfl) ?_
  exact rfl
set_option maxRecDepth 100000 in
theorem q_169_2 {P : zP} {d : zD P} {a0 : Nat} {a1 : Int} {g2 : zV} (ha0 : zkd a0 = 1) : zB P 169 2 [(2, ((a0 : Nat) : Int)), (0, a1), g2] [] d = (if wr ((d.m a0 4)) ≤ wr a1 then some (0, d) else zB P 169 8 [(2, ((a0 : Nat) : Int)), (0, a1), (0, 0)] [] d) := by
  have hT := cT_169
  refine Eq.trans (x1 (h := 2) hT rfl rfl (by decide)) ?_
  refine Eq.trans (x1 (h := 3) hT rfl rfl (by decide)) ?_
  refine Eq.trans (x21 (r := a0) (cl := 1) (h := 4) hT rfl ha0) ?_
  refine Eq.trans (x17_3 (h := 5) hT rfl) ?_
  refine xit (fun _ => ?_) (fun _ => ?_)
  · exact x20 (h := 40) hT rfl
  · refine Eq.trans (x0 (h := 6) hT rfl) ?_
    refine Eq.trans (x2 (ls' := [(2, ((a0 : Nat) : Int)), (0, a1), (0, 0)]) (h := 7) hT rfl (Nat.le_of_ble_eq_true rfl) rfl) ?_
    exact rfl
set_option maxRecDepth 100000 in
theorem q_169_8 {P : zP} {d : zD P} {a0 : Nat} {a1 : Int} {a2 : Int} (ha0 : zkd a0 = 1) : zB P 169 8 [(2, ((a0 : Nat) : Int)), (0, a1), (0, a2)] [] d = (if wr ((d.m a0 5)) ≤ wr a2 then zB P 169 2 [(2, ((a0 : Nat) : Int)), (0, (a1 + 1)), (0, a2)] [] d else ((MM P 9 [(2, ((a0 : Nat) : Int)), (0, a1), (0, a2)] d).bind fun q1 => (if wr q1.1 = 0 then zB P 169 8 [(2, ((a0 : Nat) : Int)), (0, a1), (0, (a2 + 1))] [] q1.2 else (if zin a1 6 then (if wr ((q1.2.m ((a0 + 4)) (zix a1))) ≠ 0 then zB P 169 8 [(2, ((a0 : Nat) : Int)), (0, a1), (0, (a2 + 1))] [] q1.2 else ((MM P 97 [(2, ((a0 : Nat) : Int)), (0, a2)] q1.2).bind fun q3 => (if wr q3.1 = 0 then zB P 169 8 [(2, ((a0 : Nat) : Int)), (0, a1), (0, (a2 + 1))] [] q3.2 else (if zin a1 6 then (if zin a1 6 then zB P 169 8 [(2, ((a0 : Nat) : Int)), (0, a1), (0, (a2 + 1))] [] ((q3.2.up ((a0 + 4)) (zix a1) ((zbin 4 ((q3.2.m ((a0 + 4)) (zix a1))) ((zbin 6 1 a2)))))) else none) else none)))) else none)))) := by
  have hT := cT_169
  refine Eq.trans (x1 (h := 8) hT rfl rfl (by decide)) ?_
  refine Eq.trans (x1 (h := 9) hT rfl rfl (by decide)) ?_
  refine Eq.trans (x21 (r := a0) (cl := 1) (h := 10) hT rfl ha0) ?_
  refine Eq.trans (x17_3 (h := 11) hT rfl) ?_
  refine xit (fun _ => ?_) (fun _ => ?_)
  · refine Eq.trans (x4 (ls' := [(2, ((a0 : Nat) : Int)), (0, (a1 + 1)), (0, a2)]) (h := 38) hT rfl rfl rfl) ?_
    refine Eq.trans (x18 (h := 39) hT rfl) ?_
    exact rfl
  · refine Eq.trans (x1 (h := 12) hT rfl rfl (by decide)) ?_
    refine Eq.trans (x1 (h := 13) hT rfl rfl (by decide)) ?_
    refine Eq.trans (x1 (h := 14) hT rfl rfl (by decide)) ?_
    refine Eq.trans (x31 (r := a0) (cl := 1) (as := [(0, a1), (0, a2)]) (st' := []) (h := 15) hT rfl sm_9 rfl ha0) ?_
    refine xbd (fun q1 => ?_)
    rw [rv_9]
    change zB P 169 16 [(2, ((a0 : Nat) : Int)), (0, a1), (0, a2)] [(0, q1.1)] q1.2 = _
    refine Eq.trans (x16_0 (h := 16) hT rfl) ?_
    refine xit (fun _ => ?_) (fun _ => ?_)
    · refine Eq.trans (x4 (ls' := [(2, ((a0 : Nat) : Int)), (0, a1), (0, (a2 + 1))]) (h := 36) hT rfl rfl rfl) ?_
      refine Eq.trans (x18 (h := 37) hT rfl) ?_
      exact rfl
    · refine Eq.trans (x1 (h := 17) hT rfl rfl (by decide)) ?_
      refine Eq.trans (x21r (r := a0) (cl := 1) (o := 4) (h := 18) hT rfl ha0 (by decide) rfl) ?_
      refine Eq.trans (x1 (h := 19) hT rfl rfl (by decide)) ?_
      refine Eq.trans (x24 (r := (a0 + 4)) (n := 6) (h := 20) hT rfl (Or.inl (kd_1_3 ha0)) (ln_1_3 ha0)) ?_
      refine xig (fun hz2 => ?_)
      refine Eq.trans (x16_1 (h := 21) hT rfl) ?_
      refine xit (fun _ => ?_) (fun _ => ?_)
      · refine Eq.trans (x4 (ls' := [(2, ((a0 : Nat) : Int)), (0, a1), (0, (a2 + 1))]) (h := 36) hT rfl rfl rfl) ?_
        refine Eq.trans (x18 (h := 37) hT rfl) ?_
        exact rfl
      · refine Eq.trans (x1 (h := 22) hT rfl rfl (by decide)) ?_
        refine Eq.trans (x1 (h := 23) hT rfl rfl (by decide)) ?_
        refine Eq.trans (x31 (r := a0) (cl := 1) (as := [(0, a2)]) (st' := []) (h := 24) hT rfl sm_97 rfl ha0) ?_
        refine xbd (fun q3 => ?_)
        rw [rv_97]
        change zB P 169 25 [(2, ((a0 : Nat) : Int)), (0, a1), (0, a2)] [(0, q3.1)] q3.2 = _
        refine Eq.trans (x16_0 (h := 25) hT rfl) ?_
        refine xit (fun _ => ?_) (fun _ => ?_)
        · refine Eq.trans (x4 (ls' := [(2, ((a0 : Nat) : Int)), (0, a1), (0, (a2 + 1))]) (h := 36) hT rfl rfl rfl) ?_
          refine Eq.trans (x18 (h := 37) hT rfl) ?_
          exact rfl
        · refine Eq.trans (x1 (h := 26) hT rfl rfl (by decide)) ?_
          refine Eq.trans (x21r (r := a0) (cl := 1) (o := 4) (h := 27) hT rfl ha0 (by decide) rfl) ?_
          refine Eq.trans (x1 (h := 28) hT rfl rfl (by decide)) ?_
          refine Eq.trans (x14 (h := 29) hT rfl (by decide)) ?_
          refine Eq.trans (x24 (r := (a0 + 4)) (n := 6) (h := 30) hT rfl (Or.inl (kd_1_3 ha0)) (ln_1_3 ha0)) ?_
          refine xig (fun hz4 => ?_)
          refine Eq.trans (x0 (h := 31) hT rfl) ?_
          refine Eq.trans (x1 (h := 32) hT rfl rfl (by decide)) ?_
          refine Eq.trans (x5n (h := 33) hT rfl) ?_
          refine Eq.trans (x5n (h := 34) hT rfl) ?_
          refine Eq.trans (x25a (r := (a0 + 4)) (n := 6) (h := 35) hT rfl (kd_1_3 ha0) (ln_1_3 ha0) (by decide) rfl) ?_
          refine xig (fun hz5 => ?_)
          refine Eq.trans (x4 (ls' := [(2, ((a0 : Nat) : Int)), (0, a1), (0, (a2 + 1))]) (h := 36) hT rfl rfl rfl) ?_
          refine Eq.trans (x18 (h := 37) hT rfl) ?_
          exact rfl
/-! WordLinks$Linker.growOnce()Z -/
set_option maxRecDepth 100000 in
theorem e_170 {P : zP} {d : zD P} {a0 : Nat} (ha0 : zkd a0 = 1) : MM P 170 [(2, ((a0 : Nat) : Int))] d = zB P 170 4 [(2, ((a0 : Nat) : Int)), (0, 0), (0, 0), (3, 0)] [] d := by
  have hT := cT_170
  refine Eq.trans (MM_def sm_170 (Nat.le_of_ble_eq_true rfl)) ?_
  change zB P 170 0 [(2, ((a0 : Nat) : Int)), (3, 0), (3, 0), (3, 0)] [] d = _
  refine Eq.trans (x0 (h := 0) hT rfl) ?_
  refine Eq.trans (x2 (ls' := [(2, ((a0 : Nat) : Int)), (0, 0), (3, 0), (3, 0)]) (h := 1) hT rfl (Nat.le_of_ble_eq_true rfl) rfl) ?_
  refine Eq.trans (x0 (h := 2) hT rfl) ?_
  refine Eq.trans (x2 (ls' := [(2, ((a0 : Nat) : Int)), (0, 0), (0, 0), (3, 0)]) (h := 3) hT rfl (Nat.le_of_ble_eq_true rfl) rfl) ?_
  exact rfl
set_option maxRecDepth 100000 in
theorem q_170_4 {P : zP} {d : zD P} {a0 : Nat} {a1 : Int} {a2 : Int} {g3 : zV} (ha0 : zkd a0 = 1) : zB P 170 4 [(2, ((a0 : Nat) : Int)), (0, a1), (0, a2), g3] [] d = (if wr ((d.m a0 4)) ≤ wr a2 then (if a1 = 0 ∨ a1 = 1 then some (a1, d) else none) else zB P 170 10 [(2, ((a0 : Nat) : Int)), (0, a1), (0, a2), (0, 0)] [] d) := by
  have hT := cT_170
  refine Eq.trans (x1 (h := 4) hT rfl rfl (by decide)) ?_
  refine Eq.trans (x1 (h := 5) hT rfl rfl (by decide)) ?_
  refine Eq.trans (x21 (r := a0) (cl := 1) (h := 6) hT rfl ha0) ?_
  refine Eq.trans (x17_3 (h := 7) hT rfl) ?_
  refine xit (fun _ => ?_) (fun _ => ?_)
  · refine Eq.trans (x1 (h := 49) hT rfl rfl (by decide)) ?_
    exact x203 (h := 50) hT rfl
  · refine Eq.trans (x0 (h := 8) hT rfl) ?_
    refine Eq.trans (x2 (ls' := [(2, ((a0 : Nat) : Int)), (0, a1), (0, a2), (0, 0)]) (h := 9) hT rfl (Nat.le_of_ble_eq_true rfl) rfl) ?_
    exact rfl
set_option maxRecDepth 100000 in
theorem q_170_10 {P : zP} {d : zD P} {a0 : Nat} {a1 : Int} {a2 : Int} {a3 : Int} (ha0 : zkd a0 = 1) : zB P 170 10 [(2, ((a0 : Nat) : Int)), (0, a1), (0, a2), (0, a3)] [] d = (if wr ((d.m a0 5)) ≤ wr a3 then zB P 170 4 [(2, ((a0 : Nat) : Int)), (0, a1), (0, (a2 + 1)), (0, a3)] [] d else ((MM P 9 [(2, ((a0 : Nat) : Int)), (0, a2), (0, a3)] d).bind fun q1 => (if wr q1.1 = 0 then zB P 170 10 [(2, ((a0 : Nat) : Int)), (0, a1), (0, a2), (0, (a3 + 1))] [] q1.2 else ((MM P 96 [(2, ((a0 : Nat) : Int)), (0, a2), (0, a3)] q1.2).bind fun q2 => (if wr q2.1 = 0 then zB P 170 10 [(2, ((a0 : Nat) : Int)), (0, a1), (0, a2), (0, (a3 + 1))] [] q2.2 else (if zin a2 6 then (if wr ((q2.2.m ((a0 + 4)) (zix a2))) = 0 then (if zin a2 6 then (if zin a2 6 then zB P 170 10 [(2, ((a0 : Nat) : Int)), (0, 1), (0, a2), (0, (a3 + 1))] [] ((q2.2.up ((a0 + 4)) (zix a2) ((zbin 4 ((q2.2.m ((a0 + 4)) (zix a2))) ((zbin 6 1 a3)))))) else none) else none) else ((MM P 97 [(2, ((a0 : Nat) : Int)), (0, a3)] q2.2).bind fun q6 => (if wr q6.1 = 0 then zB P 170 10 [(2, ((a0 : Nat) : Int)), (0, a1), (0, a2), (0, (a3 + 1))] [] q6.2 else (if zin a2 6 then (if zin a2 6 then zB P 170 10 [(2, ((a0 : Nat) : Int)), (0, 1), (0, a2), (0, (a3 + 1))] [] ((q6.2.up ((a0 + 4)) (zix a2) ((zbin 4 ((q6.2.m ((a0 + 4)) (zix a2))) ((zbin 6 1 a3)))))) else none) else none)))) else none)))))) := by
  have hT := cT_170
  refine Eq.trans (x1 (h := 10) hT rfl rfl (by decide)) ?_
  refine Eq.trans (x1 (h := 11) hT rfl rfl (by decide)) ?_
  refine Eq.trans (x21 (r := a0) (cl := 1) (h := 12) hT rfl ha0) ?_
  refine Eq.trans (x17_3 (h := 13) hT rfl) ?_
  refine xit (fun _ => ?_) (fun _ => ?_)
  · refine Eq.trans (x4 (ls' := [(2, ((a0 : Nat) : Int)), (0, a1), (0, (a2 + 1)), (0, a3)]) (h := 47) hT rfl rfl rfl) ?_
    refine Eq.trans (x18 (h := 48) hT rfl) ?_
    exact rfl
  · refine Eq.trans (x1 (h := 14) hT rfl rfl (by decide)) ?_
    refine Eq.trans (x1 (h := 15) hT rfl rfl (by decide)) ?_
    refine Eq.trans (x1 (h := 16) hT rfl rfl (by decide)) ?_
    refine Eq.trans (x31 (r := a0) (cl := 1) (as := [(0, a2), (0, a3)]) (st' := []) (h := 17) hT rfl sm_9 rfl ha0) ?_
    refine xbd (fun q1 => ?_)
    rw [rv_9]
    change zB P 170 18 [(2, ((a0 : Nat) : Int)), (0, a1), (0, a2), (0, a3)] [(0, q1.1)] q1.2 = _
    refine Eq.trans (x16_0 (h := 18) hT rfl) ?_
    refine xit (fun _ => ?_) (fun _ => ?_)
    · refine Eq.trans (x4 (ls' := [(2, ((a0 : Nat) : Int)), (0, a1), (0, a2), (0, (a3 + 1))]) (h := 45) hT rfl rfl rfl) ?_
      refine Eq.trans (x18 (h := 46) hT rfl) ?_
      exact rfl
    · refine Eq.trans (x1 (h := 19) hT rfl rfl (by decide)) ?_
      refine Eq.trans (x1 (h := 20) hT rfl rfl (by decide)) ?_
      refine Eq.trans (x1 (h := 21) hT rfl rfl (by decide)) ?_
      refine Eq.trans (x31 (r := a0) (cl := 1) (as := [(0, a2), (0, a3)]) (st' := []) (h := 22) hT rfl sm_96 rfl ha0) ?_
      refine xbd (fun q2 => ?_)
      rw [rv_96]
      change zB P 170 23 [(2, ((a0 : Nat) : Int)), (0, a1), (0, a2), (0, a3)] [(0, q2.1)] q2.2 = _
      refine Eq.trans (x16_0 (h := 23) hT rfl) ?_
      refine xit (fun _ => ?_) (fun _ => ?_)
      · refine Eq.trans (x4 (ls' := [(2, ((a0 : Nat) : Int)), (0, a1), (0, a2), (0, (a3 + 1))]) (h := 45) hT rfl rfl rfl) ?_
        refine Eq.trans (x18 (h := 46) hT rfl) ?_
        exact rfl
      · refine Eq.trans (x1 (h := 24) hT rfl rfl (by decide)) ?_
        refine Eq.trans (x21r (r := a0) (cl := 1) (o := 4) (h := 25) hT rfl ha0 (by decide) rfl) ?_
        refine Eq.trans (x1 (h := 26) hT rfl rfl (by decide)) ?_
        refine Eq.trans (x24 (r := (a0 + 4)) (n := 6) (h := 27) hT rfl (Or.inl (kd_1_3 ha0)) (ln_1_3 ha0)) ?_
        refine xig (fun hz3 => ?_)
        refine Eq.trans (x16_0 (h := 28) hT rfl) ?_
        refine xit (fun _ => ?_) (fun _ => ?_)
        · refine Eq.trans (x1 (h := 33) hT rfl rfl (by decide)) ?_
          refine Eq.trans (x21r (r := a0) (cl := 1) (o := 4) (h := 34) hT rfl ha0 (by decide) rfl) ?_
          refine Eq.trans (x1 (h := 35) hT rfl rfl (by decide)) ?_
          refine Eq.trans (x14 (h := 36) hT rfl (by decide)) ?_
          refine Eq.trans (x24 (r := (a0 + 4)) (n := 6) (h := 37) hT rfl (Or.inl (kd_1_3 ha0)) (ln_1_3 ha0)) ?_
          refine xig (fun hz4 => ?_)
          refine Eq.trans (x0 (h := 38) hT rfl) ?_
          refine Eq.trans (x1 (h := 39) hT rfl rfl (by decide)) ?_
          refine Eq.trans (x5n (h := 40) hT rfl) ?_
          refine Eq.trans (x5n (h := 41) hT rfl) ?_
          refine Eq.trans (x25a (r := (a0 + 4)) (n := 6) (h := 42) hT rfl (kd_1_3 ha0) (ln_1_3 ha0) (by decide) rfl) ?_
          refine xig (fun hz5 => ?_)
          refine Eq.trans (x0 (h := 43) hT rfl) ?_
          refine Eq.trans (x2 (ls' := [(2, ((a0 : Nat) : Int)), (0, 1), (0, a2), (0, a3)]) (h := 44) hT rfl (Nat.le_of_ble_eq_true rfl) rfl) ?_
          refine Eq.trans (x4 (ls' := [(2, ((a0 : Nat) : Int)), (0, 1), (0, a2), (0, (a3 + 1))]) (h := 45) hT rfl rfl rfl) ?_
          refine Eq.trans (x18 (h := 46) hT rfl) ?_
          exact rfl
        · refine Eq.trans (x1 (h := 29) hT rfl rfl (by decide)) ?_
          refine Eq.trans (x1 (h := 30) hT rfl rfl (by decide)) ?_
          refine Eq.trans (x31 (r := a0) (cl := 1) (as := [(0, a3)]) (st' := []) (h := 31) hT rfl sm_97 rfl ha0) ?_
          refine xbd (fun q6 => ?_)
          rw [rv_97]
          change zB P 170 32 [(2, ((a0 : Nat) : Int)), (0, a1), (0, a2), (0, a3)] [(0, q6.1)] q6.2 = _
          refine Eq.trans (x16_0 (h := 32) hT rfl) ?_
          refine xit (fun _ => ?_) (fun _ => ?_)
          · refine Eq.trans (x4 (ls' := [(2, ((a0 : Nat) : Int)), (0, a1), (0, a2), (0, (a3 + 1))]) (h := 45) hT rfl rfl rfl) ?_
            refine Eq.trans (x18 (h := 46) hT rfl) ?_
            exact rfl
          · refine Eq.trans (x1 (h := 33) hT rfl rfl (by decide)) ?_
            refine Eq.trans (x21r (r := a0) (cl := 1) (o := 4) (h := 34) hT rfl ha0 (by decide) rfl) ?_
            refine Eq.trans (x1 (h := 35) hT rfl rfl (by decide)) ?_
            refine Eq.trans (x14 (h := 36) hT rfl (by decide)) ?_
            refine Eq.trans (x24 (r := (a0 + 4)) (n := 6) (h := 37) hT rfl (Or.inl (kd_1_3 ha0)) (ln_1_3 ha0)) ?_
            refine xig (fun hz7 => ?_)
            refine Eq.trans (x0 (h := 38) hT rfl) ?_
            refine Eq.trans (x1 (h := 39) hT rfl rfl (by decide)) ?_
            refine Eq.trans (x5n (h := 40) hT rfl) ?_
            refine Eq.trans (x5n (h := 41) hT rfl) ?_
            refine Eq.trans (x25a (r := (a0 + 4)) (n := 6) (h := 42) hT rfl (kd_1_3 ha0) (ln_1_3 ha0) (by decide) rfl) ?_
            refine xig (fun hz8 => ?_)
            refine Eq.trans (x0 (h := 43) hT rfl) ?_
            refine Eq.trans (x2 (ls' := [(2, ((a0 : Nat) : Int)), (0, 1), (0, a2), (0, a3)]) (h := 44) hT rfl (Nat.le_of_ble_eq_true rfl) rfl) ?_
            refine Eq.trans (x4 (ls' := [(2, ((a0 : Nat) : Int)), (0, 1), (0, a2), (0, (a3 + 1))]) (h := 45) hT rfl rfl rfl) ?_
            refine Eq.trans (x18 (h := 46) hT rfl) ?_
            exact rfl
/-! WordLinks$Linker.isBox(II)Z -/
set_option maxRecDepth 100000 in
theorem e_171 {P : zP} {d : zD P} {a0 : Nat} {a1 : Int} {a2 : Int} (ha0 : zkd a0 = 1) : MM P 171 [(2, ((a0 : Nat) : Int)), (0, a1), (0, a2)] d = ((MM P 11 [(0, a1)] d).bind fun q1 => ((MM P 10 [(0, a1)] q1.2).bind fun q2 => ((MM P 11 [(0, a2)] q2.2).bind fun q3 => ((MM P 10 [(0, a2)] q3.2).bind fun q4 => (if wr ((q4.2.m a0 4)) < wr q2.1 then some (0, q4.2) else (if wr q4.1 ≤ wr ((q4.2.m a0 5)) then ((MM P 98 [(2, ((a0 : Nat) : Int)), (0, q1.1), (0, q2.1), (0, q3.1), (0, q4.1)] q4.2).bind fun q5 => (if wr q5.1 ≤ 0 then some (0, q5.2) else ((MM P 98 [(2, ((a0 : Nat) : Int)), (0, q1.1), (0, q2.1), (0, 0), (0, (q5.2.m a0 5))] q5.2).bind fun q6 => (if wr q5.1 ≠ wr q6.1 then some (0, q6.2) else ((MM P 98 [(2, ((a0 : Nat) : Int)), (0, 0), (0, (q6.2.m a0 4)), (0, q3.1), (0, q4.1)] q6.2).bind fun q7 => (if wr q5.1 ≠ wr q7.1 then some (0, q7.2) else some (1, q7.2))))))) else some (0, q4.2))))))) := by
  have hT := cT_171
  refine Eq.trans (MM_def sm_171 (Nat.le_of_ble_eq_true rfl)) ?_
  change zB P 171 0 [(2, ((a0 : Nat) : Int)), (0, a1), (0, a2), (3, 0), (3, 0), (3, 0), (3, 0), (3, 0)] [] d = _
  refine Eq.trans (x1 (h := 0) hT rfl rfl (by decide)) ?_
  refine Eq.trans (x34 (as := [(0, a1)]) (st' := []) (h := 1) hT rfl sm_11 rfl) ?_
  refine xbd (fun q1 => ?_)
  rw [rv_11]
  change zB P 171 2 [(2, ((a0 : Nat) : Int)), (0, a1), (0, a2), (3, 0), (3, 0), (3, 0), (3, 0), (3, 0)] [(0, q1.1)] q1.2 = _
  refine Eq.trans (x2 (ls' := [(2, ((a0 : Nat) : Int)), (0, a1), (0, a2), (0, q1.1), (3, 0), (3, 0), (3, 0), (3, 0)]) (h := 2) hT rfl (Nat.le_of_ble_eq_true rfl) rfl) ?_
  refine Eq.trans (x1 (h := 3) hT rfl rfl (by decide)) ?_
  refine Eq.trans (x34 (as := [(0, a1)]) (st' := []) (h := 4) hT rfl sm_10 rfl) ?_
  refine xbd (fun q2 => ?_)
  rw [rv_10]
  change zB P 171 5 [(2, ((a0 : Nat) : Int)), (0, a1), (0, a2), (0, q1.1), (3, 0), (3, 0), (3, 0), (3, 0)] [(0, q2.1)] q2.2 = _
  refine Eq.trans (x2 (ls' := [(2, ((a0 : Nat) : Int)), (0, a1), (0, a2), (0, q1.1), (0, q2.1), (3, 0), (3, 0), (3, 0)]) (h := 5) hT rfl (Nat.le_of_ble_eq_true rfl) rfl) ?_
  refine Eq.trans (x1 (h := 6) hT rfl rfl (by decide)) ?_
  refine Eq.trans (x34 (as := [(0, a2)]) (st' := []) (h := 7) hT rfl sm_11 rfl) ?_
  refine xbd (fun q3 => ?_)
  rw [rv_11]
  change zB P 171 8 [(2, ((a0 : Nat) : Int)), (0, a1), (0, a2), (0, q1.1), (0, q2.1), (3, 0), (3, 0), (3, 0)] [(0, q3.1)] q3.2 = _
  refine Eq.trans (x2 (ls' := [(2, ((a0 : Nat) : Int)), (0, a1), (0, a2), (0, q1.1), (0, q2.1), (0, q3.1), (3, 0), (3, 0)]) (h := 8) hT rfl (Nat.le_of_ble_eq_true rfl) rfl) ?_
  refine Eq.trans (x1 (h := 9) hT rfl rfl (by decide)) ?_
  refine Eq.trans (x34 (as := [(0, a2)]) (st' := []) (h := 10) hT rfl sm_10 rfl) ?_
  refine xbd (fun q4 => ?_)
  rw [rv_10]
  change zB P 171 11 [(2, ((a0 : Nat) : Int)), (0, a1), (0, a2), (0, q1.1), (0, q2.1), (0, q3.1), (3, 0), (3, 0)] [(0, q4.1)] q4.2 = _
  refine Eq.trans (x2 (ls' := [(2, ((a0 : Nat) : Int)), (0, a1), (0, a2), (0, q1.1), (0, q2.1), (0, q3.1), (0, q4.1), (3, 0)]) (h := 11) hT rfl (Nat.le_of_ble_eq_true rfl) rfl) ?_
  refine Eq.trans (x1 (h := 12) hT rfl rfl (by decide)) ?_
  refine Eq.trans (x1 (h := 13) hT rfl rfl (by decide)) ?_
  refine Eq.trans (x21 (r := a0) (cl := 1) (h := 14) hT rfl ha0) ?_
  refine Eq.trans (x17_4 (h := 15) hT rfl) ?_
  refine xit (fun _ => ?_) (fun _ => ?_)
  · refine Eq.trans (x0 (h := 20) hT rfl) ?_
    exact x203c (h := 21) hT rfl (by decide)
  · refine Eq.trans (x1 (h := 16) hT rfl rfl (by decide)) ?_
    refine Eq.trans (x1 (h := 17) hT rfl rfl (by decide)) ?_
    refine Eq.trans (x21 (r := a0) (cl := 1) (h := 18) hT rfl ha0) ?_
    refine Eq.trans (x17_5 (h := 19) hT rfl) ?_
    refine xit (fun _ => ?_) (fun _ => ?_)
    · refine Eq.trans (x1 (h := 22) hT rfl rfl (by decide)) ?_
      refine Eq.trans (x1 (h := 23) hT rfl rfl (by decide)) ?_
      refine Eq.trans (x1 (h := 24) hT rfl rfl (by decide)) ?_
      refine Eq.trans (x1 (h := 25) hT rfl rfl (by decide)) ?_
      refine Eq.trans (x1 (h := 26) hT rfl rfl (by decide)) ?_
      refine Eq.trans (x31 (r := a0) (cl := 1) (as := [(0, q1.1), (0, q2.1), (0, q3.1), (0, q4.1)]) (st' := []) (h := 27) hT rfl sm_98 rfl ha0) ?_
      refine xbd (fun q5 => ?_)
      rw [rv_98]
      change zB P 171 28 [(2, ((a0 : Nat) : Int)), (0, a1), (0, a2), (0, q1.1), (0, q2.1), (0, q3.1), (0, q4.1), (3, 0)] [(0, q5.1)] q5.2 = _
      refine Eq.trans (x2 (ls' := [(2, ((a0 : Nat) : Int)), (0, a1), (0, a2), (0, q1.1), (0, q2.1), (0, q3.1), (0, q4.1), (0, q5.1)]) (h := 28) hT rfl (Nat.le_of_ble_eq_true rfl) rfl) ?_
      refine Eq.trans (x1 (h := 29) hT rfl rfl (by decide)) ?_
      refine Eq.trans (x16_5 (h := 30) hT rfl) ?_
      refine xit (fun _ => ?_) (fun _ => ?_)
      · refine Eq.trans (x0 (h := 51) hT rfl) ?_
        exact x203c (h := 52) hT rfl (by decide)
      · refine Eq.trans (x1 (h := 31) hT rfl rfl (by decide)) ?_
        refine Eq.trans (x1 (h := 32) hT rfl rfl (by decide)) ?_
        refine Eq.trans (x1 (h := 33) hT rfl rfl (by decide)) ?_
        refine Eq.trans (x1 (h := 34) hT rfl rfl (by decide)) ?_
        refine Eq.trans (x0 (h := 35) hT rfl) ?_
        refine Eq.trans (x1 (h := 36) hT rfl rfl (by decide)) ?_
        refine Eq.trans (x21 (r := a0) (cl := 1) (h := 37) hT rfl ha0) ?_
        refine Eq.trans (x31 (r := a0) (cl := 1) (as := [(0, q1.1), (0, q2.1), (0, 0), (0, (q5.2.m a0 5))]) (st' := [(0, q5.1)]) (h := 38) hT rfl sm_98 rfl ha0) ?_
        refine xbd (fun q6 => ?_)
        rw [rv_98]
        change zB P 171 39 [(2, ((a0 : Nat) : Int)), (0, a1), (0, a2), (0, q1.1), (0, q2.1), (0, q3.1), (0, q4.1), (0, q5.1)] [(0, q6.1), (0, q5.1)] q6.2 = _
        refine Eq.trans (x17_1 (h := 39) hT rfl) ?_
        refine xit (fun _ => ?_) (fun _ => ?_)
        · refine Eq.trans (x0 (h := 51) hT rfl) ?_
          exact x203c (h := 52) hT rfl (by decide)
        · refine Eq.trans (x1 (h := 40) hT rfl rfl (by decide)) ?_
          refine Eq.trans (x1 (h := 41) hT rfl rfl (by decide)) ?_
          refine Eq.trans (x0 (h := 42) hT rfl) ?_
          refine Eq.trans (x1 (h := 43) hT rfl rfl (by decide)) ?_
          refine Eq.trans (x21 (r := a0) (cl := 1) (h := 44) hT rfl ha0) ?_
          refine Eq.trans (x1 (h := 45) hT rfl rfl (by decide)) ?_
          refine Eq.trans (x1 (h := 46) hT rfl rfl (by decide)) ?_
          refine Eq.trans (x31 (r := a0) (cl := 1) (as := [(0, 0), (0, (q6.2.m a0 4)), (0, q3.1), (0, q4.1)]) (st' := [(0, q5.1)]) (h := 47) hT rfl sm_98 rfl ha0) ?_
          refine xbd (fun q7 => ?_)
          rw [rv_98]
          change zB P 171 48 [(2, ((a0 : Nat) : Int)), (0, a1), (0, a2), (0, q1.1), (0, q2.1), (0, q3.1), (0, q4.1), (0, q5.1)] [(0, q7.1), (0, q5.1)] q7.2 = _
          refine Eq.trans (x17_1 (h := 48) hT rfl) ?_
          refine xit (fun _ => ?_) (fun _ => ?_)
          · refine Eq.trans (x0 (h := 51) hT rfl) ?_
            exact x203c (h := 52) hT rfl (by decide)
          · refine Eq.trans (x0 (h := 49) hT rfl) ?_
            refine Eq.trans (x18 (h := 50) hT rfl) ?_
            exact x203c (h := 52) hT rfl (by decide)
    · refine Eq.trans (x0 (h := 20) hT rfl) ?_
      exact x203c (h := 21) hT rfl (by decide)
/-! WordLinks$Linker.size()I -/
set_option maxRecDepth 100000 in
theorem e_172 {P : zP} {d : zD P} {a0 : Nat} (ha0 : zkd a0 = 1) : MM P 172 [(2, ((a0 : Nat) : Int))] d = ((MM P 98 [(2, ((a0 : Nat) : Int)), (0, 0), (0, (d.m a0 4)), (0, 0), (0, (d.m a0 5))] d).bind fun q1 => some (q1.1, q1.2)) := by
  have hT := cT_172
  refine Eq.trans (MM_def sm_172 (Nat.le_of_ble_eq_true rfl)) ?_
  change zB P 172 0 [(2, ((a0 : Nat) : Int))] [] d = _
  refine Eq.trans (x1 (h := 0) hT rfl rfl (by decide)) ?_
  refine Eq.trans (x0 (h := 1) hT rfl) ?_
  refine Eq.trans (x1 (h := 2) hT rfl rfl (by decide)) ?_
  refine Eq.trans (x21 (r := a0) (cl := 1) (h := 3) hT rfl ha0) ?_
  refine Eq.trans (x0 (h := 4) hT rfl) ?_
  refine Eq.trans (x1 (h := 5) hT rfl rfl (by decide)) ?_
  refine Eq.trans (x21 (r := a0) (cl := 1) (h := 6) hT rfl ha0) ?_
  refine Eq.trans (x31 (r := a0) (cl := 1) (as := [(0, 0), (0, (d.m a0 4)), (0, 0), (0, (d.m a0 5))]) (st' := []) (h := 7) hT rfl sm_98 rfl ha0) ?_
  refine xbd (fun q1 => ?_)
  rw [rv_98]
  change zB P 172 8 [(2, ((a0 : Nat) : Int))] [(0, q1.1)] q1.2 = _
  exact x201 (h := 8) hT rfl
/-! WordLinks$Matcher.cheapestKind(II)I -/
set_option maxRecDepth 100000 in
theorem e_173 {P : zP} {d : zD P} {a0 : Nat} {a1 : Int} {a2 : Int} (ha0 : zkd a0 = 2) : MM P 173 [(2, ((a0 : Nat) : Int)), (0, a1), (0, a2)] d = zB P 173 6 [(2, ((a0 : Nat) : Int)), (0, a1), (0, a2), (0, (-1)), (0, 0), (0, 0), (3, 0)] [] d := by
  have hT := cT_173
  refine Eq.trans (MM_def sm_173 (Nat.le_of_ble_eq_true rfl)) ?_
  change zB P 173 0 [(2, ((a0 : Nat) : Int)), (0, a1), (0, a2), (3, 0), (3, 0), (3, 0), (3, 0)] [] d = _
  refine Eq.trans (x0 (h := 0) hT rfl) ?_
  refine Eq.trans (x2 (ls' := [(2, ((a0 : Nat) : Int)), (0, a1), (0, a2), (0, (-1)), (3, 0), (3, 0), (3, 0)]) (h := 1) hT rfl (Nat.le_of_ble_eq_true rfl) rfl) ?_
  refine Eq.trans (x0 (h := 2) hT rfl) ?_
  refine Eq.trans (x2 (ls' := [(2, ((a0 : Nat) : Int)), (0, a1), (0, a2), (0, (-1)), (0, 0), (3, 0), (3, 0)]) (h := 3) hT rfl (Nat.le_of_ble_eq_true rfl) rfl) ?_
  refine Eq.trans (x0 (h := 4) hT rfl) ?_
  refine Eq.trans (x2 (ls' := [(2, ((a0 : Nat) : Int)), (0, a1), (0, a2), (0, (-1)), (0, 0), (0, 0), (3, 0)]) (h := 5) hT rfl (Nat.le_of_ble_eq_true rfl) rfl) ?_
  exact rfl
set_option maxRecDepth 100000 in
theorem q_173_6 {P : zP} {d : zD P} {a0 : Nat} {a1 : Int} {a2 : Int} {a3 : Int} {a4 : Int} {a5 : Int} {g6 : zV} (ha0 : zkd a0 = 2) : zB P 173 6 [(2, ((a0 : Nat) : Int)), (0, a1), (0, a2), (0, a3), (0, a4), (0, a5), g6] [] d = (if wr 5 ≤ wr a5 then some (a3, d) else (if zin a5 5 then (if wr ((d.m a0 4)) < wr ((a1 + (d.m 1 (zix a5)))) then zB P 173 6 [(2, ((a0 : Nat) : Int)), (0, a1), (0, a2), (0, a3), (0, a4), (0, (a5 + 1)), g6] [] d else (if zin a5 5 then (if wr ((d.m a0 5)) < wr ((a2 + (d.m 2 (zix a5)))) then zB P 173 6 [(2, ((a0 : Nat) : Int)), (0, a1), (0, a2), (0, a3), (0, a4), (0, (a5 + 1)), g6] [] d else ((MM P 101 [(2, ((a0 : Nat) : Int)), (0, a5), (0, a1), (0, a2)] d).bind fun q3 => (if wr a3 = wr ((-1)) then zB P 173 6 [(2, ((a0 : Nat) : Int)), (0, a1), (0, a2), (0, a5), (0, q3.1), (0, (a5 + 1)), (0, q3.1)] [] q3.2 else (if wr a4 ≤ wr q3.1 then zB P 173 6 [(2, ((a0 : Nat) : Int)), (0, a1), (0, a2), (0, a3), (0, a4), (0, (a5 + 1)), (0, q3.1)] [] q3.2 else zB P 173 6 [(2, ((a0 : Nat) : Int)), (0, a1), (0, a2), (0, a5), (0, q3.1), (0, (a5 + 1)), (0, q3.1)] [] q3.2)))) else none)) else none)) := by
  have hT := cT_173
  refine Eq.trans (x1 (h := 6) hT rfl rfl (by decide)) ?_
  refine Eq.trans (x23 (h := 7) hT rfl) ?_
  refine Eq.trans (x26 (r := 3) (n := 5) (h := 8) hT rfl (by rw [(kd_s (by decide))]; decide) (ln_s (by decide))) ?_
  refine Eq.trans (x17_3 (h := 9) hT rfl) ?_
  refine xit (fun _ => ?_) (fun _ => ?_)
  · refine Eq.trans (x1 (h := 44) hT rfl rfl (by decide)) ?_
    exact x201 (h := 45) hT rfl
  · refine Eq.trans (x1 (h := 10) hT rfl rfl (by decide)) ?_
    refine Eq.trans (x23 (h := 11) hT rfl) ?_
    refine Eq.trans (x1 (h := 12) hT rfl rfl (by decide)) ?_
    refine Eq.trans (x24 (r := 1) (n := 5) (h := 13) hT rfl (Or.inr ⟨(kd_s (by decide)), rfl⟩) (ln_s (by decide))) ?_
    refine xig (fun hz1 => ?_)
    refine Eq.trans (x5_0 (h := 14) hT rfl) ?_
    refine Eq.trans (x1 (h := 15) hT rfl rfl (by decide)) ?_
    refine Eq.trans (x21 (r := a0) (cl := 2) (h := 16) hT rfl ha0) ?_
    refine Eq.trans (x17_4 (h := 17) hT rfl) ?_
    refine xit (fun _ => ?_) (fun _ => ?_)
    · refine Eq.trans (x4 (ls' := [(2, ((a0 : Nat) : Int)), (0, a1), (0, a2), (0, a3), (0, a4), (0, (a5 + 1)), g6]) (h := 42) hT rfl rfl rfl) ?_
      refine Eq.trans (x18 (h := 43) hT rfl) ?_
      exact rfl
    · refine Eq.trans (x1 (h := 18) hT rfl rfl (by decide)) ?_
      refine Eq.trans (x23 (h := 19) hT rfl) ?_
      refine Eq.trans (x1 (h := 20) hT rfl rfl (by decide)) ?_
      refine Eq.trans (x24 (r := 2) (n := 5) (h := 21) hT rfl (Or.inr ⟨(kd_s (by decide)), rfl⟩) (ln_s (by decide))) ?_
      refine xig (fun hz2 => ?_)
      refine Eq.trans (x5_0 (h := 22) hT rfl) ?_
      refine Eq.trans (x1 (h := 23) hT rfl rfl (by decide)) ?_
      refine Eq.trans (x21 (r := a0) (cl := 2) (h := 24) hT rfl ha0) ?_
      refine Eq.trans (x17_4 (h := 25) hT rfl) ?_
      refine xit (fun _ => ?_) (fun _ => ?_)
      · refine Eq.trans (x4 (ls' := [(2, ((a0 : Nat) : Int)), (0, a1), (0, a2), (0, a3), (0, a4), (0, (a5 + 1)), g6]) (h := 42) hT rfl rfl rfl) ?_
        refine Eq.trans (x18 (h := 43) hT rfl) ?_
        exact rfl
      · refine Eq.trans (x1 (h := 26) hT rfl rfl (by decide)) ?_
        refine Eq.trans (x1 (h := 27) hT rfl rfl (by decide)) ?_
        refine Eq.trans (x1 (h := 28) hT rfl rfl (by decide)) ?_
        refine Eq.trans (x1 (h := 29) hT rfl rfl (by decide)) ?_
        refine Eq.trans (x31 (r := a0) (cl := 2) (as := [(0, a5), (0, a1), (0, a2)]) (st' := []) (h := 30) hT rfl sm_101 rfl ha0) ?_
        refine xbd (fun q3 => ?_)
        rw [rv_101]
        change zB P 173 31 [(2, ((a0 : Nat) : Int)), (0, a1), (0, a2), (0, a3), (0, a4), (0, a5), g6] [(0, q3.1)] q3.2 = _
        refine Eq.trans (x2 (ls' := [(2, ((a0 : Nat) : Int)), (0, a1), (0, a2), (0, a3), (0, a4), (0, a5), (0, q3.1)]) (h := 31) hT rfl (Nat.le_of_ble_eq_true rfl) rfl) ?_
        refine Eq.trans (x1 (h := 32) hT rfl rfl (by decide)) ?_
        refine Eq.trans (x0 (h := 33) hT rfl) ?_
        refine Eq.trans (x17_0 (h := 34) hT rfl) ?_
        refine xit (fun _ => ?_) (fun _ => ?_)
        · refine Eq.trans (x1 (h := 38) hT rfl rfl (by decide)) ?_
          refine Eq.trans (x2 (ls' := [(2, ((a0 : Nat) : Int)), (0, a1), (0, a2), (0, a5), (0, a4), (0, a5), (0, q3.1)]) (h := 39) hT rfl (Nat.le_of_ble_eq_true rfl) rfl) ?_
          refine Eq.trans (x1 (h := 40) hT rfl rfl (by decide)) ?_
          refine Eq.trans (x2 (ls' := [(2, ((a0 : Nat) : Int)), (0, a1), (0, a2), (0, a5), (0, q3.1), (0, a5), (0, q3.1)]) (h := 41) hT rfl (Nat.le_of_ble_eq_true rfl) rfl) ?_
          refine Eq.trans (x4 (ls' := [(2, ((a0 : Nat) : Int)), (0, a1), (0, a2), (0, a5), (0, q3.1), (0, (a5 + 1)), (0, q3.1)]) (h := 42) hT rfl rfl rfl) ?_
          refine Eq.trans (x18 (h := 43) hT rfl) ?_
          exact rfl
        · refine Eq.trans (x1 (h := 35) hT rfl rfl (by decide)) ?_
          refine Eq.trans (x1 (h := 36) hT rfl rfl (by decide)) ?_
          refine Eq.trans (x17_3 (h := 37) hT rfl) ?_
          refine xit (fun _ => ?_) (fun _ => ?_)
          · refine Eq.trans (x4 (ls' := [(2, ((a0 : Nat) : Int)), (0, a1), (0, a2), (0, a3), (0, a4), (0, (a5 + 1)), (0, q3.1)]) (h := 42) hT rfl rfl rfl) ?_
            refine Eq.trans (x18 (h := 43) hT rfl) ?_
            exact rfl
          · refine Eq.trans (x1 (h := 38) hT rfl rfl (by decide)) ?_
            refine Eq.trans (x2 (ls' := [(2, ((a0 : Nat) : Int)), (0, a1), (0, a2), (0, a5), (0, a4), (0, a5), (0, q3.1)]) (h := 39) hT rfl (Nat.le_of_ble_eq_true rfl) rfl) ?_
            refine Eq.trans (x1 (h := 40) hT rfl rfl (by decide)) ?_
            refine Eq.trans (x2 (ls' := [(2, ((a0 : Nat) : Int)), (0, a1), (0, a2), (0, a5), (0, q3.1), (0, a5), (0, q3.1)]) (h := 41) hT rfl (Nat.le_of_ble_eq_true rfl) rfl) ?_
            refine Eq.trans (x4 (ls' := [(2, ((a0 : Nat) : Int)), (0, a1), (0, a2), (0, a5), (0, q3.1), (0, (a5 + 1)), (0, q3.1)]) (h := 42) hT rfl rfl rfl) ?_
            refine Eq.trans (x18 (h := 43) hT rfl) ?_
            exact rfl
/-! WordLinks$Matcher.putTogether(LWordLinks$Rows;IILWordLinks$Rows;)Z -/
set_option maxRecDepth 100000 in
theorem e_174 {P : zP} {d : zD P} {a0 : Nat} {a1 : Nat} {a2 : Int} {a3 : Int} {a4 : Nat} (ha0 : zkd a0 = 2) (ha1 : zkd a1 = 7) (ha4 : zkd a4 = 7) : MM P 174 [(2, ((a0 : Nat) : Int)), (2, ((a1 : Nat) : Int)), (0, a2), (0, a3), (2, ((a4 : Nat) : Int))] d = ((MM P 26 [(2, ((a4 : Nat) : Int))] d).bind fun q1 => zB P 174 6 [(2, ((a0 : Nat) : Int)), (2, ((a1 : Nat) : Int)), (0, a2), (0, a3), (2, ((a4 : Nat) : Int)), (0, 0), (0, a2), (3, 0)] [] q1.2) := by
  have hT := cT_174
  refine Eq.trans (MM_def sm_174 (Nat.le_of_ble_eq_true rfl)) ?_
  change zB P 174 0 [(2, ((a0 : Nat) : Int)), (2, ((a1 : Nat) : Int)), (0, a2), (0, a3), (2, ((a4 : Nat) : Int)), (3, 0), (3, 0), (3, 0)] [] d = _
  refine Eq.trans (x1 (h := 0) hT rfl rfl (by decide)) ?_
  refine Eq.trans (x31 (r := a4) (cl := 7) (as := []) (st' := []) (h := 1) hT rfl sm_26 rfl ha4) ?_
  refine xbd (fun q1 => ?_)
  rw [rv_26]
  change zB P 174 2 [(2, ((a0 : Nat) : Int)), (2, ((a1 : Nat) : Int)), (0, a2), (0, a3), (2, ((a4 : Nat) : Int)), (3, 0), (3, 0), (3, 0)] [] q1.2 = _
  refine Eq.trans (x0 (h := 2) hT rfl) ?_
  refine Eq.trans (x2 (ls' := [(2, ((a0 : Nat) : Int)), (2, ((a1 : Nat) : Int)), (0, a2), (0, a3), (2, ((a4 : Nat) : Int)), (0, 0), (3, 0), (3, 0)]) (h := 3) hT rfl (Nat.le_of_ble_eq_true rfl) rfl) ?_
  refine Eq.trans (x1 (h := 4) hT rfl rfl (by decide)) ?_
  refine Eq.trans (x2 (ls' := [(2, ((a0 : Nat) : Int)), (2, ((a1 : Nat) : Int)), (0, a2), (0, a3), (2, ((a4 : Nat) : Int)), (0, 0), (0, a2), (3, 0)]) (h := 5) hT rfl (Nat.le_of_ble_eq_true rfl) rfl) ?_
  exact rfl
set_option maxRecDepth 100000 in
theorem q_174_6 {P : zP} {d : zD P} {g0 : zV} {a1 : Nat} {a2 : Int} {a3 : Int} {a4 : Nat} {a5 : Int} {a6 : Int} {g7 : zV} (ha1 : zkd a1 = 7) (ha4 : zkd a4 = 7) : zB P 174 6 [g0, (2, ((a1 : Nat) : Int)), (0, a2), (0, a3), (2, ((a4 : Nat) : Int)), (0, a5), (0, a6), g7] [] d = (if wr ((a2 + a3)) ≤ wr a6 then (if wr 6 < wr a5 then some (0, d) else some (1, d)) else ((MM P 25 [(2, ((a1 : Nat) : Int)), (0, a6)] d).bind fun q2 => zB P 174 19 [g0, (2, ((a1 : Nat) : Int)), (0, a2), (0, a3), (2, ((a4 : Nat) : Int)), (0, (a5 + q2.1)), (0, a6), (0, 0)] [] q2.2)) := by
  have hT := cT_174
  refine Eq.trans (x1 (h := 6) hT rfl rfl (by decide)) ?_
  refine Eq.trans (x1 (h := 7) hT rfl rfl (by decide)) ?_
  refine Eq.trans (x1 (h := 8) hT rfl rfl (by decide)) ?_
  refine Eq.trans (x5_0 (h := 9) hT rfl) ?_
  refine Eq.trans (x17_3 (h := 10) hT rfl) ?_
  refine xit (fun _ => ?_) (fun _ => ?_)
  · refine Eq.trans (x1 (h := 34) hT rfl rfl (by decide)) ?_
    refine Eq.trans (x0 (h := 35) hT rfl) ?_
    refine Eq.trans (x17_4 (h := 36) hT rfl) ?_
    refine xit (fun _ => ?_) (fun _ => ?_)
    · refine Eq.trans (x0 (h := 39) hT rfl) ?_
      exact x203c (h := 40) hT rfl (by decide)
    · refine Eq.trans (x0 (h := 37) hT rfl) ?_
      refine Eq.trans (x18 (h := 38) hT rfl) ?_
      exact x203c (h := 40) hT rfl (by decide)
  · refine Eq.trans (x1 (h := 11) hT rfl rfl (by decide)) ?_
    refine Eq.trans (x1 (h := 12) hT rfl rfl (by decide)) ?_
    refine Eq.trans (x1 (h := 13) hT rfl rfl (by decide)) ?_
    refine Eq.trans (x31 (r := a1) (cl := 7) (as := [(0, a6)]) (st' := [(0, a5)]) (h := 14) hT rfl sm_25 rfl ha1) ?_
    refine xbd (fun q2 => ?_)
    rw [rv_25]
    change zB P 174 15 [g0, (2, ((a1 : Nat) : Int)), (0, a2), (0, a3), (2, ((a4 : Nat) : Int)), (0, a5), (0, a6), g7] [(0, q2.1), (0, a5)] q2.2 = _
    refine Eq.trans (x5_0 (h := 15) hT rfl) ?_
    refine Eq.trans (x2 (ls' := [g0, (2, ((a1 : Nat) : Int)), (0, a2), (0, a3), (2, ((a4 : Nat) : Int)), (0, (a5 + q2.1)), (0, a6), g7]) (h := 16) hT rfl (Nat.le_of_ble_eq_true rfl) rfl) ?_
    refine Eq.trans (x0 (h := 17) hT rfl) ?_
    refine Eq.trans (x2 (ls' := [g0, (2, ((a1 : Nat) : Int)), (0, a2), (0, a3), (2, ((a4 : Nat) : Int)), (0, (a5 + q2.1)), (0, a6), (0, 0)]) (h := 18) hT rfl (Nat.le_of_ble_eq_true rfl) rfl) ?_
    exact rfl
set_option maxRecDepth 100000 in
theorem q_174_19 {P : zP} {d : zD P} {g0 : zV} {a1 : Nat} {a2 : Int} {a3 : Int} {a4 : Nat} {a5 : Int} {a6 : Int} {a7 : Int} (ha1 : zkd a1 = 7) (ha4 : zkd a4 = 7) : zB P 174 19 [g0, (2, ((a1 : Nat) : Int)), (0, a2), (0, a3), (2, ((a4 : Nat) : Int)), (0, a5), (0, a6), (0, a7)] [] d = ((MM P 25 [(2, ((a1 : Nat) : Int)), (0, a6)] d).bind fun q3 => (if wr q3.1 ≤ wr a7 then zB P 174 6 [g0, (2, ((a1 : Nat) : Int)), (0, a2), (0, a3), (2, ((a4 : Nat) : Int)), (0, a5), (0, (a6 + 1)), (0, a7)] [] q3.2 else ((MM P 112 [(2, ((a1 : Nat) : Int)), (0, a6), (0, a7)] q3.2).bind fun q4 => ((MM P 27 [(2, ((a4 : Nat) : Int)), (1, q4.1)] q4.2).bind fun q5 => zB P 174 19 [g0, (2, ((a1 : Nat) : Int)), (0, a2), (0, a3), (2, ((a4 : Nat) : Int)), (0, a5), (0, a6), (0, (a7 + 1))] [] q5.2)))) := by
  have hT := cT_174
  refine Eq.trans (x1 (h := 19) hT rfl rfl (by decide)) ?_
  refine Eq.trans (x1 (h := 20) hT rfl rfl (by decide)) ?_
  refine Eq.trans (x1 (h := 21) hT rfl rfl (by decide)) ?_
  refine Eq.trans (x31 (r := a1) (cl := 7) (as := [(0, a6)]) (st' := [(0, a7)]) (h := 22) hT rfl sm_25 rfl ha1) ?_
  refine xbd (fun q3 => ?_)
  rw [rv_25]
  change zB P 174 23 [g0, (2, ((a1 : Nat) : Int)), (0, a2), (0, a3), (2, ((a4 : Nat) : Int)), (0, a5), (0, a6), (0, a7)] [(0, q3.1), (0, a7)] q3.2 = _
  refine Eq.trans (x17_3 (h := 23) hT rfl) ?_
  refine xit (fun _ => ?_) (fun _ => ?_)
  · refine Eq.trans (x4 (ls' := [g0, (2, ((a1 : Nat) : Int)), (0, a2), (0, a3), (2, ((a4 : Nat) : Int)), (0, a5), (0, (a6 + 1)), (0, a7)]) (h := 32) hT rfl rfl rfl) ?_
    refine Eq.trans (x18 (h := 33) hT rfl) ?_
    exact rfl
  · refine Eq.trans (x1 (h := 24) hT rfl rfl (by decide)) ?_
    refine Eq.trans (x1 (h := 25) hT rfl rfl (by decide)) ?_
    refine Eq.trans (x1 (h := 26) hT rfl rfl (by decide)) ?_
    refine Eq.trans (x1 (h := 27) hT rfl rfl (by decide)) ?_
    refine Eq.trans (x31 (r := a1) (cl := 7) (as := [(0, a6), (0, a7)]) (st' := [(2, ((a4 : Nat) : Int))]) (h := 28) hT rfl sm_112 rfl ha1) ?_
    refine xbd (fun q4 => ?_)
    rw [rv_112]
    change zB P 174 29 [g0, (2, ((a1 : Nat) : Int)), (0, a2), (0, a3), (2, ((a4 : Nat) : Int)), (0, a5), (0, a6), (0, a7)] [(1, q4.1), (2, ((a4 : Nat) : Int))] q4.2 = _
    refine Eq.trans (x31 (r := a4) (cl := 7) (as := [(1, q4.1)]) (st' := []) (h := 29) hT rfl sm_27 rfl ha4) ?_
    refine xbd (fun q5 => ?_)
    rw [rv_27]
    change zB P 174 30 [g0, (2, ((a1 : Nat) : Int)), (0, a2), (0, a3), (2, ((a4 : Nat) : Int)), (0, a5), (0, a6), (0, a7)] [] q5.2 = _
    refine Eq.trans (x4 (ls' := [g0, (2, ((a1 : Nat) : Int)), (0, a2), (0, a3), (2, ((a4 : Nat) : Int)), (0, a5), (0, a6), (0, (a7 + 1))]) (h := 30) hT rfl rfl rfl) ?_
    refine Eq.trans (x18 (h := 31) hT rfl) ?_
    exact rfl
/-! WordLinks$Putter.fits(LWordLinks$Phrases;II)Z -/
set_option maxRecDepth 100000 in
theorem e_175 {P : zP} {d : zD P} {a0 : Nat} {a1 : Nat} {a2 : Int} {a3 : Int} (ha0 : zkd a0 = 5) (ha1 : zkd a1 = 4) : MM P 175 [(2, ((a0 : Nat) : Int)), (2, ((a1 : Nat) : Int)), (0, a2), (0, a3)] d = ((MM P 108 [(2, ((a1 : Nat) : Int)), (0, a2), (0, 0)] d).bind fun q1 => (if wr ((a3 + q1.1)) ≤ wr ((q1.2.m a0 6)) then zB P 175 15 [(2, ((a0 : Nat) : Int)), (2, ((a1 : Nat) : Int)), (0, a2), (0, a3), (0, q1.1), (0, 0)] [] q1.2 else some (0, q1.2))) := by
  have hT := cT_175
  refine Eq.trans (MM_def sm_175 (Nat.le_of_ble_eq_true rfl)) ?_
  change zB P 175 0 [(2, ((a0 : Nat) : Int)), (2, ((a1 : Nat) : Int)), (0, a2), (0, a3), (3, 0), (3, 0)] [] d = _
  refine Eq.trans (x1 (h := 0) hT rfl rfl (by decide)) ?_
  refine Eq.trans (x1 (h := 1) hT rfl rfl (by decide)) ?_
  refine Eq.trans (x0 (h := 2) hT rfl) ?_
  refine Eq.trans (x31 (r := a1) (cl := 4) (as := [(0, a2), (0, 0)]) (st' := []) (h := 3) hT rfl sm_108 rfl ha1) ?_
  refine xbd (fun q1 => ?_)
  rw [rv_108]
  change zB P 175 4 [(2, ((a0 : Nat) : Int)), (2, ((a1 : Nat) : Int)), (0, a2), (0, a3), (3, 0), (3, 0)] [(0, q1.1)] q1.2 = _
  refine Eq.trans (x2 (ls' := [(2, ((a0 : Nat) : Int)), (2, ((a1 : Nat) : Int)), (0, a2), (0, a3), (0, q1.1), (3, 0)]) (h := 4) hT rfl (Nat.le_of_ble_eq_true rfl) rfl) ?_
  refine Eq.trans (x1 (h := 5) hT rfl rfl (by decide)) ?_
  refine Eq.trans (x1 (h := 6) hT rfl rfl (by decide)) ?_
  refine Eq.trans (x5_0 (h := 7) hT rfl) ?_
  refine Eq.trans (x1 (h := 8) hT rfl rfl (by decide)) ?_
  refine Eq.trans (x21 (r := a0) (cl := 5) (h := 9) hT rfl ha0) ?_
  refine Eq.trans (x17_5 (h := 10) hT rfl) ?_
  refine xit (fun _ => ?_) (fun _ => ?_)
  · refine Eq.trans (x0 (h := 13) hT rfl) ?_
    refine Eq.trans (x2 (ls' := [(2, ((a0 : Nat) : Int)), (2, ((a1 : Nat) : Int)), (0, a2), (0, a3), (0, q1.1), (0, 0)]) (h := 14) hT rfl (Nat.le_of_ble_eq_true rfl) rfl) ?_
    exact rfl
  · refine Eq.trans (x0 (h := 11) hT rfl) ?_
    exact x203c (h := 12) hT rfl (by decide)
set_option maxRecDepth 100000 in
theorem q_175_15 {P : zP} {d : zD P} {a0 : Nat} {a1 : Nat} {a2 : Int} {a3 : Int} {a4 : Int} {a5 : Int} (ha0 : zkd a0 = 5) (ha1 : zkd a1 = 4) : zB P 175 15 [(2, ((a0 : Nat) : Int)), (2, ((a1 : Nat) : Int)), (0, a2), (0, a3), (0, a4), (0, a5)] [] d = (if wr a4 ≤ wr a5 then some (1, d) else ((MM P 20 [(2, ((a1 : Nat) : Int)), (0, a2), (0, 0), (0, a5)] d).bind fun q2 => (if zin ((a3 + a5)) 8 then (if wr q2.1 = wr ((q2.2.m ((a0 + 1)) (zix ((a3 + a5))))) then zB P 175 15 [(2, ((a0 : Nat) : Int)), (2, ((a1 : Nat) : Int)), (0, a2), (0, a3), (0, a4), (0, (a5 + 1))] [] q2.2 else some (0, q2.2)) else none))) := by
  have hT := cT_175
  refine Eq.trans (x1 (h := 15) hT rfl rfl (by decide)) ?_
  refine Eq.trans (x1 (h := 16) hT rfl rfl (by decide)) ?_
  refine Eq.trans (x17_3 (h := 17) hT rfl) ?_
  refine xit (fun _ => ?_) (fun _ => ?_)
  · refine Eq.trans (x0 (h := 34) hT rfl) ?_
    exact x203c (h := 35) hT rfl (by decide)
  · refine Eq.trans (x1 (h := 18) hT rfl rfl (by decide)) ?_
    refine Eq.trans (x1 (h := 19) hT rfl rfl (by decide)) ?_
    refine Eq.trans (x0 (h := 20) hT rfl) ?_
    refine Eq.trans (x1 (h := 21) hT rfl rfl (by decide)) ?_
    refine Eq.trans (x31 (r := a1) (cl := 4) (as := [(0, a2), (0, 0), (0, a5)]) (st' := []) (h := 22) hT rfl sm_20 rfl ha1) ?_
    refine xbd (fun q2 => ?_)
    rw [rv_20]
    change zB P 175 23 [(2, ((a0 : Nat) : Int)), (2, ((a1 : Nat) : Int)), (0, a2), (0, a3), (0, a4), (0, a5)] [(0, q2.1)] q2.2 = _
    refine Eq.trans (x1 (h := 23) hT rfl rfl (by decide)) ?_
    refine Eq.trans (x21r (r := a0) (cl := 5) (o := 1) (h := 24) hT rfl ha0 (by decide) rfl) ?_
    refine Eq.trans (x1 (h := 25) hT rfl rfl (by decide)) ?_
    refine Eq.trans (x1 (h := 26) hT rfl rfl (by decide)) ?_
    refine Eq.trans (x5_0 (h := 27) hT rfl) ?_
    refine Eq.trans (x24 (r := (a0 + 1)) (n := 8) (h := 28) hT rfl (Or.inl (kd_5_0 ha0)) (ln_5_0 ha0)) ?_
    refine xig (fun hz3 => ?_)
    refine Eq.trans (x17_0 (h := 29) hT rfl) ?_
    refine xit (fun _ => ?_) (fun _ => ?_)
    · refine Eq.trans (x4 (ls' := [(2, ((a0 : Nat) : Int)), (2, ((a1 : Nat) : Int)), (0, a2), (0, a3), (0, a4), (0, (a5 + 1))]) (h := 32) hT rfl rfl rfl) ?_
      refine Eq.trans (x18 (h := 33) hT rfl) ?_
      exact rfl
    · refine Eq.trans (x0 (h := 30) hT rfl) ?_
      exact x203c (h := 31) hT rfl (by decide)
/-! WordLinks$Putter.take(LWordLinks$Corpus;LWordLinks$Rows;)Z -/
set_option maxRecDepth 100000 in
theorem e_176 {P : zP} {d : zD P} {a0 : Nat} {a1 : Nat} {a2 : Nat} (ha0 : zkd a0 = 5) (ha1 : zkd a1 = 0) (ha2 : zkd a2 = 7) : MM P 176 [(2, ((a0 : Nat) : Int)), (2, ((a1 : Nat) : Int)), (2, ((a2 : Nat) : Int))] d = ((MM P 25 [(2, ((a2 : Nat) : Int)), (0, 0)] d).bind fun q1 => zB P 176 9 [(2, ((a0 : Nat) : Int)), (2, ((a1 : Nat) : Int)), (2, ((a2 : Nat) : Int)), (0, 0)] [] ((q1.2.up a0 6 ((if wr 8 < wr q1.1 then 8 else q1.1))))) := by
  have hT := cT_176
  refine Eq.trans (MM_def sm_176 (Nat.le_of_ble_eq_true rfl)) ?_
  change zB P 176 0 [(2, ((a0 : Nat) : Int)), (2, ((a1 : Nat) : Int)), (2, ((a2 : Nat) : Int)), (3, 0)] [] d = _
  refine Eq.trans (x1 (h := 0) hT rfl rfl (by decide)) ?_
  refine Eq.trans (x1 (h := 1) hT rfl rfl (by decide)) ?_
  refine Eq.trans (x0 (h := 2) hT rfl) ?_
  refine Eq.trans (x31 (r := a2) (cl := 7) (as := [(0, 0)]) (st' := [(2, ((a0 : Nat) : Int))]) (h := 3) hT rfl sm_25 rfl ha2) ?_
  refine xbd (fun q1 => ?_)
  rw [rv_25]
  change zB P 176 4 [(2, ((a0 : Nat) : Int)), (2, ((a1 : Nat) : Int)), (2, ((a2 : Nat) : Int)), (3, 0)] [(0, q1.1), (2, ((a0 : Nat) : Int))] q1.2 = _
  refine Eq.trans (x0 (h := 4) hT rfl) ?_
  refine Eq.trans (x361 (h := 5) hT rfl rfl) ?_
  refine Eq.trans (x22 (r := a0) (cl := 5) (h := 6) hT rfl ha0 (by decide) rfl (by decide)) ?_
  refine Eq.trans (x0 (h := 7) hT rfl) ?_
  refine Eq.trans (x2 (ls' := [(2, ((a0 : Nat) : Int)), (2, ((a1 : Nat) : Int)), (2, ((a2 : Nat) : Int)), (0, 0)]) (h := 8) hT rfl (Nat.le_of_ble_eq_true rfl) rfl) ?_
  exact rfl
set_option maxRecDepth 100000 in
theorem q_176_9 {P : zP} {d : zD P} {a0 : Nat} {a1 : Nat} {a2 : Nat} {a3 : Int} (ha0 : zkd a0 = 5) (ha1 : zkd a1 = 0) (ha2 : zkd a2 = 7) : zB P 176 9 [(2, ((a0 : Nat) : Int)), (2, ((a1 : Nat) : Int)), (2, ((a2 : Nat) : Int)), (0, a3)] [] d = (if wr ((d.m a0 6)) ≤ wr a3 then some (1, d) else ((MM P 112 [(2, ((a2 : Nat) : Int)), (0, 0), (0, a3)] d).bind fun q2 => (if zin 0 2 then ((MM P 3 [(2, ((a1 : Nat) : Int)), (0, 0), (1, q2.1), (0, (q2.2.m ((a1 + 1)) (zix 0)))] q2.2).bind fun q4 => (if zin a3 8 then (if zin a3 8 then (if 0 ≤ wr ((((q4.2.up ((a0 + 1)) (zix a3) q4.1)).m ((a0 + 1)) (zix a3))) then zB P 176 9 [(2, ((a0 : Nat) : Int)), (2, ((a1 : Nat) : Int)), (2, ((a2 : Nat) : Int)), (0, (a3 + 1))] [] ((q4.2.up ((a0 + 1)) (zix a3) q4.1)) else some (0, (q4.2.up ((a0 + 1)) (zix a3) q4.1))) else none) else none)) else none))) := by
  have hT := cT_176
  refine Eq.trans (x1 (h := 9) hT rfl rfl (by decide)) ?_
  refine Eq.trans (x1 (h := 10) hT rfl rfl (by decide)) ?_
  refine Eq.trans (x21 (r := a0) (cl := 5) (h := 11) hT rfl ha0) ?_
  refine Eq.trans (x17_3 (h := 12) hT rfl) ?_
  refine xit (fun _ => ?_) (fun _ => ?_)
  · refine Eq.trans (x0 (h := 37) hT rfl) ?_
    exact x203c (h := 38) hT rfl (by decide)
  · refine Eq.trans (x1 (h := 13) hT rfl rfl (by decide)) ?_
    refine Eq.trans (x21r (r := a0) (cl := 5) (o := 1) (h := 14) hT rfl ha0 (by decide) rfl) ?_
    refine Eq.trans (x1 (h := 15) hT rfl rfl (by decide)) ?_
    refine Eq.trans (x1 (h := 16) hT rfl rfl (by decide)) ?_
    refine Eq.trans (x0 (h := 17) hT rfl) ?_
    refine Eq.trans (x1 (h := 18) hT rfl rfl (by decide)) ?_
    refine Eq.trans (x0 (h := 19) hT rfl) ?_
    refine Eq.trans (x1 (h := 20) hT rfl rfl (by decide)) ?_
    refine Eq.trans (x31 (r := a2) (cl := 7) (as := [(0, 0), (0, a3)]) (st' := [(0, 0), (2, ((a1 : Nat) : Int)), (0, a3), (2, (((a0 + 1) : Nat) : Int))]) (h := 21) hT rfl sm_112 rfl ha2) ?_
    refine xbd (fun q2 => ?_)
    rw [rv_112]
    change zB P 176 22 [(2, ((a0 : Nat) : Int)), (2, ((a1 : Nat) : Int)), (2, ((a2 : Nat) : Int)), (0, a3)] [(1, q2.1), (0, 0), (2, ((a1 : Nat) : Int)), (0, a3), (2, (((a0 + 1) : Nat) : Int))] q2.2 = _
    refine Eq.trans (x1 (h := 22) hT rfl rfl (by decide)) ?_
    refine Eq.trans (x21r (r := a1) (cl := 0) (o := 1) (h := 23) hT rfl ha1 (by decide) rfl) ?_
    refine Eq.trans (x0 (h := 24) hT rfl) ?_
    refine Eq.trans (x24 (r := (a1 + 1)) (n := 2) (h := 25) hT rfl (Or.inl (kd_0_0 ha1)) (ln_0_0 ha1)) ?_
    refine xig (fun hz3 => ?_)
    refine Eq.trans (x31 (r := a1) (cl := 0) (as := [(0, 0), (1, q2.1), (0, (q2.2.m ((a1 + 1)) (zix 0)))]) (st' := [(0, a3), (2, (((a0 + 1) : Nat) : Int))]) (h := 26) hT rfl sm_3 rfl ha1) ?_
    refine xbd (fun q4 => ?_)
    rw [rv_3]
    change zB P 176 27 [(2, ((a0 : Nat) : Int)), (2, ((a1 : Nat) : Int)), (2, ((a2 : Nat) : Int)), (0, a3)] [(0, q4.1), (0, a3), (2, (((a0 + 1) : Nat) : Int))] q4.2 = _
    refine Eq.trans (x25a (r := (a0 + 1)) (n := 8) (h := 27) hT rfl (kd_5_0 ha0) (ln_5_0 ha0) (by decide) rfl) ?_
    refine xig (fun hz5 => ?_)
    refine Eq.trans (x1 (h := 28) hT rfl rfl (by decide)) ?_
    refine Eq.trans (x21r (r := a0) (cl := 5) (o := 1) (h := 29) hT rfl ha0 (by decide) rfl) ?_
    refine Eq.trans (x1 (h := 30) hT rfl rfl (by decide)) ?_
    refine Eq.trans (x24 (r := (a0 + 1)) (n := 8) (h := 31) hT rfl (Or.inl (kd_5_0 ha0)) (ln_5_0 ha0)) ?_
    refine xig (fun hz6 => ?_)
    refine Eq.trans (x16_3 (h := 32) hT rfl) ?_
    refine xit (fun _ => ?_) (fun _ => ?_)
    · refine Eq.trans (x4 (ls' := [(2, ((a0 : Nat) : Int)), (2, ((a1 : Nat) : Int)), (2, ((a2 : Nat) : Int)), (0, (a3 + 1))]) (h := 35) hT rfl rfl rfl) ?_
      refine Eq.trans (x18 (h := 36) hT rfl) ?_
      exact rfl
    · refine Eq.trans (x0 (h := 33) hT rfl) ?_
      exact x203c (h := 34) hT rfl (by decide)
/-! WordLinks$Putter.walk(LWordLinks$Phrases;)V -/
set_option maxRecDepth 100000 in
theorem e_177 {P : zP} {d : zD P} {a0 : Nat} {a1 : Nat} (ha0 : zkd a0 = 5) (ha1 : zkd a1 = 4) : MM P 177 [(2, ((a0 : Nat) : Int)), (2, ((a1 : Nat) : Int))] d = zB P 177 10 [(2, ((a0 : Nat) : Int)), (2, ((a1 : Nat) : Int)), (0, 0), (0, 0), (3, 0), (3, 0)] [] ((((d.up a0 7 0)).up a0 8 0)) := by
  have hT := cT_177
  refine Eq.trans (MM_def sm_177 (Nat.le_of_ble_eq_true rfl)) ?_
  change zB P 177 0 [(2, ((a0 : Nat) : Int)), (2, ((a1 : Nat) : Int)), (3, 0), (3, 0), (3, 0), (3, 0)] [] d = _
  refine Eq.trans (x1 (h := 0) hT rfl rfl (by decide)) ?_
  refine Eq.trans (x0 (h := 1) hT rfl) ?_
  refine Eq.trans (x22 (r := a0) (cl := 5) (h := 2) hT rfl ha0 (by decide) rfl (by decide)) ?_
  refine Eq.trans (x1 (h := 3) hT rfl rfl (by decide)) ?_
  refine Eq.trans (x0 (h := 4) hT rfl) ?_
  refine Eq.trans (x22 (r := a0) (cl := 5) (h := 5) hT rfl ha0 (by decide) rfl (by decide)) ?_
  refine Eq.trans (x0 (h := 6) hT rfl) ?_
  refine Eq.trans (x2 (ls' := [(2, ((a0 : Nat) : Int)), (2, ((a1 : Nat) : Int)), (0, 0), (3, 0), (3, 0), (3, 0)]) (h := 7) hT rfl (Nat.le_of_ble_eq_true rfl) rfl) ?_
  refine Eq.trans (x0 (h := 8) hT rfl) ?_
  refine Eq.trans (x2 (ls' := [(2, ((a0 : Nat) : Int)), (2, ((a1 : Nat) : Int)), (0, 0), (0, 0), (3, 0), (3, 0)]) (h := 9) hT rfl (Nat.le_of_ble_eq_true rfl) rfl) ?_
  exact rfl
set_option maxRecDepth 100000 in
theorem q_177_10 {P : zP} {d : zD P} {a0 : Nat} {a1 : Nat} {a2 : Int} {a3 : Int} {g4 : zV} {g5 : zV} (ha0 : zkd a0 = 5) (ha1 : zkd a1 = 4) : zB P 177 10 [(2, ((a0 : Nat) : Int)), (2, ((a1 : Nat) : Int)), (0, a2), (0, a3), g4, g5] [] d = (if wr 8 ≤ wr a3 then some (0, d) else (if wr ((d.m a0 6)) ≤ wr a2 then some (0, d) else (if zin a2 8 then (if zin a3 8 then (if wr ((d.m ((a0 + 4)) (zix a2))) ≠ wr 9999 then zB P 177 43 [(2, ((a0 : Nat) : Int)), (2, ((a1 : Nat) : Int)), (0, a2), (0, a3), (0, (d.m ((a0 + 4)) (zix a2))), (0, 0)] [] ((((d.up ((a0 + 5)) (zix a3) ((d.m ((a0 + 4)) (zix a2))))).up a0 7 (((((d.up ((a0 + 5)) (zix a3) ((d.m ((a0 + 4)) (zix a2))))).m a0 7) + 1)))) else ((MM P 21 [(2, ((a0 : Nat) : Int)), (0, (-3))] ((((d.up ((a0 + 5)) (zix a3) ((d.m ((a0 + 4)) (zix a2))))).up a0 7 (((((d.up ((a0 + 5)) (zix a3) ((d.m ((a0 + 4)) (zix a2))))).m a0 7) + 1))))).bind fun q3 => zB P 177 10 [(2, ((a0 : Nat) : Int)), (2, ((a1 : Nat) : Int)), (0, (a2 + 1)), (0, (a3 + 1)), (0, (d.m ((a0 + 4)) (zix a2))), g5] [] q3.2)) else none) else none))) := by
  have hT := cT_177
  refine Eq.trans (x1 (h := 10) hT rfl rfl (by decide)) ?_
  refine Eq.trans (x0 (h := 11) hT rfl) ?_
  refine Eq.trans (x17_3 (h := 12) hT rfl) ?_
  refine xit (fun _ => ?_) (fun _ => ?_)
  · exact x20 (h := 67) hT rfl
  · refine Eq.trans (x1 (h := 13) hT rfl rfl (by decide)) ?_
    refine Eq.trans (x1 (h := 14) hT rfl rfl (by decide)) ?_
    refine Eq.trans (x21 (r := a0) (cl := 5) (h := 15) hT rfl ha0) ?_
    refine Eq.trans (x17_3 (h := 16) hT rfl) ?_
    refine xit (fun _ => ?_) (fun _ => ?_)
    · exact x20 (h := 67) hT rfl
    · refine Eq.trans (x1 (h := 17) hT rfl rfl (by decide)) ?_
      refine Eq.trans (x21r (r := a0) (cl := 5) (o := 4) (h := 18) hT rfl ha0 (by decide) rfl) ?_
      refine Eq.trans (x1 (h := 19) hT rfl rfl (by decide)) ?_
      refine Eq.trans (x24 (r := (a0 + 4)) (n := 8) (h := 20) hT rfl (Or.inl (kd_5_3 ha0)) (ln_5_3 ha0)) ?_
      refine xig (fun hz1 => ?_)
      refine Eq.trans (x2 (ls' := [(2, ((a0 : Nat) : Int)), (2, ((a1 : Nat) : Int)), (0, a2), (0, a3), (0, (d.m ((a0 + 4)) (zix a2))), g5]) (h := 21) hT rfl (Nat.le_of_ble_eq_true rfl) rfl) ?_
      refine Eq.trans (x1 (h := 22) hT rfl rfl (by decide)) ?_
      refine Eq.trans (x21r (r := a0) (cl := 5) (o := 5) (h := 23) hT rfl ha0 (by decide) rfl) ?_
      refine Eq.trans (x1 (h := 24) hT rfl rfl (by decide)) ?_
      refine Eq.trans (x1 (h := 25) hT rfl rfl (by decide)) ?_
      refine Eq.trans (x25a (r := (a0 + 5)) (n := 8) (h := 26) hT rfl (kd_5_4 ha0) (ln_5_4 ha0) (by decide) rfl) ?_
      refine xig (fun hz2 => ?_)
      refine Eq.trans (x1 (h := 27) hT rfl rfl (by decide)) ?_
      refine Eq.trans (x13 (h := 28) hT rfl (by decide)) ?_
      refine Eq.trans (x21 (r := a0) (cl := 5) (h := 29) hT rfl ha0) ?_
      refine Eq.trans (x0 (h := 30) hT rfl) ?_
      refine Eq.trans (x5_0 (h := 31) hT rfl) ?_
      refine Eq.trans (x22 (r := a0) (cl := 5) (h := 32) hT rfl ha0 (by decide) rfl (by decide)) ?_
      refine Eq.trans (x1 (h := 33) hT rfl rfl (by decide)) ?_
      refine Eq.trans (x0 (h := 34) hT rfl) ?_
      refine Eq.trans (x17_1 (h := 35) hT rfl) ?_
      refine xit (fun _ => ?_) (fun _ => ?_)
      · refine Eq.trans (x0 (h := 41) hT rfl) ?_
        refine Eq.trans (x2 (ls' := [(2, ((a0 : Nat) : Int)), (2, ((a1 : Nat) : Int)), (0, a2), (0, a3), (0, (d.m ((a0 + 4)) (zix a2))), (0, 0)]) (h := 42) hT rfl (Nat.le_of_ble_eq_true rfl) rfl) ?_
        exact rfl
      · refine Eq.trans (x1 (h := 36) hT rfl rfl (by decide)) ?_
        refine Eq.trans (x0 (h := 37) hT rfl) ?_
        refine Eq.trans (x31 (r := a0) (cl := 5) (as := [(0, (-3))]) (st' := []) (h := 38) hT rfl sm_21 rfl ha0) ?_
        refine xbd (fun q3 => ?_)
        rw [rv_21]
        change zB P 177 39 [(2, ((a0 : Nat) : Int)), (2, ((a1 : Nat) : Int)), (0, a2), (0, a3), (0, (d.m ((a0 + 4)) (zix a2))), g5] [] q3.2 = _
        refine Eq.trans (x4 (ls' := [(2, ((a0 : Nat) : Int)), (2, ((a1 : Nat) : Int)), (0, (a2 + 1)), (0, a3), (0, (d.m ((a0 + 4)) (zix a2))), g5]) (h := 39) hT rfl rfl rfl) ?_
        refine Eq.trans (x18 (h := 40) hT rfl) ?_
        refine Eq.trans (x4 (ls' := [(2, ((a0 : Nat) : Int)), (2, ((a1 : Nat) : Int)), (0, (a2 + 1)), (0, (a3 + 1)), (0, (d.m ((a0 + 4)) (zix a2))), g5]) (h := 65) hT rfl rfl rfl) ?_
        refine Eq.trans (x18 (h := 66) hT rfl) ?_
        exact rfl
set_option maxRecDepth 100000 in
theorem q_177_43 {P : zP} {d : zD P} {a0 : Nat} {a1 : Nat} {a2 : Int} {a3 : Int} {a4 : Int} {a5 : Int} (ha0 : zkd a0 = 5) (ha1 : zkd a1 = 4) : zB P 177 43 [(2, ((a0 : Nat) : Int)), (2, ((a1 : Nat) : Int)), (0, a2), (0, a3), (0, a4), (0, a5)] [] d = ((MM P 108 [(2, ((a1 : Nat) : Int)), (0, a4), (0, 1)] d).bind fun q4 => (if wr q4.1 ≤ wr a5 then ((MM P 108 [(2, ((a1 : Nat) : Int)), (0, a4), (0, 0)] q4.2).bind fun q5 => zB P 177 10 [(2, ((a0 : Nat) : Int)), (2, ((a1 : Nat) : Int)), (0, (a2 + q5.1)), (0, (a3 + 1)), (0, a4), (0, a5)] [] q5.2) else ((MM P 20 [(2, ((a1 : Nat) : Int)), (0, a4), (0, 1), (0, a5)] q4.2).bind fun q6 => ((MM P 21 [(2, ((a0 : Nat) : Int)), (0, q6.1)] q6.2).bind fun q7 => zB P 177 43 [(2, ((a0 : Nat) : Int)), (2, ((a1 : Nat) : Int)), (0, a2), (0, a3), (0, a4), (0, (a5 + 1))] [] q7.2)))) := by
  have hT := cT_177
  refine Eq.trans (x1 (h := 43) hT rfl rfl (by decide)) ?_
  refine Eq.trans (x1 (h := 44) hT rfl rfl (by decide)) ?_
  refine Eq.trans (x1 (h := 45) hT rfl rfl (by decide)) ?_
  refine Eq.trans (x0 (h := 46) hT rfl) ?_
  refine Eq.trans (x31 (r := a1) (cl := 4) (as := [(0, a4), (0, 1)]) (st' := [(0, a5)]) (h := 47) hT rfl sm_108 rfl ha1) ?_
  refine xbd (fun q4 => ?_)
  rw [rv_108]
  change zB P 177 48 [(2, ((a0 : Nat) : Int)), (2, ((a1 : Nat) : Int)), (0, a2), (0, a3), (0, a4), (0, a5)] [(0, q4.1), (0, a5)] q4.2 = _
  refine Eq.trans (x17_3 (h := 48) hT rfl) ?_
  refine xit (fun _ => ?_) (fun _ => ?_)
  · refine Eq.trans (x1 (h := 58) hT rfl rfl (by decide)) ?_
    refine Eq.trans (x1 (h := 59) hT rfl rfl (by decide)) ?_
    refine Eq.trans (x1 (h := 60) hT rfl rfl (by decide)) ?_
    refine Eq.trans (x0 (h := 61) hT rfl) ?_
    refine Eq.trans (x31 (r := a1) (cl := 4) (as := [(0, a4), (0, 0)]) (st' := [(0, a2)]) (h := 62) hT rfl sm_108 rfl ha1) ?_
    refine xbd (fun q5 => ?_)
    rw [rv_108]
    change zB P 177 63 [(2, ((a0 : Nat) : Int)), (2, ((a1 : Nat) : Int)), (0, a2), (0, a3), (0, a4), (0, a5)] [(0, q5.1), (0, a2)] q5.2 = _
    refine Eq.trans (x5_0 (h := 63) hT rfl) ?_
    refine Eq.trans (x2 (ls' := [(2, ((a0 : Nat) : Int)), (2, ((a1 : Nat) : Int)), (0, (a2 + q5.1)), (0, a3), (0, a4), (0, a5)]) (h := 64) hT rfl (Nat.le_of_ble_eq_true rfl) rfl) ?_
    refine Eq.trans (x4 (ls' := [(2, ((a0 : Nat) : Int)), (2, ((a1 : Nat) : Int)), (0, (a2 + q5.1)), (0, (a3 + 1)), (0, a4), (0, a5)]) (h := 65) hT rfl rfl rfl) ?_
    refine Eq.trans (x18 (h := 66) hT rfl) ?_
    exact rfl
  · refine Eq.trans (x1 (h := 49) hT rfl rfl (by decide)) ?_
    refine Eq.trans (x1 (h := 50) hT rfl rfl (by decide)) ?_
    refine Eq.trans (x1 (h := 51) hT rfl rfl (by decide)) ?_
    refine Eq.trans (x0 (h := 52) hT rfl) ?_
    refine Eq.trans (x1 (h := 53) hT rfl rfl (by decide)) ?_
    refine Eq.trans (x31 (r := a1) (cl := 4) (as := [(0, a4), (0, 1), (0, a5)]) (st' := [(2, ((a0 : Nat) : Int))]) (h := 54) hT rfl sm_20 rfl ha1) ?_
    refine xbd (fun q6 => ?_)
    rw [rv_20]
    change zB P 177 55 [(2, ((a0 : Nat) : Int)), (2, ((a1 : Nat) : Int)), (0, a2), (0, a3), (0, a4), (0, a5)] [(0, q6.1), (2, ((a0 : Nat) : Int))] q6.2 = _
    refine Eq.trans (x31 (r := a0) (cl := 5) (as := [(0, q6.1)]) (st' := []) (h := 55) hT rfl sm_21 rfl ha0) ?_
    refine xbd (fun q7 => ?_)
    rw [rv_21]
    change zB P 177 56 [(2, ((a0 : Nat) : Int)), (2, ((a1 : Nat) : Int)), (0, a2), (0, a3), (0, a4), (0, a5)] [] q7.2 = _
    refine Eq.trans (x4 (ls' := [(2, ((a0 : Nat) : Int)), (2, ((a1 : Nat) : Int)), (0, a2), (0, a3), (0, a4), (0, (a5 + 1))]) (h := 56) hT rfl rfl rfl) ?_
    refine Eq.trans (x18 (h := 57) hT rfl) ?_
    exact rfl
/-! WordLinks$Rounder.addParts(LWordLinks$State;III)V -/
set_option maxRecDepth 100000 in
theorem e_179 {P : zP} {d : zD P} {a0 : Nat} {a1 : Nat} {a2 : Int} {a3 : Int} {a4 : Int} (ha0 : zkd a0 = 6) (ha1 : zkd a1 = 9) : MM P 179 [(2, ((a0 : Nat) : Int)), (2, ((a1 : Nat) : Int)), (0, a2), (0, a3), (0, a4)] d = ((MM P 5 [(2, (((a1 + 1) : Nat) : Int)), (0, (1 - a2)), (0, a3), (0, a4)] d).bind fun q1 => zB P 179 11 [(2, ((a0 : Nat) : Int)), (2, ((a1 : Nat) : Int)), (0, a2), (0, a3), (0, a4), (0, q1.1), (0, 0), (3, 0)] [] q1.2) := by
  have hT := cT_179
  refine Eq.trans (MM_def sm_179 (Nat.le_of_ble_eq_true rfl)) ?_
  change zB P 179 0 [(2, ((a0 : Nat) : Int)), (2, ((a1 : Nat) : Int)), (0, a2), (0, a3), (0, a4), (3, 0), (3, 0), (3, 0)] [] d = _
  refine Eq.trans (x1 (h := 0) hT rfl rfl (by decide)) ?_
  refine Eq.trans (x21r (r := a1) (cl := 9) (o := 1) (h := 1) hT rfl ha1 (by decide) rfl) ?_
  refine Eq.trans (x0 (h := 2) hT rfl) ?_
  refine Eq.trans (x1 (h := 3) hT rfl rfl (by decide)) ?_
  refine Eq.trans (x5_1 (h := 4) hT rfl) ?_
  refine Eq.trans (x1 (h := 5) hT rfl rfl (by decide)) ?_
  refine Eq.trans (x1 (h := 6) hT rfl rfl (by decide)) ?_
  refine Eq.trans (x31 (r := (a1 + 1)) (cl := 0) (as := [(0, (1 - a2)), (0, a3), (0, a4)]) (st' := []) (h := 7) hT rfl sm_5 rfl (kd_9_0 ha1)) ?_
  refine xbd (fun q1 => ?_)
  rw [rv_5]
  change zB P 179 8 [(2, ((a0 : Nat) : Int)), (2, ((a1 : Nat) : Int)), (0, a2), (0, a3), (0, a4), (3, 0), (3, 0), (3, 0)] [(0, q1.1)] q1.2 = _
  refine Eq.trans (x2 (ls' := [(2, ((a0 : Nat) : Int)), (2, ((a1 : Nat) : Int)), (0, a2), (0, a3), (0, a4), (0, q1.1), (3, 0), (3, 0)]) (h := 8) hT rfl (Nat.le_of_ble_eq_true rfl) rfl) ?_
  refine Eq.trans (x0 (h := 9) hT rfl) ?_
  refine Eq.trans (x2 (ls' := [(2, ((a0 : Nat) : Int)), (2, ((a1 : Nat) : Int)), (0, a2), (0, a3), (0, a4), (0, q1.1), (0, 0), (3, 0)]) (h := 10) hT rfl (Nat.le_of_ble_eq_true rfl) rfl) ?_
  exact rfl
set_option maxRecDepth 100000 in
theorem q_179_11 {P : zP} {d : zD P} {a0 : Nat} {a1 : Nat} {a2 : Int} {a3 : Int} {a4 : Int} {a5 : Int} {a6 : Int} {g7 : zV} (ha0 : zkd a0 = 6) (ha1 : zkd a1 = 9) : zB P 179 11 [(2, ((a0 : Nat) : Int)), (2, ((a1 : Nat) : Int)), (0, a2), (0, a3), (0, a4), (0, a5), (0, a6), g7] [] d = (if zin a2 2 then (if zin a3 24 then (if wr ((d.m ((((a1 + 1) + 8) + (1 + zix a2))) (zix a3))) ≤ wr a6 then some (0, d) else ((MM P 16 [(2, (((a0 + 1) : Nat) : Int)), (0, a6)] d).bind fun q4 => ((MM P 5 [(2, (((a1 + 1) : Nat) : Int)), (0, a2), (0, a3), (0, a6)] q4.2).bind fun q5 => (if zin (((q5.1 * 40) + a5)) 1600 then (if zin (((q5.1 * 40) + a5)) 1600 then ((MM P 116 [(2, ((a1 : Nat) : Int)), (0, a2), (0, a3), (0, a6), (0, a4)] ((q5.2.up ((a0 + 5)) (zix (((q5.1 * 40) + a5))) (((q5.2.m ((a0 + 5)) (zix (((q5.1 * 40) + a5)))) + q4.1))))).bind fun q8 => (if zin q8.1 8 then (if zin q8.1 8 then zB P 179 11 [(2, ((a0 : Nat) : Int)), (2, ((a1 : Nat) : Int)), (0, a2), (0, a3), (0, a4), (0, a5), (0, (a6 + 1)), (0, q4.1)] [] ((q8.2.up ((a0 + 6)) (zix q8.1) (((q8.2.m ((a0 + 6)) (zix q8.1)) + q4.1)))) else none) else none)) else none) else none)))) else none) else none) := by
  have hT := cT_179
  refine Eq.trans (x1 (h := 11) hT rfl rfl (by decide)) ?_
  refine Eq.trans (x1 (h := 12) hT rfl rfl (by decide)) ?_
  refine Eq.trans (x21r (r := a1) (cl := 9) (o := 1) (h := 13) hT rfl ha1 (by decide) rfl) ?_
  refine Eq.trans (x21r (r := (a1 + 1)) (cl := 0) (o := 8) (h := 14) hT rfl (kd_9_0 ha1) (by decide) rfl) ?_
  refine Eq.trans (x1 (h := 15) hT rfl rfl (by decide)) ?_
  refine Eq.trans (x24r (r := ((a1 + 1) + 8)) (n := 2) (h := 16) hT rfl (kd_0_3 (kd_9_0 ha1)) (ln_0_3 (kd_9_0 ha1)) (by decide)) ?_
  refine xig (fun hz2 => ?_)
  refine Eq.trans (x1 (h := 17) hT rfl rfl (by decide)) ?_
  refine Eq.trans (x24 (r := (((a1 + 1) + 8) + (1 + zix a2))) (n := 24) (h := 18) hT rfl (Or.inl (kq_0_3 (kd_9_0 ha1) (zix_lt hz2))) (lq_0_3 (kd_9_0 ha1) (zix_lt hz2))) ?_
  refine xig (fun hz3 => ?_)
  refine Eq.trans (x17_3 (h := 19) hT rfl) ?_
  refine xit (fun _ => ?_) (fun _ => ?_)
  · exact x20 (h := 57) hT rfl
  · refine Eq.trans (x1 (h := 20) hT rfl rfl (by decide)) ?_
    refine Eq.trans (x21r (r := a0) (cl := 6) (o := 1) (h := 21) hT rfl ha0 (by decide) rfl) ?_
    refine Eq.trans (x1 (h := 22) hT rfl rfl (by decide)) ?_
    refine Eq.trans (x31 (r := (a0 + 1)) (cl := 3) (as := [(0, a6)]) (st' := []) (h := 23) hT rfl sm_16 rfl (kd_6_0 ha0)) ?_
    refine xbd (fun q4 => ?_)
    rw [rv_16]
    change zB P 179 24 [(2, ((a0 : Nat) : Int)), (2, ((a1 : Nat) : Int)), (0, a2), (0, a3), (0, a4), (0, a5), (0, a6), g7] [(0, q4.1)] q4.2 = _
    refine Eq.trans (x2 (ls' := [(2, ((a0 : Nat) : Int)), (2, ((a1 : Nat) : Int)), (0, a2), (0, a3), (0, a4), (0, a5), (0, a6), (0, q4.1)]) (h := 24) hT rfl (Nat.le_of_ble_eq_true rfl) rfl) ?_
    refine Eq.trans (x1 (h := 25) hT rfl rfl (by decide)) ?_
    refine Eq.trans (x21r (r := a0) (cl := 6) (o := 5) (h := 26) hT rfl ha0 (by decide) rfl) ?_
    refine Eq.trans (x1 (h := 27) hT rfl rfl (by decide)) ?_
    refine Eq.trans (x21r (r := a1) (cl := 9) (o := 1) (h := 28) hT rfl ha1 (by decide) rfl) ?_
    refine Eq.trans (x1 (h := 29) hT rfl rfl (by decide)) ?_
    refine Eq.trans (x1 (h := 30) hT rfl rfl (by decide)) ?_
    refine Eq.trans (x1 (h := 31) hT rfl rfl (by decide)) ?_
    refine Eq.trans (x31 (r := (a1 + 1)) (cl := 0) (as := [(0, a2), (0, a3), (0, a6)]) (st' := [(2, (((a0 + 5) : Nat) : Int))]) (h := 32) hT rfl sm_5 rfl (kd_9_0 ha1)) ?_
    refine xbd (fun q5 => ?_)
    rw [rv_5]
    change zB P 179 33 [(2, ((a0 : Nat) : Int)), (2, ((a1 : Nat) : Int)), (0, a2), (0, a3), (0, a4), (0, a5), (0, a6), (0, q4.1)] [(0, q5.1), (2, (((a0 + 5) : Nat) : Int))] q5.2 = _
    refine Eq.trans (x0 (h := 33) hT rfl) ?_
    refine Eq.trans (x5_2 (h := 34) hT rfl) ?_
    refine Eq.trans (x1 (h := 35) hT rfl rfl (by decide)) ?_
    refine Eq.trans (x5_0 (h := 36) hT rfl) ?_
    refine Eq.trans (x14 (h := 37) hT rfl (by decide)) ?_
    refine Eq.trans (x24 (r := (a0 + 5)) (n := 1600) (h := 38) hT rfl (Or.inl (kd_6_1 ha0)) (ln_6_1 ha0)) ?_
    refine xig (fun hz6 => ?_)
    refine Eq.trans (x1 (h := 39) hT rfl rfl (by decide)) ?_
    refine Eq.trans (x5_0 (h := 40) hT rfl) ?_
    refine Eq.trans (x25a (r := (a0 + 5)) (n := 1600) (h := 41) hT rfl (kd_6_1 ha0) (ln_6_1 ha0) (by decide) rfl) ?_
    refine xig (fun hz7 => ?_)
    refine Eq.trans (x1 (h := 42) hT rfl rfl (by decide)) ?_
    refine Eq.trans (x21r (r := a0) (cl := 6) (o := 6) (h := 43) hT rfl ha0 (by decide) rfl) ?_
    refine Eq.trans (x1 (h := 44) hT rfl rfl (by decide)) ?_
    refine Eq.trans (x1 (h := 45) hT rfl rfl (by decide)) ?_
    refine Eq.trans (x1 (h := 46) hT rfl rfl (by decide)) ?_
    refine Eq.trans (x1 (h := 47) hT rfl rfl (by decide)) ?_
    refine Eq.trans (x1 (h := 48) hT rfl rfl (by decide)) ?_
    refine Eq.trans (x31 (r := a1) (cl := 9) (as := [(0, a2), (0, a3), (0, a6), (0, a4)]) (st' := [(2, (((a0 + 6) : Nat) : Int))]) (h := 49) hT rfl sm_116 rfl ha1) ?_
    refine xbd (fun q8 => ?_)
    rw [rv_116]
    change zB P 179 50 [(2, ((a0 : Nat) : Int)), (2, ((a1 : Nat) : Int)), (0, a2), (0, a3), (0, a4), (0, a5), (0, a6), (0, q4.1)] [(0, q8.1), (2, (((a0 + 6) : Nat) : Int))] q8.2 = _
    refine Eq.trans (x14 (h := 50) hT rfl (by decide)) ?_
    refine Eq.trans (x24 (r := (a0 + 6)) (n := 8) (h := 51) hT rfl (Or.inl (kd_6_2 ha0)) (ln_6_2 ha0)) ?_
    refine xig (fun hz9 => ?_)
    refine Eq.trans (x1 (h := 52) hT rfl rfl (by decide)) ?_
    refine Eq.trans (x5_0 (h := 53) hT rfl) ?_
    refine Eq.trans (x25a (r := (a0 + 6)) (n := 8) (h := 54) hT rfl (kd_6_2 ha0) (ln_6_2 ha0) (by decide) rfl) ?_
    refine xig (fun hz10 => ?_)
    refine Eq.trans (x4 (ls' := [(2, ((a0 : Nat) : Int)), (2, ((a1 : Nat) : Int)), (0, a2), (0, a3), (0, a4), (0, a5), (0, (a6 + 1)), (0, q4.1)]) (h := 55) hT rfl rfl rfl) ?_
    refine Eq.trans (x18 (h := 56) hT rfl) ?_
    exact rfl
