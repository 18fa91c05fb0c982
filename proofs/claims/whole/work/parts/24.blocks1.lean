/-! The methods from 60 on, block by block. -/
/-! WordLinksModel.longOf(II)I -/
set_option maxRecDepth 100000 in
theorem e_60 {P : zP} {d : zD P} {a0 : Nat} {a1 : Int} {a2 : Int} (ha0 : zkd a0 = 12) : MM P 60 [(2, ((a0 : Nat) : Int)), (0, a1), (0, a2)] d = (if zin (((24 + (20 * a1)) + a2)) 18180 then some ((d.m ((a0 + 1)) (zix (((24 + (20 * a1)) + a2)))), d) else none) := by
  have hT := cT_60
  refine Eq.trans (MM_def sm_60 (Nat.le_of_ble_eq_true rfl)) ?_
  change zB P 60 0 [(2, ((a0 : Nat) : Int)), (0, a1), (0, a2)] [] d = _
  refine Eq.trans (x1 (h := 0) hT rfl rfl (by decide)) ?_
  refine Eq.trans (x21r (r := a0) (cl := 12) (o := 1) (h := 1) hT rfl ha0 (by decide) rfl) ?_
  refine Eq.trans (x0 (h := 2) hT rfl) ?_
  refine Eq.trans (x0 (h := 3) hT rfl) ?_
  refine Eq.trans (x1 (h := 4) hT rfl rfl (by decide)) ?_
  refine Eq.trans (x5_2 (h := 5) hT rfl) ?_
  refine Eq.trans (x5_0 (h := 6) hT rfl) ?_
  refine Eq.trans (x1 (h := 7) hT rfl rfl (by decide)) ?_
  refine Eq.trans (x5_0 (h := 8) hT rfl) ?_
  refine Eq.trans (x24 (r := (a0 + 1)) (n := 18180) (h := 9) hT rfl (Or.inl (kd_12_0 ha0)) (ln_12_0 ha0)) ?_
  refine xig (fun hz1 => ?_)
  exact x201 (h := 10) hT rfl
/-! WordLinksModel.max(II)I -/
set_option maxRecDepth 100000 in
theorem e_61 {P : zP} {d : zD P} {a0 : Int} {a1 : Int} : MM P 61 [(0, a0), (0, a1)] d = (if wr a0 ≤ wr a1 then some (a1, d) else some (a0, d)) := by
  have hT := cT_61
  refine Eq.trans (MM_def sm_61 (Nat.le_of_ble_eq_true rfl)) ?_
  change zB P 61 0 [(0, a0), (0, a1)] [] d = _
  refine Eq.trans (x1 (h := 0) hT rfl rfl (by decide)) ?_
  refine Eq.trans (x1 (h := 1) hT rfl rfl (by decide)) ?_
  refine Eq.trans (x17_5 (h := 2) hT rfl) ?_
  refine xit (fun _ => ?_) (fun _ => ?_)
  · refine Eq.trans (x1 (h := 5) hT rfl rfl (by decide)) ?_
    exact x201 (h := 6) hT rfl
  · refine Eq.trans (x1 (h := 3) hT rfl rfl (by decide)) ?_
    refine Eq.trans (x18 (h := 4) hT rfl) ?_
    exact x201 (h := 6) hT rfl
/-! WordLinksModel.min(II)I -/
set_option maxRecDepth 100000 in
theorem e_62 {P : zP} {d : zD P} {a0 : Int} {a1 : Int} : MM P 62 [(0, a0), (0, a1)] d = (if wr a1 ≤ wr a0 then some (a1, d) else some (a0, d)) := by
  have hT := cT_62
  refine Eq.trans (MM_def sm_62 (Nat.le_of_ble_eq_true rfl)) ?_
  change zB P 62 0 [(0, a0), (0, a1)] [] d = _
  refine Eq.trans (x1 (h := 0) hT rfl rfl (by decide)) ?_
  refine Eq.trans (x1 (h := 1) hT rfl rfl (by decide)) ?_
  refine Eq.trans (x17_3 (h := 2) hT rfl) ?_
  refine xit (fun _ => ?_) (fun _ => ?_)
  · refine Eq.trans (x1 (h := 5) hT rfl rfl (by decide)) ?_
    exact x201 (h := 6) hT rfl
  · refine Eq.trans (x1 (h := 3) hT rfl rfl (by decide)) ?_
    refine Eq.trans (x18 (h := 4) hT rfl) ?_
    exact x201 (h := 6) hT rfl
/-! WordLinksModel.notNothing()I -/
set_option maxRecDepth 100000 in
theorem e_63 {P : zP} {d : zD P} {a0 : Nat} (ha0 : zkd a0 = 12) : MM P 63 [(2, ((a0 : Nat) : Int))] d = zB P 63 4 [(2, ((a0 : Nat) : Int)), (0, 0), (0, 0)] [] d := by
  have hT := cT_63
  refine Eq.trans (MM_def sm_63 (Nat.le_of_ble_eq_true rfl)) ?_
  change zB P 63 0 [(2, ((a0 : Nat) : Int)), (3, 0), (3, 0)] [] d = _
  refine Eq.trans (x0 (h := 0) hT rfl) ?_
  refine Eq.trans (x2 (ls' := [(2, ((a0 : Nat) : Int)), (0, 0), (3, 0)]) (h := 1) hT rfl (Nat.le_of_ble_eq_true rfl) rfl) ?_
  refine Eq.trans (x0 (h := 2) hT rfl) ?_
  refine Eq.trans (x2 (ls' := [(2, ((a0 : Nat) : Int)), (0, 0), (0, 0)]) (h := 3) hT rfl (Nat.le_of_ble_eq_true rfl) rfl) ?_
  exact rfl
set_option maxRecDepth 100000 in
theorem q_63_4 {P : zP} {d : zD P} {a0 : Nat} {a1 : Int} {a2 : Int} (ha0 : zkd a0 = 12) : zB P 63 4 [(2, ((a0 : Nat) : Int)), (0, a1), (0, a2)] [] d = (if wr 3200 ≤ wr a2 then some (a1, d) else (if zin ((1144 + a2)) 18180 then (if wr ((d.m ((a0 + 1)) (zix ((1144 + a2))))) ≤ 0 then zB P 63 4 [(2, ((a0 : Nat) : Int)), (0, a1), (0, (a2 + 1))] [] d else zB P 63 4 [(2, ((a0 : Nat) : Int)), (0, (a1 + 1)), (0, (a2 + 1))] [] d) else none)) := by
  have hT := cT_63
  refine Eq.trans (x1 (h := 4) hT rfl rfl (by decide)) ?_
  refine Eq.trans (x0 (h := 5) hT rfl) ?_
  refine Eq.trans (x17_3 (h := 6) hT rfl) ?_
  refine xit (fun _ => ?_) (fun _ => ?_)
  · refine Eq.trans (x1 (h := 20) hT rfl rfl (by decide)) ?_
    exact x201 (h := 21) hT rfl
  · refine Eq.trans (x1 (h := 7) hT rfl rfl (by decide)) ?_
    refine Eq.trans (x21r (r := a0) (cl := 12) (o := 1) (h := 8) hT rfl ha0 (by decide) rfl) ?_
    refine Eq.trans (x0 (h := 9) hT rfl) ?_
    refine Eq.trans (x1 (h := 10) hT rfl rfl (by decide)) ?_
    refine Eq.trans (x5_0 (h := 11) hT rfl) ?_
    refine Eq.trans (x24 (r := (a0 + 1)) (n := 18180) (h := 12) hT rfl (Or.inl (kd_12_0 ha0)) (ln_12_0 ha0)) ?_
    refine xig (fun hz1 => ?_)
    refine Eq.trans (x16_5 (h := 13) hT rfl) ?_
    refine xit (fun _ => ?_) (fun _ => ?_)
    · refine Eq.trans (x4 (ls' := [(2, ((a0 : Nat) : Int)), (0, a1), (0, (a2 + 1))]) (h := 18) hT rfl rfl rfl) ?_
      refine Eq.trans (x18 (h := 19) hT rfl) ?_
      exact rfl
    · refine Eq.trans (x1 (h := 14) hT rfl rfl (by decide)) ?_
      refine Eq.trans (x0 (h := 15) hT rfl) ?_
      refine Eq.trans (x5_0 (h := 16) hT rfl) ?_
      refine Eq.trans (x2 (ls' := [(2, ((a0 : Nat) : Int)), (0, (a1 + 1)), (0, a2)]) (h := 17) hT rfl (Nat.le_of_ble_eq_true rfl) rfl) ?_
      refine Eq.trans (x4 (ls' := [(2, ((a0 : Nat) : Int)), (0, (a1 + 1)), (0, (a2 + 1))]) (h := 18) hT rfl rfl rfl) ?_
      refine Eq.trans (x18 (h := 19) hT rfl) ?_
      exact rfl
/-! WordLinksModel.offers(IIII)V -/
set_option maxRecDepth 100000 in
theorem e_64 {P : zP} {d : zD P} {a0 : Nat} {a1 : Int} {a2 : Int} {a3 : Int} {a4 : Int} (ha0 : zkd a0 = 12) : MM P 64 [(2, ((a0 : Nat) : Int)), (0, a1), (0, a2), (0, a3), (0, a4)] d = (if zin ((a1 + a4)) 9 then (if zin ((a1 + a4)) 9 then (if zin a1 9 then (if wr ((d.m ((a0 + 24)) (zix a1))) < wr ((a3 + (d.m ((a0 + 24)) (zix ((a1 + a4)))))) then some (0, d) else (if zin a1 9 then (if wr ((a3 + (d.m ((a0 + 24)) (zix ((a1 + a4)))))) ≠ wr ((d.m ((a0 + 24)) (zix a1))) then (if zin a1 9 then (if zin a1 9 then (if zin a1 9 then some (0, (((((d.up ((a0 + 24)) (zix a1) ((a3 + (d.m ((a0 + 24)) (zix ((a1 + a4)))))))).up ((a0 + 25)) (zix a1) ((1 + (d.m ((a0 + 25)) (zix ((a1 + a4)))))))).up ((a0 + 26)) (zix a1) a2)) else none) else none) else none) else (if zin a1 9 then (if wr ((d.m ((a0 + 25)) (zix a1))) < wr ((1 + (d.m ((a0 + 25)) (zix ((a1 + a4)))))) then some (0, d) else (if zin a1 9 then (if wr ((1 + (d.m ((a0 + 25)) (zix ((a1 + a4)))))) ≠ wr ((d.m ((a0 + 25)) (zix a1))) then (if zin a1 9 then (if zin a1 9 then (if zin a1 9 then some (0, (((((d.up ((a0 + 24)) (zix a1) ((a3 + (d.m ((a0 + 24)) (zix ((a1 + a4)))))))).up ((a0 + 25)) (zix a1) ((1 + (d.m ((a0 + 25)) (zix ((a1 + a4)))))))).up ((a0 + 26)) (zix a1) a2)) else none) else none) else none) else (if zin a1 9 then (if wr a2 ≤ wr ((d.m ((a0 + 26)) (zix a1))) then (if zin a1 9 then (if zin a1 9 then (if zin a1 9 then some (0, (((((d.up ((a0 + 24)) (zix a1) ((a3 + (d.m ((a0 + 24)) (zix ((a1 + a4)))))))).up ((a0 + 25)) (zix a1) ((1 + (d.m ((a0 + 25)) (zix ((a1 + a4)))))))).up ((a0 + 26)) (zix a1) a2)) else none) else none) else none) else some (0, d)) else none)) else none)) else none)) else none)) else none) else none) else none) := by
  have hT := cT_64
  refine Eq.trans (MM_def sm_64 (Nat.le_of_ble_eq_true rfl)) ?_
  change zB P 64 0 [(2, ((a0 : Nat) : Int)), (0, a1), (0, a2), (0, a3), (0, a4), (3, 0), (3, 0)] [] d = _
  refine Eq.trans (x1 (h := 0) hT rfl rfl (by decide)) ?_
  refine Eq.trans (x1 (h := 1) hT rfl rfl (by decide)) ?_
  refine Eq.trans (x21r (r := a0) (cl := 12) (o := 24) (h := 2) hT rfl ha0 (by decide) rfl) ?_
  refine Eq.trans (x1 (h := 3) hT rfl rfl (by decide)) ?_
  refine Eq.trans (x1 (h := 4) hT rfl rfl (by decide)) ?_
  refine Eq.trans (x5_0 (h := 5) hT rfl) ?_
  refine Eq.trans (x24 (r := (a0 + 24)) (n := 9) (h := 6) hT rfl (Or.inl (kd_12_32 ha0)) (ln_12_32 ha0)) ?_
  refine xig (fun hz1 => ?_)
  refine Eq.trans (x5_0 (h := 7) hT rfl) ?_
  refine Eq.trans (x2 (ls' := [(2, ((a0 : Nat) : Int)), (0, a1), (0, a2), (0, a3), (0, a4), (0, (a3 + (d.m ((a0 + 24)) (zix ((a1 + a4)))))), (3, 0)]) (h := 8) hT rfl (Nat.le_of_ble_eq_true rfl) rfl) ?_
  refine Eq.trans (x0 (h := 9) hT rfl) ?_
  refine Eq.trans (x1 (h := 10) hT rfl rfl (by decide)) ?_
  refine Eq.trans (x21r (r := a0) (cl := 12) (o := 25) (h := 11) hT rfl ha0 (by decide) rfl) ?_
  refine Eq.trans (x1 (h := 12) hT rfl rfl (by decide)) ?_
  refine Eq.trans (x1 (h := 13) hT rfl rfl (by decide)) ?_
  refine Eq.trans (x5_0 (h := 14) hT rfl) ?_
  refine Eq.trans (x24 (r := (a0 + 25)) (n := 9) (h := 15) hT rfl (Or.inl (kd_12_33 ha0)) (ln_12_33 ha0)) ?_
  refine xig (fun hz2 => ?_)
  refine Eq.trans (x5_0 (h := 16) hT rfl) ?_
  refine Eq.trans (x2 (ls' := [(2, ((a0 : Nat) : Int)), (0, a1), (0, a2), (0, a3), (0, a4), (0, (a3 + (d.m ((a0 + 24)) (zix ((a1 + a4)))))), (0, (1 + (d.m ((a0 + 25)) (zix ((a1 + a4))))))]) (h := 17) hT rfl (Nat.le_of_ble_eq_true rfl) rfl) ?_
  refine Eq.trans (x1 (h := 18) hT rfl rfl (by decide)) ?_
  refine Eq.trans (x1 (h := 19) hT rfl rfl (by decide)) ?_
  refine Eq.trans (x21r (r := a0) (cl := 12) (o := 24) (h := 20) hT rfl ha0 (by decide) rfl) ?_
  refine Eq.trans (x1 (h := 21) hT rfl rfl (by decide)) ?_
  refine Eq.trans (x24 (r := (a0 + 24)) (n := 9) (h := 22) hT rfl (Or.inl (kd_12_32 ha0)) (ln_12_32 ha0)) ?_
  refine xig (fun hz3 => ?_)
  refine Eq.trans (x17_4 (h := 23) hT rfl) ?_
  refine xit (fun _ => ?_) (fun _ => ?_)
  · exact x20 (h := 48) hT rfl
  · refine Eq.trans (x1 (h := 24) hT rfl rfl (by decide)) ?_
    refine Eq.trans (x1 (h := 25) hT rfl rfl (by decide)) ?_
    refine Eq.trans (x21r (r := a0) (cl := 12) (o := 24) (h := 26) hT rfl ha0 (by decide) rfl) ?_
    refine Eq.trans (x1 (h := 27) hT rfl rfl (by decide)) ?_
    refine Eq.trans (x24 (r := (a0 + 24)) (n := 9) (h := 28) hT rfl (Or.inl (kd_12_32 ha0)) (ln_12_32 ha0)) ?_
    refine xig (fun hz4 => ?_)
    refine Eq.trans (x17_1 (h := 29) hT rfl) ?_
    refine xit (fun _ => ?_) (fun _ => ?_)
    · refine Eq.trans (x1 (h := 49) hT rfl rfl (by decide)) ?_
      refine Eq.trans (x21r (r := a0) (cl := 12) (o := 24) (h := 50) hT rfl ha0 (by decide) rfl) ?_
      refine Eq.trans (x1 (h := 51) hT rfl rfl (by decide)) ?_
      refine Eq.trans (x1 (h := 52) hT rfl rfl (by decide)) ?_
      refine Eq.trans (x25a (r := (a0 + 24)) (n := 9) (h := 53) hT rfl (kd_12_32 ha0) (ln_12_32 ha0) (by decide) rfl) ?_
      refine xig (fun hz5 => ?_)
      refine Eq.trans (x1 (h := 54) hT rfl rfl (by decide)) ?_
      refine Eq.trans (x21r (r := a0) (cl := 12) (o := 25) (h := 55) hT rfl ha0 (by decide) rfl) ?_
      refine Eq.trans (x1 (h := 56) hT rfl rfl (by decide)) ?_
      refine Eq.trans (x1 (h := 57) hT rfl rfl (by decide)) ?_
      refine Eq.trans (x25a (r := (a0 + 25)) (n := 9) (h := 58) hT rfl (kd_12_33 ha0) (ln_12_33 ha0) (by decide) rfl) ?_
      refine xig (fun hz6 => ?_)
      refine Eq.trans (x1 (h := 59) hT rfl rfl (by decide)) ?_
      refine Eq.trans (x21r (r := a0) (cl := 12) (o := 26) (h := 60) hT rfl ha0 (by decide) rfl) ?_
      refine Eq.trans (x1 (h := 61) hT rfl rfl (by decide)) ?_
      refine Eq.trans (x1 (h := 62) hT rfl rfl (by decide)) ?_
      refine Eq.trans (x25a (r := (a0 + 26)) (n := 9) (h := 63) hT rfl (kd_12_34 ha0) (ln_12_34 ha0) (by decide) rfl) ?_
      refine xig (fun hz7 => ?_)
      exact x20 (h := 64) hT rfl
    · refine Eq.trans (x1 (h := 30) hT rfl rfl (by decide)) ?_
      refine Eq.trans (x1 (h := 31) hT rfl rfl (by decide)) ?_
      refine Eq.trans (x21r (r := a0) (cl := 12) (o := 25) (h := 32) hT rfl ha0 (by decide) rfl) ?_
      refine Eq.trans (x1 (h := 33) hT rfl rfl (by decide)) ?_
      refine Eq.trans (x24 (r := (a0 + 25)) (n := 9) (h := 34) hT rfl (Or.inl (kd_12_33 ha0)) (ln_12_33 ha0)) ?_
      refine xig (fun hz8 => ?_)
      refine Eq.trans (x17_4 (h := 35) hT rfl) ?_
      refine xit (fun _ => ?_) (fun _ => ?_)
      · exact x20 (h := 48) hT rfl
      · refine Eq.trans (x1 (h := 36) hT rfl rfl (by decide)) ?_
        refine Eq.trans (x1 (h := 37) hT rfl rfl (by decide)) ?_
        refine Eq.trans (x21r (r := a0) (cl := 12) (o := 25) (h := 38) hT rfl ha0 (by decide) rfl) ?_
        refine Eq.trans (x1 (h := 39) hT rfl rfl (by decide)) ?_
        refine Eq.trans (x24 (r := (a0 + 25)) (n := 9) (h := 40) hT rfl (Or.inl (kd_12_33 ha0)) (ln_12_33 ha0)) ?_
        refine xig (fun hz9 => ?_)
        refine Eq.trans (x17_1 (h := 41) hT rfl) ?_
        refine xit (fun _ => ?_) (fun _ => ?_)
        · refine Eq.trans (x1 (h := 49) hT rfl rfl (by decide)) ?_
          refine Eq.trans (x21r (r := a0) (cl := 12) (o := 24) (h := 50) hT rfl ha0 (by decide) rfl) ?_
          refine Eq.trans (x1 (h := 51) hT rfl rfl (by decide)) ?_
          refine Eq.trans (x1 (h := 52) hT rfl rfl (by decide)) ?_
          refine Eq.trans (x25a (r := (a0 + 24)) (n := 9) (h := 53) hT rfl (kd_12_32 ha0) (ln_12_32 ha0) (by decide) rfl) ?_
          refine xig (fun hz10 => ?_)
          refine Eq.trans (x1 (h := 54) hT rfl rfl (by decide)) ?_
          refine Eq.trans (x21r (r := a0) (cl := 12) (o := 25) (h := 55) hT rfl ha0 (by decide) rfl) ?_
          refine Eq.trans (x1 (h := 56) hT rfl rfl (by decide)) ?_
          refine Eq.trans (x1 (h := 57) hT rfl rfl (by decide)) ?_
          refine Eq.trans (x25a (r := (a0 + 25)) (n := 9) (h := 58) hT rfl (kd_12_33 ha0) (ln_12_33 ha0) (by decide) rfl) ?_
          refine xig (fun hz11 => ?_)
          refine Eq.trans (x1 (h := 59) hT rfl rfl (by decide)) ?_
          refine Eq.trans (x21r (r := a0) (cl := 12) (o := 26) (h := 60) hT rfl ha0 (by decide) rfl) ?_
          refine Eq.trans (x1 (h := 61) hT rfl rfl (by decide)) ?_
          refine Eq.trans (x1 (h := 62) hT rfl rfl (by decide)) ?_
          refine Eq.trans (x25a (r := (a0 + 26)) (n := 9) (h := 63) hT rfl (kd_12_34 ha0) (ln_12_34 ha0) (by decide) rfl) ?_
          refine xig (fun hz12 => ?_)
          exact x20 (h := 64) hT rfl
        · refine Eq.trans (x1 (h := 42) hT rfl rfl (by decide)) ?_
          refine Eq.trans (x1 (h := 43) hT rfl rfl (by decide)) ?_
          refine Eq.trans (x21r (r := a0) (cl := 12) (o := 26) (h := 44) hT rfl ha0 (by decide) rfl) ?_
          refine Eq.trans (x1 (h := 45) hT rfl rfl (by decide)) ?_
          refine Eq.trans (x24 (r := (a0 + 26)) (n := 9) (h := 46) hT rfl (Or.inl (kd_12_34 ha0)) (ln_12_34 ha0)) ?_
          refine xig (fun hz13 => ?_)
          refine Eq.trans (x17_5 (h := 47) hT rfl) ?_
          refine xit (fun _ => ?_) (fun _ => ?_)
          · refine Eq.trans (x1 (h := 49) hT rfl rfl (by decide)) ?_
            refine Eq.trans (x21r (r := a0) (cl := 12) (o := 24) (h := 50) hT rfl ha0 (by decide) rfl) ?_
            refine Eq.trans (x1 (h := 51) hT rfl rfl (by decide)) ?_
            refine Eq.trans (x1 (h := 52) hT rfl rfl (by decide)) ?_
            refine Eq.trans (x25a (r := (a0 + 24)) (n := 9) (h := 53) hT rfl (kd_12_32 ha0) (ln_12_32 ha0) (by decide) rfl) ?_
            refine xig (fun hz14 => ?_)
            refine Eq.trans (x1 (h := 54) hT rfl rfl (by decide)) ?_
            refine Eq.trans (x21r (r := a0) (cl := 12) (o := 25) (h := 55) hT rfl ha0 (by decide) rfl) ?_
            refine Eq.trans (x1 (h := 56) hT rfl rfl (by decide)) ?_
            refine Eq.trans (x1 (h := 57) hT rfl rfl (by decide)) ?_
            refine Eq.trans (x25a (r := (a0 + 25)) (n := 9) (h := 58) hT rfl (kd_12_33 ha0) (ln_12_33 ha0) (by decide) rfl) ?_
            refine xig (fun hz15 => ?_)
            refine Eq.trans (x1 (h := 59) hT rfl rfl (by decide)) ?_
            refine Eq.trans (x21r (r := a0) (cl := 12) (o := 26) (h := 60) hT rfl ha0 (by decide) rfl) ?_
            refine Eq.trans (x1 (h := 61) hT rfl rfl (by decide)) ?_
            refine Eq.trans (x1 (h := 62) hT rfl rfl (by decide)) ?_
            refine Eq.trans (x25a (r := (a0 + 26)) (n := 9) (h := 63) hT rfl (kd_12_34 ha0) (ln_12_34 ha0) (by decide) rfl) ?_
            refine xig (fun hz16 => ?_)
            exact x20 (h := 64) hT rfl
          · exact x20 (h := 48) hT rfl
/-! WordLinksModel.others(II)I -/
set_option maxRecDepth 100000 in
theorem e_65 {P : zP} {d : zD P} {a0 : Nat} {a1 : Int} {a2 : Int} (ha0 : zkd a0 = 12) : MM P 65 [(2, ((a0 : Nat) : Int)), (0, a1), (0, a2)] d = zB P 65 4 [(2, ((a0 : Nat) : Int)), (0, a1), (0, a2), (0, 0), (0, 0)] [] d := by
  have hT := cT_65
  refine Eq.trans (MM_def sm_65 (Nat.le_of_ble_eq_true rfl)) ?_
  change zB P 65 0 [(2, ((a0 : Nat) : Int)), (0, a1), (0, a2), (3, 0), (3, 0)] [] d = _
  refine Eq.trans (x0 (h := 0) hT rfl) ?_
  refine Eq.trans (x2 (ls' := [(2, ((a0 : Nat) : Int)), (0, a1), (0, a2), (0, 0), (3, 0)]) (h := 1) hT rfl (Nat.le_of_ble_eq_true rfl) rfl) ?_
  refine Eq.trans (x0 (h := 2) hT rfl) ?_
  refine Eq.trans (x2 (ls' := [(2, ((a0 : Nat) : Int)), (0, a1), (0, a2), (0, 0), (0, 0)]) (h := 3) hT rfl (Nat.le_of_ble_eq_true rfl) rfl) ?_
  exact rfl
set_option maxRecDepth 100000 in
theorem q_65_4 {P : zP} {d : zD P} {a0 : Nat} {a1 : Int} {a2 : Int} {a3 : Int} {a4 : Int} (ha0 : zkd a0 = 12) : zB P 65 4 [(2, ((a0 : Nat) : Int)), (0, a1), (0, a2), (0, a3), (0, a4)] [] d = (if wr 1600 ≤ wr a4 then some (a3, d) else (if zin (((1144 + (1600 * a1)) + a4)) 18180 then (if zin (((((4545 * a2) + 1144) + (1600 * a1)) + a4)) 18180 then (if wr ((d.m ((a0 + 1)) (zix (((1144 + (1600 * a1)) + a4))))) = wr ((d.m ((a0 + 1)) (zix (((((4545 * a2) + 1144) + (1600 * a1)) + a4))))) then zB P 65 4 [(2, ((a0 : Nat) : Int)), (0, a1), (0, a2), (0, a3), (0, (a4 + 1))] [] d else zB P 65 4 [(2, ((a0 : Nat) : Int)), (0, a1), (0, a2), (0, (a3 + 1)), (0, (a4 + 1))] [] d) else none) else none)) := by
  have hT := cT_65
  refine Eq.trans (x1 (h := 4) hT rfl rfl (by decide)) ?_
  refine Eq.trans (x0 (h := 5) hT rfl) ?_
  refine Eq.trans (x17_3 (h := 6) hT rfl) ?_
  refine xit (fun _ => ?_) (fun _ => ?_)
  · refine Eq.trans (x1 (h := 38) hT rfl rfl (by decide)) ?_
    exact x201 (h := 39) hT rfl
  · refine Eq.trans (x1 (h := 7) hT rfl rfl (by decide)) ?_
    refine Eq.trans (x21r (r := a0) (cl := 12) (o := 1) (h := 8) hT rfl ha0 (by decide) rfl) ?_
    refine Eq.trans (x0 (h := 9) hT rfl) ?_
    refine Eq.trans (x0 (h := 10) hT rfl) ?_
    refine Eq.trans (x1 (h := 11) hT rfl rfl (by decide)) ?_
    refine Eq.trans (x5_2 (h := 12) hT rfl) ?_
    refine Eq.trans (x5_0 (h := 13) hT rfl) ?_
    refine Eq.trans (x1 (h := 14) hT rfl rfl (by decide)) ?_
    refine Eq.trans (x5_0 (h := 15) hT rfl) ?_
    refine Eq.trans (x24 (r := (a0 + 1)) (n := 18180) (h := 16) hT rfl (Or.inl (kd_12_0 ha0)) (ln_12_0 ha0)) ?_
    refine xig (fun hz1 => ?_)
    refine Eq.trans (x1 (h := 17) hT rfl rfl (by decide)) ?_
    refine Eq.trans (x21r (r := a0) (cl := 12) (o := 1) (h := 18) hT rfl ha0 (by decide) rfl) ?_
    refine Eq.trans (x0 (h := 19) hT rfl) ?_
    refine Eq.trans (x1 (h := 20) hT rfl rfl (by decide)) ?_
    refine Eq.trans (x5_2 (h := 21) hT rfl) ?_
    refine Eq.trans (x0 (h := 22) hT rfl) ?_
    refine Eq.trans (x5_0 (h := 23) hT rfl) ?_
    refine Eq.trans (x0 (h := 24) hT rfl) ?_
    refine Eq.trans (x1 (h := 25) hT rfl rfl (by decide)) ?_
    refine Eq.trans (x5_2 (h := 26) hT rfl) ?_
    refine Eq.trans (x5_0 (h := 27) hT rfl) ?_
    refine Eq.trans (x1 (h := 28) hT rfl rfl (by decide)) ?_
    refine Eq.trans (x5_0 (h := 29) hT rfl) ?_
    refine Eq.trans (x24 (r := (a0 + 1)) (n := 18180) (h := 30) hT rfl (Or.inl (kd_12_0 ha0)) (ln_12_0 ha0)) ?_
    refine xig (fun hz2 => ?_)
    refine Eq.trans (x17_0 (h := 31) hT rfl) ?_
    refine xit (fun _ => ?_) (fun _ => ?_)
    · refine Eq.trans (x4 (ls' := [(2, ((a0 : Nat) : Int)), (0, a1), (0, a2), (0, a3), (0, (a4 + 1))]) (h := 36) hT rfl rfl rfl) ?_
      refine Eq.trans (x18 (h := 37) hT rfl) ?_
      exact rfl
    · refine Eq.trans (x1 (h := 32) hT rfl rfl (by decide)) ?_
      refine Eq.trans (x0 (h := 33) hT rfl) ?_
      refine Eq.trans (x5_0 (h := 34) hT rfl) ?_
      refine Eq.trans (x2 (ls' := [(2, ((a0 : Nat) : Int)), (0, a1), (0, a2), (0, (a3 + 1)), (0, a4)]) (h := 35) hT rfl (Nat.le_of_ble_eq_true rfl) rfl) ?_
      refine Eq.trans (x4 (ls' := [(2, ((a0 : Nat) : Int)), (0, a1), (0, a2), (0, (a3 + 1)), (0, (a4 + 1))]) (h := 36) hT rfl rfl rfl) ?_
      refine Eq.trans (x18 (h := 37) hT rfl) ?_
      exact rfl
/-! WordLinksModel.partAt(IIII)I -/
set_option maxRecDepth 100000 in
theorem e_66 {P : zP} {d : zD P} {a0 : Int} {a1 : Int} {a2 : Int} {a3 : Int} : MM P 66 [(0, a0), (0, a1), (0, a2), (0, a3)] d = some (((((216 * a0) + (36 * a1)) + (6 * a2)) + a3), d) := by
  have hT := cT_66
  refine Eq.trans (MM_def sm_66 (Nat.le_of_ble_eq_true rfl)) ?_
  change zB P 66 0 [(0, a0), (0, a1), (0, a2), (0, a3)] [] d = _
  refine Eq.trans (x0 (h := 0) hT rfl) ?_
  refine Eq.trans (x1 (h := 1) hT rfl rfl (by decide)) ?_
  refine Eq.trans (x5_2 (h := 2) hT rfl) ?_
  refine Eq.trans (x0 (h := 3) hT rfl) ?_
  refine Eq.trans (x1 (h := 4) hT rfl rfl (by decide)) ?_
  refine Eq.trans (x5_2 (h := 5) hT rfl) ?_
  refine Eq.trans (x5_0 (h := 6) hT rfl) ?_
  refine Eq.trans (x0 (h := 7) hT rfl) ?_
  refine Eq.trans (x1 (h := 8) hT rfl rfl (by decide)) ?_
  refine Eq.trans (x5_2 (h := 9) hT rfl) ?_
  refine Eq.trans (x5_0 (h := 10) hT rfl) ?_
  refine Eq.trans (x1 (h := 11) hT rfl rfl (by decide)) ?_
  refine Eq.trans (x5_0 (h := 12) hT rfl) ?_
  exact x201 (h := 13) hT rfl
/-! WordLinksModel.parts(I)V -/
set_option maxRecDepth 100000 in
theorem e_67 {P : zP} {d : zD P} {a0 : Nat} {a1 : Int} (ha0 : zkd a0 = 12) : MM P 67 [(2, ((a0 : Nat) : Int)), (0, a1)] d = zB P 67 4 [(2, ((a0 : Nat) : Int)), (0, a1), (1, 0), (3, 0), (0, 0), (3, 0), (3, 0)] [] d := by
  have hT := cT_67
  refine Eq.trans (MM_def sm_67 (Nat.le_of_ble_eq_true rfl)) ?_
  change zB P 67 0 [(2, ((a0 : Nat) : Int)), (0, a1), (3, 0), (3, 0), (3, 0), (3, 0), (3, 0)] [] d = _
  refine Eq.trans (x0 (h := 0) hT rfl) ?_
  refine Eq.trans (x3 (ls' := [(2, ((a0 : Nat) : Int)), (0, a1), (1, 0), (3, 0), (3, 0), (3, 0), (3, 0)]) (h := 1) hT rfl (Nat.le_of_ble_eq_true rfl) rfl) ?_
  refine Eq.trans (x0 (h := 2) hT rfl) ?_
  refine Eq.trans (x2 (ls' := [(2, ((a0 : Nat) : Int)), (0, a1), (1, 0), (3, 0), (0, 0), (3, 0), (3, 0)]) (h := 3) hT rfl (Nat.le_of_ble_eq_true rfl) rfl) ?_
  exact rfl
set_option maxRecDepth 100000 in
theorem q_67_4 {P : zP} {d : zD P} {a0 : Nat} {a1 : Int} {a2 : Int} {g3 : zV} {a4 : Int} {g5 : zV} {g6 : zV} (ha0 : zkd a0 = 12) : zB P 67 4 [(2, ((a0 : Nat) : Int)), (0, a1), (1, a2), g3, (0, a4), g5, g6] [] d = (if wr a1 ≤ wr a4 then zB P 67 18 [(2, ((a0 : Nat) : Int)), (0, a1), (1, a2), (if (g3).1 = 1 then (3, 0) else g3), (0, 0), g5, g6] [] d else (if zin a4 40 then zB P 67 4 [(2, ((a0 : Nat) : Int)), (0, a1), (1, (a2 + (d.m ((a0 + 11)) (zix a4)))), (3, 0), (0, (a4 + 1)), g5, g6] [] d else none)) := by
  have hT := cT_67
  refine Eq.trans (x1 (h := 4) hT rfl rfl (by decide)) ?_
  refine Eq.trans (x1 (h := 5) hT rfl rfl (by decide)) ?_
  refine Eq.trans (x17_3 (h := 6) hT rfl) ?_
  refine xit (fun _ => ?_) (fun _ => ?_)
  · refine Eq.trans (x0 (h := 16) hT rfl) ?_
    refine Eq.trans (x2 (ls' := [(2, ((a0 : Nat) : Int)), (0, a1), (1, a2), (if (g3).1 = 1 then (3, 0) else g3), (0, 0), g5, g6]) (h := 17) hT rfl (Nat.le_of_ble_eq_true rfl) rfl) ?_
    exact rfl
  · refine Eq.trans (x1 (h := 7) hT rfl rfl (by decide)) ?_
    refine Eq.trans (x1 (h := 8) hT rfl rfl (by decide)) ?_
    refine Eq.trans (x21r (r := a0) (cl := 12) (o := 11) (h := 9) hT rfl ha0 (by decide) rfl) ?_
    refine Eq.trans (x1 (h := 10) hT rfl rfl (by decide)) ?_
    refine Eq.trans (x24 (r := (a0 + 11)) (n := 40) (h := 11) hT rfl (Or.inl (kd_12_18 ha0)) (ln_12_18 ha0)) ?_
    refine xig (fun hz1 => ?_)
    refine Eq.trans (x8_0 (h := 12) hT rfl) ?_
    refine Eq.trans (x3 (ls' := [(2, ((a0 : Nat) : Int)), (0, a1), (1, (a2 + (d.m ((a0 + 11)) (zix a4)))), (3, 0), (0, a4), g5, g6]) (h := 13) hT rfl (Nat.le_of_ble_eq_true rfl) rfl) ?_
    refine Eq.trans (x4 (ls' := [(2, ((a0 : Nat) : Int)), (0, a1), (1, (a2 + (d.m ((a0 + 11)) (zix a4)))), (3, 0), (0, (a4 + 1)), g5, g6]) (h := 14) hT rfl rfl rfl) ?_
    refine Eq.trans (x18 (h := 15) hT rfl) ?_
    exact rfl
set_option maxRecDepth 100000 in
theorem q_67_18 {P : zP} {d : zD P} {a0 : Nat} {a1 : Int} {a2 : Int} {g3 : zV} {a4 : Int} {g5 : zV} {g6 : zV} (ha0 : zkd a0 = 12) : zB P 67 18 [(2, ((a0 : Nat) : Int)), (0, a1), (1, a2), g3, (0, a4), g5, g6] [] d = (if wr a1 ≤ wr a4 then (if wrl a2 ≠ wrl 0 then zB P 67 43 [(2, ((a0 : Nat) : Int)), (0, a1), (1, a2), (if (g3).1 = 1 then (3, 0) else g3), (0, 100000), (0, 0), g6] [] d else zB P 67 43 [(2, ((a0 : Nat) : Int)), (0, a1), (1, (wr a1)), (3, 0), (0, 100000), (0, 0), g6] [] d) else (if wrl a2 ≠ wrl 0 then (if wrl a2 ≠ wrl 0 then zB P 67 43 [(2, ((a0 : Nat) : Int)), (0, a1), (1, a2), (if (g3).1 = 1 then (3, 0) else g3), (0, 100000), (0, 0), g6] [] d else zB P 67 43 [(2, ((a0 : Nat) : Int)), (0, a1), (1, (wr a1)), (3, 0), (0, 100000), (0, 0), g6] [] d) else (if zin a4 40 then zB P 67 18 [(2, ((a0 : Nat) : Int)), (0, a1), (1, a2), (if (g3).1 = 1 then (3, 0) else g3), (0, (a4 + 1)), g5, g6] [] ((d.up ((a0 + 11)) (zix a4) 1)) else none))) := by
  have hT := cT_67
  refine Eq.trans (x1 (h := 18) hT rfl rfl (by decide)) ?_
  refine Eq.trans (x1 (h := 19) hT rfl rfl (by decide)) ?_
  refine Eq.trans (x17_3 (h := 20) hT rfl) ?_
  refine xit (fun _ => ?_) (fun _ => ?_)
  · refine Eq.trans (x1 (h := 32) hT rfl rfl (by decide)) ?_
    refine Eq.trans (x0 (h := 33) hT rfl) ?_
    refine Eq.trans (x116_1 (h := 34) hT rfl rfl) ?_
    refine xit (fun _ => ?_) (fun _ => ?_)
    · refine Eq.trans (x0 (h := 39) hT rfl) ?_
      refine Eq.trans (x2 (ls' := [(2, ((a0 : Nat) : Int)), (0, a1), (1, a2), (if (g3).1 = 1 then (3, 0) else g3), (0, 100000), g5, g6]) (h := 40) hT rfl (Nat.le_of_ble_eq_true rfl) rfl) ?_
      refine Eq.trans (x0 (h := 41) hT rfl) ?_
      refine Eq.trans (x2 (ls' := [(2, ((a0 : Nat) : Int)), (0, a1), (1, a2), (if (g3).1 = 1 then (3, 0) else g3), (0, 100000), (0, 0), g6]) (h := 42) hT rfl (Nat.le_of_ble_eq_true rfl) rfl) ?_
      exact rfl
    · refine Eq.trans (x1 (h := 36) hT rfl rfl (by decide)) ?_
      refine Eq.trans (x12 (h := 37) hT rfl) ?_
      refine Eq.trans (x3 (ls' := [(2, ((a0 : Nat) : Int)), (0, a1), (1, (wr a1)), (3, 0), (0, a4), g5, g6]) (h := 38) hT rfl (Nat.le_of_ble_eq_true rfl) rfl) ?_
      refine Eq.trans (x0 (h := 39) hT rfl) ?_
      refine Eq.trans (x2 (ls' := [(2, ((a0 : Nat) : Int)), (0, a1), (1, (wr a1)), (3, 0), (0, 100000), g5, g6]) (h := 40) hT rfl (Nat.le_of_ble_eq_true rfl) rfl) ?_
      refine Eq.trans (x0 (h := 41) hT rfl) ?_
      refine Eq.trans (x2 (ls' := [(2, ((a0 : Nat) : Int)), (0, a1), (1, (wr a1)), (3, 0), (0, 100000), (0, 0), g6]) (h := 42) hT rfl (Nat.le_of_ble_eq_true rfl) rfl) ?_
      exact rfl
  · refine Eq.trans (x1 (h := 21) hT rfl rfl (by decide)) ?_
    refine Eq.trans (x0 (h := 22) hT rfl) ?_
    refine Eq.trans (x116_1 (h := 23) hT rfl rfl) ?_
    refine xit (fun _ => ?_) (fun _ => ?_)
    · refine Eq.trans (x1 (h := 32) hT rfl rfl (by decide)) ?_
      refine Eq.trans (x0 (h := 33) hT rfl) ?_
      refine Eq.trans (x116_1 (h := 34) hT rfl rfl) ?_
      refine xit (fun _ => ?_) (fun _ => ?_)
      · refine Eq.trans (x0 (h := 39) hT rfl) ?_
        refine Eq.trans (x2 (ls' := [(2, ((a0 : Nat) : Int)), (0, a1), (1, a2), (if (g3).1 = 1 then (3, 0) else g3), (0, 100000), g5, g6]) (h := 40) hT rfl (Nat.le_of_ble_eq_true rfl) rfl) ?_
        refine Eq.trans (x0 (h := 41) hT rfl) ?_
        refine Eq.trans (x2 (ls' := [(2, ((a0 : Nat) : Int)), (0, a1), (1, a2), (if (g3).1 = 1 then (3, 0) else g3), (0, 100000), (0, 0), g6]) (h := 42) hT rfl (Nat.le_of_ble_eq_true rfl) rfl) ?_
        exact rfl
      · refine Eq.trans (x1 (h := 36) hT rfl rfl (by decide)) ?_
        refine Eq.trans (x12 (h := 37) hT rfl) ?_
        refine Eq.trans (x3 (ls' := [(2, ((a0 : Nat) : Int)), (0, a1), (1, (wr a1)), (3, 0), (0, a4), g5, g6]) (h := 38) hT rfl (Nat.le_of_ble_eq_true rfl) rfl) ?_
        refine Eq.trans (x0 (h := 39) hT rfl) ?_
        refine Eq.trans (x2 (ls' := [(2, ((a0 : Nat) : Int)), (0, a1), (1, (wr a1)), (3, 0), (0, 100000), g5, g6]) (h := 40) hT rfl (Nat.le_of_ble_eq_true rfl) rfl) ?_
        refine Eq.trans (x0 (h := 41) hT rfl) ?_
        refine Eq.trans (x2 (ls' := [(2, ((a0 : Nat) : Int)), (0, a1), (1, (wr a1)), (3, 0), (0, 100000), (0, 0), g6]) (h := 42) hT rfl (Nat.le_of_ble_eq_true rfl) rfl) ?_
        exact rfl
    · refine Eq.trans (x1 (h := 25) hT rfl rfl (by decide)) ?_
      refine Eq.trans (x21r (r := a0) (cl := 12) (o := 11) (h := 26) hT rfl ha0 (by decide) rfl) ?_
      refine Eq.trans (x1 (h := 27) hT rfl rfl (by decide)) ?_
      refine Eq.trans (x0 (h := 28) hT rfl) ?_
      refine Eq.trans (x25a (r := (a0 + 11)) (n := 40) (h := 29) hT rfl (kd_12_18 ha0) (ln_12_18 ha0) (by decide) rfl) ?_
      refine xig (fun hz2 => ?_)
      refine Eq.trans (x4 (ls' := [(2, ((a0 : Nat) : Int)), (0, a1), (1, a2), (if (g3).1 = 1 then (3, 0) else g3), (0, (a4 + 1)), g5, g6]) (h := 30) hT rfl rfl rfl) ?_
      refine Eq.trans (x18 (h := 31) hT rfl) ?_
      exact rfl
set_option maxRecDepth 100000 in
theorem q_67_43 {P : zP} {d : zD P} {a0 : Nat} {a1 : Int} {a2 : Int} {g3 : zV} {a4 : Int} {a5 : Int} {g6 : zV} (ha0 : zkd a0 = 12) : zB P 67 43 [(2, ((a0 : Nat) : Int)), (0, a1), (1, a2), g3, (0, a4), (0, a5), g6] [] d = (if wr a1 ≤ wr a5 then zB P 67 80 [(2, ((a0 : Nat) : Int)), (0, a1), (1, a2), g3, (0, a4), (0, a5), g6] [] d else (if zin a5 40 then (if wrl a2 ≠ 0 then (if zin a5 40 then (if zin a5 40 then (if wrl a2 ≠ 0 then (if zin a5 40 then (if zin a5 40 then zB P 67 43 [(2, ((a0 : Nat) : Int)), (0, a1), (1, a2), (if (g3).1 = 1 then (3, 0) else g3), (0, (a4 - (((((d.up ((a0 + 13)) (zix a5) ((zldiv 0 ((100000 * (d.m ((a0 + 11)) (zix a5)))) a2)))).up ((a0 + 12)) (zix a5) ((zldiv 1 ((100000 * (((d.up ((a0 + 13)) (zix a5) ((zldiv 0 ((100000 * (d.m ((a0 + 11)) (zix a5)))) a2)))).m ((a0 + 11)) (zix a5)))) a2)))).m ((a0 + 13)) (zix a5)))), (0, (a5 + 1)), g6] [] ((((d.up ((a0 + 13)) (zix a5) ((zldiv 0 ((100000 * (d.m ((a0 + 11)) (zix a5)))) a2)))).up ((a0 + 12)) (zix a5) ((zldiv 1 ((100000 * (((d.up ((a0 + 13)) (zix a5) ((zldiv 0 ((100000 * (d.m ((a0 + 11)) (zix a5)))) a2)))).m ((a0 + 11)) (zix a5)))) a2)))) else none) else none) else none) else none) else none) else none) else none)) := by
  have hT := cT_67
  refine Eq.trans (x1 (h := 43) hT rfl rfl (by decide)) ?_
  refine Eq.trans (x1 (h := 44) hT rfl rfl (by decide)) ?_
  refine Eq.trans (x17_3 (h := 45) hT rfl) ?_
  refine xit (fun _ => ?_) (fun _ => ?_)
  · exact rfl
  · refine Eq.trans (x1 (h := 46) hT rfl rfl (by decide)) ?_
    refine Eq.trans (x21r (r := a0) (cl := 12) (o := 13) (h := 47) hT rfl ha0 (by decide) rfl) ?_
    refine Eq.trans (x1 (h := 48) hT rfl rfl (by decide)) ?_
    refine Eq.trans (x0 (h := 49) hT rfl) ?_
    refine Eq.trans (x1 (h := 50) hT rfl rfl (by decide)) ?_
    refine Eq.trans (x21r (r := a0) (cl := 12) (o := 11) (h := 51) hT rfl ha0 (by decide) rfl) ?_
    refine Eq.trans (x1 (h := 52) hT rfl rfl (by decide)) ?_
    refine Eq.trans (x24 (r := (a0 + 11)) (n := 40) (h := 53) hT rfl (Or.inl (kd_12_18 ha0)) (ln_12_18 ha0)) ?_
    refine xig (fun hz3 => ?_)
    refine Eq.trans (x8_2 (h := 54) hT rfl) ?_
    refine Eq.trans (x1 (h := 55) hT rfl rfl (by decide)) ?_
    refine Eq.trans (x9 (h := 56) hT rfl) ?_
    refine xig (fun hz4 => ?_)
    refine Eq.trans (x121 (h := 57) hT rfl) ?_
    refine Eq.trans (x25a (r := (a0 + 13)) (n := 40) (h := 58) hT rfl (kd_12_20 ha0) (ln_12_20 ha0) (by decide) rfl) ?_
    refine xig (fun hz5 => ?_)
    refine Eq.trans (x1 (h := 59) hT rfl rfl (by decide)) ?_
    refine Eq.trans (x21r (r := a0) (cl := 12) (o := 12) (h := 60) hT rfl ha0 (by decide) rfl) ?_
    refine Eq.trans (x1 (h := 61) hT rfl rfl (by decide)) ?_
    refine Eq.trans (x0 (h := 62) hT rfl) ?_
    refine Eq.trans (x1 (h := 63) hT rfl rfl (by decide)) ?_
    refine Eq.trans (x21r (r := a0) (cl := 12) (o := 11) (h := 64) hT rfl ha0 (by decide) rfl) ?_
    refine Eq.trans (x1 (h := 65) hT rfl rfl (by decide)) ?_
    refine Eq.trans (x24 (r := (a0 + 11)) (n := 40) (h := 66) hT rfl (Or.inl (kd_12_18 ha0)) (ln_12_18 ha0)) ?_
    refine xig (fun hz6 => ?_)
    refine Eq.trans (x8_2 (h := 67) hT rfl) ?_
    refine Eq.trans (x1 (h := 68) hT rfl rfl (by decide)) ?_
    refine Eq.trans (x9 (h := 69) hT rfl) ?_
    refine xig (fun hz7 => ?_)
    refine Eq.trans (x25a (r := (a0 + 12)) (n := 40) (h := 70) hT rfl (kd_12_19 ha0) (ln_12_19 ha0) (by decide) rfl) ?_
    refine xig (fun hz8 => ?_)
    refine Eq.trans (x1 (h := 71) hT rfl rfl (by decide)) ?_
    refine Eq.trans (x1 (h := 72) hT rfl rfl (by decide)) ?_
    refine Eq.trans (x21r (r := a0) (cl := 12) (o := 13) (h := 73) hT rfl ha0 (by decide) rfl) ?_
    refine Eq.trans (x1 (h := 74) hT rfl rfl (by decide)) ?_
    refine Eq.trans (x24 (r := (a0 + 13)) (n := 40) (h := 75) hT rfl (Or.inl (kd_12_20 ha0)) (ln_12_20 ha0)) ?_
    refine xig (fun hz9 => ?_)
    refine Eq.trans (x5_1 (h := 76) hT rfl) ?_
    refine Eq.trans (x2 (ls' := [(2, ((a0 : Nat) : Int)), (0, a1), (1, a2), (if (g3).1 = 1 then (3, 0) else g3), (0, (a4 - (((((d.up ((a0 + 13)) (zix a5) ((zldiv 0 ((100000 * (d.m ((a0 + 11)) (zix a5)))) a2)))).up ((a0 + 12)) (zix a5) ((zldiv 1 ((100000 * (((d.up ((a0 + 13)) (zix a5) ((zldiv 0 ((100000 * (d.m ((a0 + 11)) (zix a5)))) a2)))).m ((a0 + 11)) (zix a5)))) a2)))).m ((a0 + 13)) (zix a5)))), (0, a5), g6]) (h := 77) hT rfl (Nat.le_of_ble_eq_true rfl) rfl) ?_
    refine Eq.trans (x4 (ls' := [(2, ((a0 : Nat) : Int)), (0, a1), (1, a2), (if (g3).1 = 1 then (3, 0) else g3), (0, (a4 - (((((d.up ((a0 + 13)) (zix a5) ((zldiv 0 ((100000 * (d.m ((a0 + 11)) (zix a5)))) a2)))).up ((a0 + 12)) (zix a5) ((zldiv 1 ((100000 * (((d.up ((a0 + 13)) (zix a5) ((zldiv 0 ((100000 * (d.m ((a0 + 11)) (zix a5)))) a2)))).m ((a0 + 11)) (zix a5)))) a2)))).m ((a0 + 13)) (zix a5)))), (0, (a5 + 1)), g6]) (h := 78) hT rfl rfl rfl) ?_
    refine Eq.trans (x18 (h := 79) hT rfl) ?_
    exact rfl
set_option maxRecDepth 100000 in
theorem q_67_80 {P : zP} {d : zD P} {a0 : Nat} {a1 : Int} {g2 : zV} {g3 : zV} {a4 : Int} {g5 : zV} {g6 : zV} (ha0 : zkd a0 = 12) : zB P 67 80 [(2, ((a0 : Nat) : Int)), (0, a1), g2, g3, (0, a4), g5, g6] [] d = (if wr a4 ≤ 0 then some (0, d) else zB P 67 86 [(2, ((a0 : Nat) : Int)), (0, a1), g2, g3, (0, a4), (0, 0), (0, 1)] [] d) := by
  have hT := cT_67
  refine Eq.trans (x1 (h := 80) hT rfl rfl (by decide)) ?_
  refine Eq.trans (x16_5 (h := 81) hT rfl) ?_
  refine xit (fun _ => ?_) (fun _ => ?_)
  · exact x20 (h := 120) hT rfl
  · refine Eq.trans (x0 (h := 82) hT rfl) ?_
    refine Eq.trans (x2 (ls' := [(2, ((a0 : Nat) : Int)), (0, a1), g2, g3, (0, a4), (0, 0), g6]) (h := 83) hT rfl (Nat.le_of_ble_eq_true rfl) rfl) ?_
    refine Eq.trans (x0 (h := 84) hT rfl) ?_
    refine Eq.trans (x2 (ls' := [(2, ((a0 : Nat) : Int)), (0, a1), g2, g3, (0, a4), (0, 0), (0, 1)]) (h := 85) hT rfl (Nat.le_of_ble_eq_true rfl) rfl) ?_
    exact rfl
set_option maxRecDepth 100000 in
theorem q_67_86 {P : zP} {d : zD P} {a0 : Nat} {a1 : Int} {g2 : zV} {g3 : zV} {a4 : Int} {a5 : Int} {a6 : Int} (ha0 : zkd a0 = 12) : zB P 67 86 [(2, ((a0 : Nat) : Int)), (0, a1), g2, g3, (0, a4), (0, a5), (0, a6)] [] d = (if wr a1 ≤ wr a6 then (if zin a5 40 then (if zin a5 40 then (if zin a5 40 then zB P 67 80 [(2, ((a0 : Nat) : Int)), (0, a1), g2, (if (g3).1 = 1 then (3, 0) else g3), (0, (a4 + (-1))), (0, a5), (0, a6)] [] ((((d.up ((a0 + 13)) (zix a5) (((d.m ((a0 + 13)) (zix a5)) + 1)))).up ((a0 + 12)) (zix a5) ((-1)))) else none) else none) else none) else (if zin a6 40 then (if zin a5 40 then (if wrl ((d.m ((a0 + 12)) (zix a6))) ≤ wrl ((d.m ((a0 + 12)) (zix a5))) then zB P 67 86 [(2, ((a0 : Nat) : Int)), (0, a1), g2, g3, (0, a4), (0, a5), (0, (a6 + 1))] [] d else zB P 67 86 [(2, ((a0 : Nat) : Int)), (0, a1), g2, g3, (0, a4), (0, a6), (0, (a6 + 1))] [] d) else none) else none)) := by
  have hT := cT_67
  refine Eq.trans (x1 (h := 86) hT rfl rfl (by decide)) ?_
  refine Eq.trans (x1 (h := 87) hT rfl rfl (by decide)) ?_
  refine Eq.trans (x17_3 (h := 88) hT rfl) ?_
  refine xit (fun _ => ?_) (fun _ => ?_)
  · refine Eq.trans (x1 (h := 103) hT rfl rfl (by decide)) ?_
    refine Eq.trans (x21r (r := a0) (cl := 12) (o := 13) (h := 104) hT rfl ha0 (by decide) rfl) ?_
    refine Eq.trans (x1 (h := 105) hT rfl rfl (by decide)) ?_
    refine Eq.trans (x1 (h := 106) hT rfl rfl (by decide)) ?_
    refine Eq.trans (x21r (r := a0) (cl := 12) (o := 13) (h := 107) hT rfl ha0 (by decide) rfl) ?_
    refine Eq.trans (x1 (h := 108) hT rfl rfl (by decide)) ?_
    refine Eq.trans (x24 (r := (a0 + 13)) (n := 40) (h := 109) hT rfl (Or.inl (kd_12_20 ha0)) (ln_12_20 ha0)) ?_
    refine xig (fun hz10 => ?_)
    refine Eq.trans (x0 (h := 110) hT rfl) ?_
    refine Eq.trans (x5_0 (h := 111) hT rfl) ?_
    refine Eq.trans (x25a (r := (a0 + 13)) (n := 40) (h := 112) hT rfl (kd_12_20 ha0) (ln_12_20 ha0) (by decide) rfl) ?_
    refine xig (fun hz11 => ?_)
    refine Eq.trans (x1 (h := 113) hT rfl rfl (by decide)) ?_
    refine Eq.trans (x21r (r := a0) (cl := 12) (o := 12) (h := 114) hT rfl ha0 (by decide) rfl) ?_
    refine Eq.trans (x1 (h := 115) hT rfl rfl (by decide)) ?_
    refine Eq.trans (x0 (h := 116) hT rfl) ?_
    refine Eq.trans (x25a (r := (a0 + 12)) (n := 40) (h := 117) hT rfl (kd_12_19 ha0) (ln_12_19 ha0) (by decide) rfl) ?_
    refine xig (fun hz12 => ?_)
    refine Eq.trans (x4 (ls' := [(2, ((a0 : Nat) : Int)), (0, a1), g2, (if (g3).1 = 1 then (3, 0) else g3), (0, (a4 + (-1))), (0, a5), (0, a6)]) (h := 118) hT rfl rfl rfl) ?_
    refine Eq.trans (x18 (h := 119) hT rfl) ?_
    exact rfl
  · refine Eq.trans (x1 (h := 89) hT rfl rfl (by decide)) ?_
    refine Eq.trans (x21r (r := a0) (cl := 12) (o := 12) (h := 90) hT rfl ha0 (by decide) rfl) ?_
    refine Eq.trans (x1 (h := 91) hT rfl rfl (by decide)) ?_
    refine Eq.trans (x24 (r := (a0 + 12)) (n := 40) (h := 92) hT rfl (Or.inl (kd_12_19 ha0)) (ln_12_19 ha0)) ?_
    refine xig (fun hz13 => ?_)
    refine Eq.trans (x1 (h := 93) hT rfl rfl (by decide)) ?_
    refine Eq.trans (x21r (r := a0) (cl := 12) (o := 12) (h := 94) hT rfl ha0 (by decide) rfl) ?_
    refine Eq.trans (x1 (h := 95) hT rfl rfl (by decide)) ?_
    refine Eq.trans (x24 (r := (a0 + 12)) (n := 40) (h := 96) hT rfl (Or.inl (kd_12_19 ha0)) (ln_12_19 ha0)) ?_
    refine xig (fun hz14 => ?_)
    refine Eq.trans (x116_5 (h := 97) hT rfl rfl) ?_
    refine xit (fun _ => ?_) (fun _ => ?_)
    · refine Eq.trans (x4 (ls' := [(2, ((a0 : Nat) : Int)), (0, a1), g2, g3, (0, a4), (0, a5), (0, (a6 + 1))]) (h := 101) hT rfl rfl rfl) ?_
      refine Eq.trans (x18 (h := 102) hT rfl) ?_
      exact rfl
    · refine Eq.trans (x1 (h := 99) hT rfl rfl (by decide)) ?_
      refine Eq.trans (x2 (ls' := [(2, ((a0 : Nat) : Int)), (0, a1), g2, g3, (0, a4), (0, a6), (0, a6)]) (h := 100) hT rfl (Nat.le_of_ble_eq_true rfl) rfl) ?_
      refine Eq.trans (x4 (ls' := [(2, ((a0 : Nat) : Int)), (0, a1), g2, g3, (0, a4), (0, a6), (0, (a6 + 1))]) (h := 101) hT rfl rfl rfl) ?_
      refine Eq.trans (x18 (h := 102) hT rfl) ?_
      exact rfl
/-! WordLinksModel.placed(Z)Z -/
set_option maxRecDepth 100000 in
theorem e_68 {P : zP} {d : zD P} {a0 : Nat} {a1 : Int} (ha0 : zkd a0 = 12) : MM P 68 [(2, ((a0 : Nat) : Int)), (0, a1)] d = (if zin 3 18180 then (if wr a1 = 0 then (if wr ((d.m ((a0 + 1)) (zix 3))) ≠ wr 0 then (if wr a1 = 0 then (if zin 3 18180 then some (1, (d.up ((a0 + 1)) (zix 3) 0)) else none) else (if zin 3 18180 then some (1, (d.up ((a0 + 1)) (zix 3) 1)) else none)) else some (0, d)) else (if wr ((d.m ((a0 + 1)) (zix 3))) ≠ wr 1 then (if wr a1 = 0 then (if zin 3 18180 then some (1, (d.up ((a0 + 1)) (zix 3) 0)) else none) else (if zin 3 18180 then some (1, (d.up ((a0 + 1)) (zix 3) 1)) else none)) else some (0, d))) else none) := by
  have hT := cT_68
  refine Eq.trans (MM_def sm_68 (Nat.le_of_ble_eq_true rfl)) ?_
  change zB P 68 0 [(2, ((a0 : Nat) : Int)), (0, a1)] [] d = _
  refine Eq.trans (x1 (h := 0) hT rfl rfl (by decide)) ?_
  refine Eq.trans (x21r (r := a0) (cl := 12) (o := 1) (h := 1) hT rfl ha0 (by decide) rfl) ?_
  refine Eq.trans (x0 (h := 2) hT rfl) ?_
  refine Eq.trans (x24 (r := (a0 + 1)) (n := 18180) (h := 3) hT rfl (Or.inl (kd_12_0 ha0)) (ln_12_0 ha0)) ?_
  refine xig (fun hz1 => ?_)
  refine Eq.trans (x1 (h := 4) hT rfl rfl (by decide)) ?_
  refine Eq.trans (x16_0 (h := 5) hT rfl) ?_
  refine xit (fun _ => ?_) (fun _ => ?_)
  · refine Eq.trans (x0 (h := 8) hT rfl) ?_
    refine Eq.trans (x17_1 (h := 9) hT rfl) ?_
    refine xit (fun _ => ?_) (fun _ => ?_)
    · refine Eq.trans (x1 (h := 12) hT rfl rfl (by decide)) ?_
      refine Eq.trans (x21r (r := a0) (cl := 12) (o := 1) (h := 13) hT rfl ha0 (by decide) rfl) ?_
      refine Eq.trans (x0 (h := 14) hT rfl) ?_
      refine Eq.trans (x1 (h := 15) hT rfl rfl (by decide)) ?_
      refine Eq.trans (x16_0 (h := 16) hT rfl) ?_
      refine xit (fun _ => ?_) (fun _ => ?_)
      · refine Eq.trans (x0 (h := 19) hT rfl) ?_
        refine Eq.trans (x25a (r := (a0 + 1)) (n := 18180) (h := 20) hT rfl (kd_12_0 ha0) (ln_12_0 ha0) (by decide) rfl) ?_
        refine xig (fun hz2 => ?_)
        refine Eq.trans (x0 (h := 21) hT rfl) ?_
        exact x203c (h := 22) hT rfl (by decide)
      · refine Eq.trans (x0 (h := 17) hT rfl) ?_
        refine Eq.trans (x18 (h := 18) hT rfl) ?_
        refine Eq.trans (x25a (r := (a0 + 1)) (n := 18180) (h := 20) hT rfl (kd_12_0 ha0) (ln_12_0 ha0) (by decide) rfl) ?_
        refine xig (fun hz3 => ?_)
        refine Eq.trans (x0 (h := 21) hT rfl) ?_
        exact x203c (h := 22) hT rfl (by decide)
    · refine Eq.trans (x0 (h := 10) hT rfl) ?_
      exact x203c (h := 11) hT rfl (by decide)
  · refine Eq.trans (x0 (h := 6) hT rfl) ?_
    refine Eq.trans (x18 (h := 7) hT rfl) ?_
    refine Eq.trans (x17_1 (h := 9) hT rfl) ?_
    refine xit (fun _ => ?_) (fun _ => ?_)
    · refine Eq.trans (x1 (h := 12) hT rfl rfl (by decide)) ?_
      refine Eq.trans (x21r (r := a0) (cl := 12) (o := 1) (h := 13) hT rfl ha0 (by decide) rfl) ?_
      refine Eq.trans (x0 (h := 14) hT rfl) ?_
      refine Eq.trans (x1 (h := 15) hT rfl rfl (by decide)) ?_
      refine Eq.trans (x16_0 (h := 16) hT rfl) ?_
      refine xit (fun _ => ?_) (fun _ => ?_)
      · refine Eq.trans (x0 (h := 19) hT rfl) ?_
        refine Eq.trans (x25a (r := (a0 + 1)) (n := 18180) (h := 20) hT rfl (kd_12_0 ha0) (ln_12_0 ha0) (by decide) rfl) ?_
        refine xig (fun hz4 => ?_)
        refine Eq.trans (x0 (h := 21) hT rfl) ?_
        exact x203c (h := 22) hT rfl (by decide)
      · refine Eq.trans (x0 (h := 17) hT rfl) ?_
        refine Eq.trans (x18 (h := 18) hT rfl) ?_
        refine Eq.trans (x25a (r := (a0 + 1)) (n := 18180) (h := 20) hT rfl (kd_12_0 ha0) (ln_12_0 ha0) (by decide) rfl) ?_
        refine xig (fun hz5 => ?_)
        refine Eq.trans (x0 (h := 21) hT rfl) ?_
        exact x203c (h := 22) hT rfl (by decide)
    · refine Eq.trans (x0 (h := 10) hT rfl) ?_
      exact x203c (h := 11) hT rfl (by decide)
/-! WordLinksModel.rowOf(II)I -/
set_option maxRecDepth 100000 in
theorem e_69 {P : zP} {d : zD P} {a0 : Nat} {a1 : Int} {a2 : Int} (ha0 : zkd a0 = 12) : MM P 69 [(2, ((a0 : Nat) : Int)), (0, a1), (0, a2)] d = (if wr a2 ≠ 0 then (if zin a1 5400 then some ((zldiv 1 ((d.m ((a0 + 21)) (zix a1))) 68921), d) else none) else (if zin a1 5400 then some ((zldiv 0 ((d.m ((a0 + 21)) (zix a1))) 68921), d) else none)) := by
  have hT := cT_69
  refine Eq.trans (MM_def sm_69 (Nat.le_of_ble_eq_true rfl)) ?_
  change zB P 69 0 [(2, ((a0 : Nat) : Int)), (0, a1), (0, a2)] [] d = _
  refine Eq.trans (x1 (h := 0) hT rfl rfl (by decide)) ?_
  refine Eq.trans (x16_1 (h := 1) hT rfl) ?_
  refine xit (fun _ => ?_) (fun _ => ?_)
  · refine Eq.trans (x1 (h := 9) hT rfl rfl (by decide)) ?_
    refine Eq.trans (x21r (r := a0) (cl := 12) (o := 21) (h := 10) hT rfl ha0 (by decide) rfl) ?_
    refine Eq.trans (x1 (h := 11) hT rfl rfl (by decide)) ?_
    refine Eq.trans (x24 (r := (a0 + 21)) (n := 5400) (h := 12) hT rfl (Or.inl (kd_12_28 ha0)) (ln_12_28 ha0)) ?_
    refine xig (fun hz1 => ?_)
    refine Eq.trans (x0 (h := 13) hT rfl) ?_
    refine Eq.trans (x9c (h := 14) hT rfl (by decide)) ?_
    refine Eq.trans (x121 (h := 15) hT rfl) ?_
    exact x201 (h := 16) hT rfl
  · refine Eq.trans (x1 (h := 2) hT rfl rfl (by decide)) ?_
    refine Eq.trans (x21r (r := a0) (cl := 12) (o := 21) (h := 3) hT rfl ha0 (by decide) rfl) ?_
    refine Eq.trans (x1 (h := 4) hT rfl rfl (by decide)) ?_
    refine Eq.trans (x24 (r := (a0 + 21)) (n := 5400) (h := 5) hT rfl (Or.inl (kd_12_28 ha0)) (ln_12_28 ha0)) ?_
    refine xig (fun hz2 => ?_)
    refine Eq.trans (x0 (h := 6) hT rfl) ?_
    refine Eq.trans (x9c (h := 7) hT rfl (by decide)) ?_
    refine Eq.trans (x18 (h := 8) hT rfl) ?_
    refine Eq.trans (x121 (h := 15) hT rfl) ?_
    exact x201 (h := 16) hT rfl
/-! WordLinksModel.setsShare(IIII)V -/
set_option maxRecDepth 100000 in
theorem e_70 {P : zP} {d : zD P} {a0 : Nat} {a1 : Int} {a2 : Int} {a3 : Int} {a4 : Int} (ha0 : zkd a0 = 12) : MM P 70 [(2, ((a0 : Nat) : Int)), (0, a1), (0, a2), (0, a3), (0, a4)] d = (if zin ((((1144 + (1600 * a1)) + (40 * a2)) + a3)) 18180 then some (0, (d.up ((a0 + 1)) (zix ((((1144 + (1600 * a1)) + (40 * a2)) + a3))) a4)) else none) := by
  have hT := cT_70
  refine Eq.trans (MM_def sm_70 (Nat.le_of_ble_eq_true rfl)) ?_
  change zB P 70 0 [(2, ((a0 : Nat) : Int)), (0, a1), (0, a2), (0, a3), (0, a4)] [] d = _
  refine Eq.trans (x1 (h := 0) hT rfl rfl (by decide)) ?_
  refine Eq.trans (x21r (r := a0) (cl := 12) (o := 1) (h := 1) hT rfl ha0 (by decide) rfl) ?_
  refine Eq.trans (x0 (h := 2) hT rfl) ?_
  refine Eq.trans (x0 (h := 3) hT rfl) ?_
  refine Eq.trans (x1 (h := 4) hT rfl rfl (by decide)) ?_
  refine Eq.trans (x5_2 (h := 5) hT rfl) ?_
  refine Eq.trans (x5_0 (h := 6) hT rfl) ?_
  refine Eq.trans (x0 (h := 7) hT rfl) ?_
  refine Eq.trans (x1 (h := 8) hT rfl rfl (by decide)) ?_
  refine Eq.trans (x5_2 (h := 9) hT rfl) ?_
  refine Eq.trans (x5_0 (h := 10) hT rfl) ?_
  refine Eq.trans (x1 (h := 11) hT rfl rfl (by decide)) ?_
  refine Eq.trans (x5_0 (h := 12) hT rfl) ?_
  refine Eq.trans (x1 (h := 13) hT rfl rfl (by decide)) ?_
  refine Eq.trans (x25a (r := (a0 + 1)) (n := 18180) (h := 14) hT rfl (kd_12_0 ha0) (ln_12_0 ha0) (by decide) rfl) ?_
  refine xig (fun hz1 => ?_)
  exact x20 (h := 15) hT rfl
/-! WordLinksModel.shareOf(III)I -/
set_option maxRecDepth 100000 in
theorem e_71 {P : zP} {d : zD P} {a0 : Nat} {a1 : Int} {a2 : Int} {a3 : Int} (ha0 : zkd a0 = 12) : MM P 71 [(2, ((a0 : Nat) : Int)), (0, a1), (0, a2), (0, a3)] d = (if zin ((((1144 + (1600 * a1)) + (40 * a2)) + a3)) 18180 then some ((d.m ((a0 + 1)) (zix ((((1144 + (1600 * a1)) + (40 * a2)) + a3)))), d) else none) := by
  have hT := cT_71
  refine Eq.trans (MM_def sm_71 (Nat.le_of_ble_eq_true rfl)) ?_
  change zB P 71 0 [(2, ((a0 : Nat) : Int)), (0, a1), (0, a2), (0, a3)] [] d = _
  refine Eq.trans (x1 (h := 0) hT rfl rfl (by decide)) ?_
  refine Eq.trans (x21r (r := a0) (cl := 12) (o := 1) (h := 1) hT rfl ha0 (by decide) rfl) ?_
  refine Eq.trans (x0 (h := 2) hT rfl) ?_
  refine Eq.trans (x0 (h := 3) hT rfl) ?_
  refine Eq.trans (x1 (h := 4) hT rfl rfl (by decide)) ?_
  refine Eq.trans (x5_2 (h := 5) hT rfl) ?_
  refine Eq.trans (x5_0 (h := 6) hT rfl) ?_
  refine Eq.trans (x0 (h := 7) hT rfl) ?_
  refine Eq.trans (x1 (h := 8) hT rfl rfl (by decide)) ?_
  refine Eq.trans (x5_2 (h := 9) hT rfl) ?_
  refine Eq.trans (x5_0 (h := 10) hT rfl) ?_
  refine Eq.trans (x1 (h := 11) hT rfl rfl (by decide)) ?_
  refine Eq.trans (x5_0 (h := 12) hT rfl) ?_
  refine Eq.trans (x24 (r := (a0 + 1)) (n := 18180) (h := 13) hT rfl (Or.inl (kd_12_0 ha0)) (ln_12_0 ha0)) ?_
  refine xig (fun hz1 => ?_)
  exact x201 (h := 14) hT rfl
/-! WordLinksModel.size(I)I -/
set_option maxRecDepth 100000 in
theorem e_72 {P : zP} {d : zD P} {a0 : Int} : MM P 72 [(0, a0)] d = (if 0 ≤ wr a0 then some (a0, d) else some ((-a0), d)) := by
  have hT := cT_72
  refine Eq.trans (MM_def sm_72 (Nat.le_of_ble_eq_true rfl)) ?_
  change zB P 72 0 [(0, a0)] [] d = _
  refine Eq.trans (x1 (h := 0) hT rfl rfl (by decide)) ?_
  refine Eq.trans (x16_3 (h := 1) hT rfl) ?_
  refine xit (fun _ => ?_) (fun _ => ?_)
  · refine Eq.trans (x1 (h := 5) hT rfl rfl (by decide)) ?_
    exact x201 (h := 6) hT rfl
  · refine Eq.trans (x1 (h := 2) hT rfl rfl (by decide)) ?_
    refine Eq.trans (x7 (h := 3) hT rfl) ?_
    refine Eq.trans (x18 (h := 4) hT rfl) ?_
    exact x201 (h := 6) hT rfl
/-! WordLinksModel.sizeOf(I)I -/
set_option maxRecDepth 100000 in
theorem e_73 {P : zP} {d : zD P} {a0 : Int} : MM P 73 [(0, a0)] d = zB P 73 4 [(0, a0), (0, 0), (0, a0)] [] d := by
  have hT := cT_73
  refine Eq.trans (MM_def sm_73 (Nat.le_of_ble_eq_true rfl)) ?_
  change zB P 73 0 [(0, a0), (3, 0), (3, 0)] [] d = _
  refine Eq.trans (x0 (h := 0) hT rfl) ?_
  refine Eq.trans (x2 (ls' := [(0, a0), (0, 0), (3, 0)]) (h := 1) hT rfl (Nat.le_of_ble_eq_true rfl) rfl) ?_
  refine Eq.trans (x1 (h := 2) hT rfl rfl (by decide)) ?_
  refine Eq.trans (x2 (ls' := [(0, a0), (0, 0), (0, a0)]) (h := 3) hT rfl (Nat.le_of_ble_eq_true rfl) rfl) ?_
  exact rfl
set_option maxRecDepth 100000 in
theorem q_73_4 {P : zP} {d : zD P} {g0 : zV} {a1 : Int} {a2 : Int} : zB P 73 4 [g0, (0, a1), (0, a2)] [] d = (if wr a2 = 0 then some (a1, d) else zB P 73 4 [(if (g0).1 = 1 then (3, 0) else g0), (0, (a1 + 1)), (0, (zbin 3 a2 ((a2 - 1))))] [] d) := by
  have hT := cT_73
  refine Eq.trans (x1 (h := 4) hT rfl rfl (by decide)) ?_
  refine Eq.trans (x16_0 (h := 5) hT rfl) ?_
  refine xit (fun _ => ?_) (fun _ => ?_)
  · refine Eq.trans (x1 (h := 17) hT rfl rfl (by decide)) ?_
    exact x201 (h := 18) hT rfl
  · refine Eq.trans (x1 (h := 6) hT rfl rfl (by decide)) ?_
    refine Eq.trans (x0 (h := 7) hT rfl) ?_
    refine Eq.trans (x5_0 (h := 8) hT rfl) ?_
    refine Eq.trans (x2 (ls' := [(if (g0).1 = 1 then (3, 0) else g0), (0, (a1 + 1)), (0, a2)]) (h := 9) hT rfl (Nat.le_of_ble_eq_true rfl) rfl) ?_
    refine Eq.trans (x1 (h := 10) hT rfl rfl (by decide)) ?_
    refine Eq.trans (x1 (h := 11) hT rfl rfl (by decide)) ?_
    refine Eq.trans (x0 (h := 12) hT rfl) ?_
    refine Eq.trans (x5_1 (h := 13) hT rfl) ?_
    refine Eq.trans (x5n (h := 14) hT rfl) ?_
    refine Eq.trans (x2 (ls' := [(if (g0).1 = 1 then (3, 0) else g0), (0, (a1 + 1)), (0, (zbin 3 a2 ((a2 - 1))))]) (h := 15) hT rfl (Nat.le_of_ble_eq_true rfl) rfl) ?_
    refine Eq.trans (x18 (h := 16) hT rfl) ?_
    exact rfl
/-! WordLinksModel.sortsKeys()V -/
set_option maxRecDepth 100000 in
theorem e_74 {P : zP} {d : zD P} {a0 : Nat} (ha0 : zkd a0 = 12) : MM P 74 [(2, ((a0 : Nat) : Int))] d = zB P 74 2 [(2, ((a0 : Nat) : Int)), (0, 1), (3, 0), (3, 0), (3, 0), (3, 0)] [] d := by
  have hT := cT_74
  refine Eq.trans (MM_def sm_74 (Nat.le_of_ble_eq_true rfl)) ?_
  change zB P 74 0 [(2, ((a0 : Nat) : Int)), (3, 0), (3, 0), (3, 0), (3, 0), (3, 0)] [] d = _
  refine Eq.trans (x0 (h := 0) hT rfl) ?_
  refine Eq.trans (x2 (ls' := [(2, ((a0 : Nat) : Int)), (0, 1), (3, 0), (3, 0), (3, 0), (3, 0)]) (h := 1) hT rfl (Nat.le_of_ble_eq_true rfl) rfl) ?_
  exact rfl
set_option maxRecDepth 100000 in
theorem q_74_2 {P : zP} {d : zD P} {a0 : Nat} {a1 : Int} {g2 : zV} {g3 : zV} {g4 : zV} {g5 : zV} (ha0 : zkd a0 = 12) : zB P 74 2 [(2, ((a0 : Nat) : Int)), (0, a1), g2, g3, g4, g5] [] d = (if wr ((d.m a0 30)) ≤ wr a1 then zB P 74 13 [(2, ((a0 : Nat) : Int)), (0, a1), g2, g3, g4, g5] [] d else zB P 74 2 [(2, ((a0 : Nat) : Int)), (0, ((3 * a1) + 1)), g2, g3, g4, g5] [] d) := by
  have hT := cT_74
  refine Eq.trans (x1 (h := 2) hT rfl rfl (by decide)) ?_
  refine Eq.trans (x1 (h := 3) hT rfl rfl (by decide)) ?_
  refine Eq.trans (x21 (r := a0) (cl := 12) (h := 4) hT rfl ha0) ?_
  refine Eq.trans (x17_3 (h := 5) hT rfl) ?_
  refine xit (fun _ => ?_) (fun _ => ?_)
  · exact rfl
  · refine Eq.trans (x0 (h := 6) hT rfl) ?_
    refine Eq.trans (x1 (h := 7) hT rfl rfl (by decide)) ?_
    refine Eq.trans (x5_2 (h := 8) hT rfl) ?_
    refine Eq.trans (x0 (h := 9) hT rfl) ?_
    refine Eq.trans (x5_0 (h := 10) hT rfl) ?_
    refine Eq.trans (x2 (ls' := [(2, ((a0 : Nat) : Int)), (0, ((3 * a1) + 1)), g2, g3, g4, g5]) (h := 11) hT rfl (Nat.le_of_ble_eq_true rfl) rfl) ?_
    refine Eq.trans (x18 (h := 12) hT rfl) ?_
    exact rfl
set_option maxRecDepth 100000 in
theorem q_74_13 {P : zP} {d : zD P} {a0 : Nat} {a1 : Int} {g2 : zV} {g3 : zV} {g4 : zV} {g5 : zV} (ha0 : zkd a0 = 12) : zB P 74 13 [(2, ((a0 : Nat) : Int)), (0, a1), g2, g3, g4, g5] [] d = (if wr a1 ≤ 0 then some (0, d) else zB P 74 17 [(2, ((a0 : Nat) : Int)), (0, a1), (0, a1), g3, g4, g5] [] d) := by
  have hT := cT_74
  refine Eq.trans (x1 (h := 13) hT rfl rfl (by decide)) ?_
  refine Eq.trans (x16_5 (h := 14) hT rfl) ?_
  refine xit (fun _ => ?_) (fun _ => ?_)
  · exact x20 (h := 67) hT rfl
  · refine Eq.trans (x1 (h := 15) hT rfl rfl (by decide)) ?_
    refine Eq.trans (x2 (ls' := [(2, ((a0 : Nat) : Int)), (0, a1), (0, a1), g3, g4, g5]) (h := 16) hT rfl (Nat.le_of_ble_eq_true rfl) rfl) ?_
    exact rfl
set_option maxRecDepth 100000 in
theorem q_74_17 {P : zP} {d : zD P} {a0 : Nat} {a1 : Int} {a2 : Int} {g3 : zV} {g4 : zV} {g5 : zV} (ha0 : zkd a0 = 12) : zB P 74 17 [(2, ((a0 : Nat) : Int)), (0, a1), (0, a2), g3, g4, g5] [] d = (if wr ((d.m a0 30)) ≤ wr a2 then zB P 74 13 [(2, ((a0 : Nat) : Int)), (0, (zdiv 0 a1 3)), (0, a2), g3, g4, g5] [] d else (if zin a2 5400 then zB P 74 28 [(2, ((a0 : Nat) : Int)), (0, a1), (0, a2), (1, (d.m ((a0 + 21)) (zix a2))), (3, 0), (0, a2)] [] d else none)) := by
  have hT := cT_74
  refine Eq.trans (x1 (h := 17) hT rfl rfl (by decide)) ?_
  refine Eq.trans (x1 (h := 18) hT rfl rfl (by decide)) ?_
  refine Eq.trans (x21 (r := a0) (cl := 12) (h := 19) hT rfl ha0) ?_
  refine Eq.trans (x17_3 (h := 20) hT rfl) ?_
  refine xit (fun _ => ?_) (fun _ => ?_)
  · refine Eq.trans (x1 (h := 62) hT rfl rfl (by decide)) ?_
    refine Eq.trans (x0 (h := 63) hT rfl) ?_
    refine Eq.trans (x6c (h := 64) hT rfl (by decide)) ?_
    refine Eq.trans (x2 (ls' := [(2, ((a0 : Nat) : Int)), (0, (zdiv 0 a1 3)), (0, a2), g3, g4, g5]) (h := 65) hT rfl (Nat.le_of_ble_eq_true rfl) rfl) ?_
    refine Eq.trans (x18 (h := 66) hT rfl) ?_
    exact rfl
  · refine Eq.trans (x1 (h := 21) hT rfl rfl (by decide)) ?_
    refine Eq.trans (x21r (r := a0) (cl := 12) (o := 21) (h := 22) hT rfl ha0 (by decide) rfl) ?_
    refine Eq.trans (x1 (h := 23) hT rfl rfl (by decide)) ?_
    refine Eq.trans (x24 (r := (a0 + 21)) (n := 5400) (h := 24) hT rfl (Or.inl (kd_12_28 ha0)) (ln_12_28 ha0)) ?_
    refine xig (fun hz1 => ?_)
    refine Eq.trans (x3 (ls' := [(2, ((a0 : Nat) : Int)), (0, a1), (0, a2), (1, (d.m ((a0 + 21)) (zix a2))), (3, 0), g5]) (h := 25) hT rfl (Nat.le_of_ble_eq_true rfl) rfl) ?_
    refine Eq.trans (x1 (h := 26) hT rfl rfl (by decide)) ?_
    refine Eq.trans (x2 (ls' := [(2, ((a0 : Nat) : Int)), (0, a1), (0, a2), (1, (d.m ((a0 + 21)) (zix a2))), (3, 0), (0, a2)]) (h := 27) hT rfl (Nat.le_of_ble_eq_true rfl) rfl) ?_
    exact rfl
set_option maxRecDepth 100000 in
theorem q_74_28 {P : zP} {d : zD P} {a0 : Nat} {a1 : Int} {a2 : Int} {a3 : Int} {g4 : zV} {a5 : Int} (ha0 : zkd a0 = 12) : zB P 74 28 [(2, ((a0 : Nat) : Int)), (0, a1), (0, a2), (1, a3), g4, (0, a5)] [] d = (if wr a5 < wr a1 then (if zin a5 5400 then zB P 74 17 [(2, ((a0 : Nat) : Int)), (0, a1), (0, (a2 + 1)), (1, a3), g4, (0, a5)] [] ((d.up ((a0 + 21)) (zix a5) a3)) else none) else (if zin ((a5 - a1)) 5400 then (if wrl ((d.m ((a0 + 21)) (zix ((a5 - a1))))) ≤ wrl a3 then (if zin a5 5400 then zB P 74 17 [(2, ((a0 : Nat) : Int)), (0, a1), (0, (a2 + 1)), (1, a3), g4, (0, a5)] [] ((d.up ((a0 + 21)) (zix a5) a3)) else none) else (if zin ((a5 - a1)) 5400 then (if zin a5 5400 then zB P 74 28 [(2, ((a0 : Nat) : Int)), (0, a1), (0, a2), (1, a3), (if (g4).1 = 1 then (3, 0) else g4), (0, (a5 - a1))] [] ((d.up ((a0 + 21)) (zix a5) ((d.m ((a0 + 21)) (zix ((a5 - a1))))))) else none) else none)) else none)) := by
  have hT := cT_74
  refine Eq.trans (x1 (h := 28) hT rfl rfl (by decide)) ?_
  refine Eq.trans (x1 (h := 29) hT rfl rfl (by decide)) ?_
  refine Eq.trans (x17_2 (h := 30) hT rfl) ?_
  refine xit (fun _ => ?_) (fun _ => ?_)
  · refine Eq.trans (x1 (h := 55) hT rfl rfl (by decide)) ?_
    refine Eq.trans (x21r (r := a0) (cl := 12) (o := 21) (h := 56) hT rfl ha0 (by decide) rfl) ?_
    refine Eq.trans (x1 (h := 57) hT rfl rfl (by decide)) ?_
    refine Eq.trans (x1 (h := 58) hT rfl rfl (by decide)) ?_
    refine Eq.trans (x25a (r := (a0 + 21)) (n := 5400) (h := 59) hT rfl (kd_12_28 ha0) (ln_12_28 ha0) (by decide) rfl) ?_
    refine xig (fun hz2 => ?_)
    refine Eq.trans (x4 (ls' := [(2, ((a0 : Nat) : Int)), (0, a1), (0, (a2 + 1)), (1, a3), g4, (0, a5)]) (h := 60) hT rfl rfl rfl) ?_
    refine Eq.trans (x18 (h := 61) hT rfl) ?_
    exact rfl
  · refine Eq.trans (x1 (h := 31) hT rfl rfl (by decide)) ?_
    refine Eq.trans (x21r (r := a0) (cl := 12) (o := 21) (h := 32) hT rfl ha0 (by decide) rfl) ?_
    refine Eq.trans (x1 (h := 33) hT rfl rfl (by decide)) ?_
    refine Eq.trans (x1 (h := 34) hT rfl rfl (by decide)) ?_
    refine Eq.trans (x5_1 (h := 35) hT rfl) ?_
    refine Eq.trans (x24 (r := (a0 + 21)) (n := 5400) (h := 36) hT rfl (Or.inl (kd_12_28 ha0)) (ln_12_28 ha0)) ?_
    refine xig (fun hz3 => ?_)
    refine Eq.trans (x1 (h := 37) hT rfl rfl (by decide)) ?_
    refine Eq.trans (x116_5 (h := 38) hT rfl rfl) ?_
    refine xit (fun _ => ?_) (fun _ => ?_)
    · refine Eq.trans (x1 (h := 55) hT rfl rfl (by decide)) ?_
      refine Eq.trans (x21r (r := a0) (cl := 12) (o := 21) (h := 56) hT rfl ha0 (by decide) rfl) ?_
      refine Eq.trans (x1 (h := 57) hT rfl rfl (by decide)) ?_
      refine Eq.trans (x1 (h := 58) hT rfl rfl (by decide)) ?_
      refine Eq.trans (x25a (r := (a0 + 21)) (n := 5400) (h := 59) hT rfl (kd_12_28 ha0) (ln_12_28 ha0) (by decide) rfl) ?_
      refine xig (fun hz4 => ?_)
      refine Eq.trans (x4 (ls' := [(2, ((a0 : Nat) : Int)), (0, a1), (0, (a2 + 1)), (1, a3), g4, (0, a5)]) (h := 60) hT rfl rfl rfl) ?_
      refine Eq.trans (x18 (h := 61) hT rfl) ?_
      exact rfl
    · refine Eq.trans (x1 (h := 40) hT rfl rfl (by decide)) ?_
      refine Eq.trans (x21r (r := a0) (cl := 12) (o := 21) (h := 41) hT rfl ha0 (by decide) rfl) ?_
      refine Eq.trans (x1 (h := 42) hT rfl rfl (by decide)) ?_
      refine Eq.trans (x1 (h := 43) hT rfl rfl (by decide)) ?_
      refine Eq.trans (x21r (r := a0) (cl := 12) (o := 21) (h := 44) hT rfl ha0 (by decide) rfl) ?_
      refine Eq.trans (x1 (h := 45) hT rfl rfl (by decide)) ?_
      refine Eq.trans (x1 (h := 46) hT rfl rfl (by decide)) ?_
      refine Eq.trans (x5_1 (h := 47) hT rfl) ?_
      refine Eq.trans (x24 (r := (a0 + 21)) (n := 5400) (h := 48) hT rfl (Or.inl (kd_12_28 ha0)) (ln_12_28 ha0)) ?_
      refine xig (fun hz5 => ?_)
      refine Eq.trans (x25a (r := (a0 + 21)) (n := 5400) (h := 49) hT rfl (kd_12_28 ha0) (ln_12_28 ha0) (by decide) rfl) ?_
      refine xig (fun hz6 => ?_)
      refine Eq.trans (x1 (h := 50) hT rfl rfl (by decide)) ?_
      refine Eq.trans (x1 (h := 51) hT rfl rfl (by decide)) ?_
      refine Eq.trans (x5_1 (h := 52) hT rfl) ?_
      refine Eq.trans (x2 (ls' := [(2, ((a0 : Nat) : Int)), (0, a1), (0, a2), (1, a3), (if (g4).1 = 1 then (3, 0) else g4), (0, (a5 - a1))]) (h := 53) hT rfl (Nat.le_of_ble_eq_true rfl) rfl) ?_
      refine Eq.trans (x18 (h := 54) hT rfl) ?_
      exact rfl
/-! WordLinksModel.span(II)I -/
set_option maxRecDepth 100000 in
theorem e_75 {P : zP} {d : zD P} {a0 : Int} {a1 : Int} : MM P 75 [(0, a0), (0, a1)] d = some (((zbin 6 1 ((a1 + 1))) - (zbin 6 1 a0)), d) := by
  have hT := cT_75
  refine Eq.trans (MM_def sm_75 (Nat.le_of_ble_eq_true rfl)) ?_
  change zB P 75 0 [(0, a0), (0, a1)] [] d = _
  refine Eq.trans (x0 (h := 0) hT rfl) ?_
  refine Eq.trans (x1 (h := 1) hT rfl rfl (by decide)) ?_
  refine Eq.trans (x0 (h := 2) hT rfl) ?_
  refine Eq.trans (x5_0 (h := 3) hT rfl) ?_
  refine Eq.trans (x5n (h := 4) hT rfl) ?_
  refine Eq.trans (x0 (h := 5) hT rfl) ?_
  refine Eq.trans (x1 (h := 6) hT rfl rfl (by decide)) ?_
  refine Eq.trans (x5n (h := 7) hT rfl) ?_
  refine Eq.trans (x5_1 (h := 8) hT rfl) ?_
  exact x201 (h := 9) hT rfl
/-! WordLinksModel.takes(II)I -/
set_option maxRecDepth 100000 in
theorem e_76 {P : zP} {d : zD P} {a0 : Int} {a1 : Int} : MM P 76 [(0, a0), (0, a1)] d = (if wr a0 ≠ 0 then (if wr a0 ≠ wr 1 then (if wr a0 ≠ wr 2 then (if wr a0 ≠ wr 3 then some ((1 + a1), d) else some ((2 - a1), d)) else some (a1, d)) else some ((1 - a1), d)) else some (1, d)) := by
  have hT := cT_76
  refine Eq.trans (MM_def sm_76 (Nat.le_of_ble_eq_true rfl)) ?_
  change zB P 76 0 [(0, a0), (0, a1)] [] d = _
  refine Eq.trans (x1 (h := 0) hT rfl rfl (by decide)) ?_
  refine Eq.trans (x16_1 (h := 1) hT rfl) ?_
  refine xit (fun _ => ?_) (fun _ => ?_)
  · refine Eq.trans (x1 (h := 4) hT rfl rfl (by decide)) ?_
    refine Eq.trans (x0 (h := 5) hT rfl) ?_
    refine Eq.trans (x17_1 (h := 6) hT rfl) ?_
    refine xit (fun _ => ?_) (fun _ => ?_)
    · refine Eq.trans (x1 (h := 11) hT rfl rfl (by decide)) ?_
      refine Eq.trans (x0 (h := 12) hT rfl) ?_
      refine Eq.trans (x17_1 (h := 13) hT rfl) ?_
      refine xit (fun _ => ?_) (fun _ => ?_)
      · refine Eq.trans (x1 (h := 16) hT rfl rfl (by decide)) ?_
        refine Eq.trans (x0 (h := 17) hT rfl) ?_
        refine Eq.trans (x17_1 (h := 18) hT rfl) ?_
        refine xit (fun _ => ?_) (fun _ => ?_)
        · refine Eq.trans (x0 (h := 23) hT rfl) ?_
          refine Eq.trans (x1 (h := 24) hT rfl rfl (by decide)) ?_
          refine Eq.trans (x5_0 (h := 25) hT rfl) ?_
          exact x201 (h := 26) hT rfl
        · refine Eq.trans (x0 (h := 19) hT rfl) ?_
          refine Eq.trans (x1 (h := 20) hT rfl rfl (by decide)) ?_
          refine Eq.trans (x5_1 (h := 21) hT rfl) ?_
          refine Eq.trans (x18 (h := 22) hT rfl) ?_
          exact x201 (h := 26) hT rfl
      · refine Eq.trans (x1 (h := 14) hT rfl rfl (by decide)) ?_
        refine Eq.trans (x18 (h := 15) hT rfl) ?_
        exact x201 (h := 26) hT rfl
    · refine Eq.trans (x0 (h := 7) hT rfl) ?_
      refine Eq.trans (x1 (h := 8) hT rfl rfl (by decide)) ?_
      refine Eq.trans (x5_1 (h := 9) hT rfl) ?_
      refine Eq.trans (x18 (h := 10) hT rfl) ?_
      exact x201 (h := 26) hT rfl
  · refine Eq.trans (x0 (h := 2) hT rfl) ?_
    refine Eq.trans (x18 (h := 3) hT rfl) ?_
    exact x201 (h := 26) hT rfl
/-! WordLinksModel.told(II)I -/
set_option maxRecDepth 100000 in
theorem e_77 {P : zP} {d : zD P} {a0 : Nat} {a1 : Int} {a2 : Int} (ha0 : zkd a0 = 12) : MM P 77 [(2, ((a0 : Nat) : Int)), (0, a1), (0, a2)] d = (if zin ((((24 + (20 * a1)) + 14) + a2)) 18180 then some ((d.m ((a0 + 1)) (zix ((((24 + (20 * a1)) + 14) + a2)))), d) else none) := by
  have hT := cT_77
  refine Eq.trans (MM_def sm_77 (Nat.le_of_ble_eq_true rfl)) ?_
  change zB P 77 0 [(2, ((a0 : Nat) : Int)), (0, a1), (0, a2)] [] d = _
  refine Eq.trans (x1 (h := 0) hT rfl rfl (by decide)) ?_
  refine Eq.trans (x21r (r := a0) (cl := 12) (o := 1) (h := 1) hT rfl ha0 (by decide) rfl) ?_
  refine Eq.trans (x0 (h := 2) hT rfl) ?_
  refine Eq.trans (x0 (h := 3) hT rfl) ?_
  refine Eq.trans (x1 (h := 4) hT rfl rfl (by decide)) ?_
  refine Eq.trans (x5_2 (h := 5) hT rfl) ?_
  refine Eq.trans (x5_0 (h := 6) hT rfl) ?_
  refine Eq.trans (x0 (h := 7) hT rfl) ?_
  refine Eq.trans (x5_0 (h := 8) hT rfl) ?_
  refine Eq.trans (x1 (h := 9) hT rfl rfl (by decide)) ?_
  refine Eq.trans (x5_0 (h := 10) hT rfl) ?_
  refine Eq.trans (x24 (r := (a0 + 1)) (n := 18180) (h := 11) hT rfl (Or.inl (kd_12_0 ha0)) (ln_12_0 ha0)) ?_
  refine xig (fun hz1 => ?_)
  exact x201 (h := 12) hT rfl
/-! WordLinksModel.types(I)V -/
set_option maxRecDepth 100000 in
theorem e_78 {P : zP} {d : zD P} {a0 : Nat} {a1 : Int} (ha0 : zkd a0 = 12) : MM P 78 [(2, ((a0 : Nat) : Int)), (0, a1)] d = zB P 78 2 [(2, ((a0 : Nat) : Int)), (0, a1), (0, 3)] [] d := by
  have hT := cT_78
  refine Eq.trans (MM_def sm_78 (Nat.le_of_ble_eq_true rfl)) ?_
  change zB P 78 0 [(2, ((a0 : Nat) : Int)), (0, a1), (3, 0)] [] d = _
  refine Eq.trans (x0 (h := 0) hT rfl) ?_
  refine Eq.trans (x2 (ls' := [(2, ((a0 : Nat) : Int)), (0, a1), (0, 3)]) (h := 1) hT rfl (Nat.le_of_ble_eq_true rfl) rfl) ?_
  exact rfl
set_option maxRecDepth 100000 in
theorem q_78_2 {P : zP} {d : zD P} {a0 : Nat} {a1 : Int} {a2 : Int} (ha0 : zkd a0 = 12) : zB P 78 2 [(2, ((a0 : Nat) : Int)), (0, a1), (0, a2)] [] d = (if wr a2 < 0 then some (0, d) else (if zin ((d.m a0 3)) 240 then zB P 78 2 [(2, ((a0 : Nat) : Int)), (0, a1), (0, (a2 + (-1)))] [] ((((d.up ((a0 + 2)) (zix ((d.m a0 3))) ((zby ((zby ((zbin 7 a1 ((8 * a2)))))))))).up a0 3 (((((d.up ((a0 + 2)) (zix ((d.m a0 3))) ((zby ((zby ((zbin 7 a1 ((8 * a2)))))))))).m a0 3) + 1)))) else none)) := by
  have hT := cT_78
  refine Eq.trans (x1 (h := 2) hT rfl rfl (by decide)) ?_
  refine Eq.trans (x16_2 (h := 3) hT rfl) ?_
  refine xit (fun _ => ?_) (fun _ => ?_)
  · exact x20 (h := 23) hT rfl
  · refine Eq.trans (x1 (h := 4) hT rfl rfl (by decide)) ?_
    refine Eq.trans (x21r (r := a0) (cl := 12) (o := 2) (h := 5) hT rfl ha0 (by decide) rfl) ?_
    refine Eq.trans (x1 (h := 6) hT rfl rfl (by decide)) ?_
    refine Eq.trans (x21 (r := a0) (cl := 12) (h := 7) hT rfl ha0) ?_
    refine Eq.trans (x1 (h := 8) hT rfl rfl (by decide)) ?_
    refine Eq.trans (x0 (h := 9) hT rfl) ?_
    refine Eq.trans (x1 (h := 10) hT rfl rfl (by decide)) ?_
    refine Eq.trans (x5_2 (h := 11) hT rfl) ?_
    refine Eq.trans (x5n (h := 12) hT rfl) ?_
    refine Eq.trans (x122 (h := 13) hT rfl) ?_
    refine Eq.trans (x25b (r := (a0 + 2)) (n := 240) (h := 14) hT rfl (kd_12_2 ha0) (ln_12_2 ha0)) ?_
    refine xig (fun hz1 => ?_)
    refine Eq.trans (x1 (h := 15) hT rfl rfl (by decide)) ?_
    refine Eq.trans (x1 (h := 16) hT rfl rfl (by decide)) ?_
    refine Eq.trans (x21 (r := a0) (cl := 12) (h := 17) hT rfl ha0) ?_
    refine Eq.trans (x0 (h := 18) hT rfl) ?_
    refine Eq.trans (x5_0 (h := 19) hT rfl) ?_
    refine Eq.trans (x22 (r := a0) (cl := 12) (h := 20) hT rfl ha0 (by decide) rfl (by decide)) ?_
    refine Eq.trans (x4 (ls' := [(2, ((a0 : Nat) : Int)), (0, a1), (0, (a2 + (-1)))]) (h := 21) hT rfl rfl rfl) ?_
    refine Eq.trans (x18 (h := 22) hT rfl) ?_
    exact rfl
/-! WordLinksModel.wordIn(II)I -/
set_option maxRecDepth 100000 in
theorem e_79 {P : zP} {d : zD P} {a0 : Int} {a1 : Int} : MM P 79 [(0, a0), (0, a1)] d = (if wr a1 ≠ 0 then (if wr a1 ≠ wr 1 then some (((zdiv 1 a0 41) - 1), d) else some (((zdiv 1 ((zdiv 0 a0 41)) 41) - 1), d)) else some (((zdiv 0 a0 1681) - 1), d)) := by
  have hT := cT_79
  refine Eq.trans (MM_def sm_79 (Nat.le_of_ble_eq_true rfl)) ?_
  change zB P 79 0 [(0, a0), (0, a1)] [] d = _
  refine Eq.trans (x1 (h := 0) hT rfl rfl (by decide)) ?_
  refine Eq.trans (x16_1 (h := 1) hT rfl) ?_
  refine xit (fun _ => ?_) (fun _ => ?_)
  · refine Eq.trans (x1 (h := 6) hT rfl rfl (by decide)) ?_
    refine Eq.trans (x0 (h := 7) hT rfl) ?_
    refine Eq.trans (x17_1 (h := 8) hT rfl) ?_
    refine xit (fun _ => ?_) (fun _ => ?_)
    · refine Eq.trans (x1 (h := 15) hT rfl rfl (by decide)) ?_
      refine Eq.trans (x0 (h := 16) hT rfl) ?_
      refine Eq.trans (x6c (h := 17) hT rfl (by decide)) ?_
      refine Eq.trans (x0 (h := 18) hT rfl) ?_
      refine Eq.trans (x5_1 (h := 19) hT rfl) ?_
      exact x201 (h := 20) hT rfl
    · refine Eq.trans (x1 (h := 9) hT rfl rfl (by decide)) ?_
      refine Eq.trans (x0 (h := 10) hT rfl) ?_
      refine Eq.trans (x6c (h := 11) hT rfl (by decide)) ?_
      refine Eq.trans (x0 (h := 12) hT rfl) ?_
      refine Eq.trans (x6c (h := 13) hT rfl (by decide)) ?_
      refine Eq.trans (x18 (h := 14) hT rfl) ?_
      refine Eq.trans (x0 (h := 18) hT rfl) ?_
      refine Eq.trans (x5_1 (h := 19) hT rfl) ?_
      exact x201 (h := 20) hT rfl
  · refine Eq.trans (x1 (h := 2) hT rfl rfl (by decide)) ?_
    refine Eq.trans (x0 (h := 3) hT rfl) ?_
    refine Eq.trans (x6c (h := 4) hT rfl (by decide)) ?_
    refine Eq.trans (x18 (h := 5) hT rfl) ?_
    refine Eq.trans (x0 (h := 18) hT rfl) ?_
    refine Eq.trans (x5_1 (h := 19) hT rfl) ?_
    exact x201 (h := 20) hT rfl
/-! WordLinksModel.wordOf(III)I -/
set_option maxRecDepth 100000 in
theorem e_80 {P : zP} {d : zD P} {a0 : Nat} {a1 : Int} {a2 : Int} {a3 : Int} (ha0 : zkd a0 = 12) : MM P 80 [(2, ((a0 : Nat) : Int)), (0, a1), (0, a2), (0, a3)] d = (if zin (((((24 + (20 * a1)) + 2) + (6 * a2)) + a3)) 18180 then some ((d.m ((a0 + 1)) (zix (((((24 + (20 * a1)) + 2) + (6 * a2)) + a3)))), d) else none) := by
  have hT := cT_80
  refine Eq.trans (MM_def sm_80 (Nat.le_of_ble_eq_true rfl)) ?_
  change zB P 80 0 [(2, ((a0 : Nat) : Int)), (0, a1), (0, a2), (0, a3)] [] d = _
  refine Eq.trans (x1 (h := 0) hT rfl rfl (by decide)) ?_
  refine Eq.trans (x21r (r := a0) (cl := 12) (o := 1) (h := 1) hT rfl ha0 (by decide) rfl) ?_
  refine Eq.trans (x0 (h := 2) hT rfl) ?_
  refine Eq.trans (x0 (h := 3) hT rfl) ?_
  refine Eq.trans (x1 (h := 4) hT rfl rfl (by decide)) ?_
  refine Eq.trans (x5_2 (h := 5) hT rfl) ?_
  refine Eq.trans (x5_0 (h := 6) hT rfl) ?_
  refine Eq.trans (x0 (h := 7) hT rfl) ?_
  refine Eq.trans (x5_0 (h := 8) hT rfl) ?_
  refine Eq.trans (x0 (h := 9) hT rfl) ?_
  refine Eq.trans (x1 (h := 10) hT rfl rfl (by decide)) ?_
  refine Eq.trans (x5_2 (h := 11) hT rfl) ?_
  refine Eq.trans (x5_0 (h := 12) hT rfl) ?_
  refine Eq.trans (x1 (h := 13) hT rfl rfl (by decide)) ?_
  refine Eq.trans (x5_0 (h := 14) hT rfl) ?_
  refine Eq.trans (x24 (r := (a0 + 1)) (n := 18180) (h := 15) hT rfl (Or.inl (kd_12_0 ha0)) (ln_12_0 ha0)) ?_
  refine xig (fun hz1 => ?_)
  exact x201 (h := 16) hT rfl
/-! WordLinksModel.words(I)I -/
set_option maxRecDepth 100000 in
theorem e_81 {P : zP} {d : zD P} {a0 : Nat} {a1 : Int} (ha0 : zkd a0 = 12) : MM P 81 [(2, ((a0 : Nat) : Int)), (0, a1)] d = (if zin ((4 + a1)) 18180 then some ((d.m ((a0 + 1)) (zix ((4 + a1)))), d) else none) := by
  have hT := cT_81
  refine Eq.trans (MM_def sm_81 (Nat.le_of_ble_eq_true rfl)) ?_
  change zB P 81 0 [(2, ((a0 : Nat) : Int)), (0, a1)] [] d = _
  refine Eq.trans (x1 (h := 0) hT rfl rfl (by decide)) ?_
  refine Eq.trans (x21r (r := a0) (cl := 12) (o := 1) (h := 1) hT rfl ha0 (by decide) rfl) ?_
  refine Eq.trans (x0 (h := 2) hT rfl) ?_
  refine Eq.trans (x1 (h := 3) hT rfl rfl (by decide)) ?_
  refine Eq.trans (x5_0 (h := 4) hT rfl) ?_
  refine Eq.trans (x24 (r := (a0 + 1)) (n := 18180) (h := 5) hT rfl (Or.inl (kd_12_0 ha0)) (ln_12_0 ha0)) ?_
  refine xig (fun hz1 => ?_)
  exact x201 (h := 6) hT rfl
/-! WordLinksModel.wordsFrom(II)I -/
set_option maxRecDepth 100000 in
theorem e_82 {P : zP} {d : zD P} {a0 : Nat} {a1 : Int} {a2 : Int} (ha0 : zkd a0 = 12) : MM P 82 [(2, ((a0 : Nat) : Int)), (0, a1), (0, a2)] d = zB P 82 4 [(2, ((a0 : Nat) : Int)), (0, a1), (0, a2), (0, 0), (0, a1)] [] d := by
  have hT := cT_82
  refine Eq.trans (MM_def sm_82 (Nat.le_of_ble_eq_true rfl)) ?_
  change zB P 82 0 [(2, ((a0 : Nat) : Int)), (0, a1), (0, a2), (3, 0), (3, 0)] [] d = _
  refine Eq.trans (x0 (h := 0) hT rfl) ?_
  refine Eq.trans (x2 (ls' := [(2, ((a0 : Nat) : Int)), (0, a1), (0, a2), (0, 0), (3, 0)]) (h := 1) hT rfl (Nat.le_of_ble_eq_true rfl) rfl) ?_
  refine Eq.trans (x1 (h := 2) hT rfl rfl (by decide)) ?_
  refine Eq.trans (x2 (ls' := [(2, ((a0 : Nat) : Int)), (0, a1), (0, a2), (0, 0), (0, a1)]) (h := 3) hT rfl (Nat.le_of_ble_eq_true rfl) rfl) ?_
  exact rfl
set_option maxRecDepth 100000 in
theorem q_82_4 {P : zP} {d : zD P} {a0 : Nat} {a1 : Int} {a2 : Int} {a3 : Int} {a4 : Int} (ha0 : zkd a0 = 12) : zB P 82 4 [(2, ((a0 : Nat) : Int)), (0, a1), (0, a2), (0, a3), (0, a4)] [] d = (if wr ((a1 + a2)) ≤ wr a4 then some (a3, d) else (if zin a4 16 then zB P 82 4 [(2, ((a0 : Nat) : Int)), (0, a1), (0, a2), (0, (a3 + (d.m ((a0 + 7)) (zix a4)))), (0, (a4 + 1))] [] d else none)) := by
  have hT := cT_82
  refine Eq.trans (x1 (h := 4) hT rfl rfl (by decide)) ?_
  refine Eq.trans (x1 (h := 5) hT rfl rfl (by decide)) ?_
  refine Eq.trans (x1 (h := 6) hT rfl rfl (by decide)) ?_
  refine Eq.trans (x5_0 (h := 7) hT rfl) ?_
  refine Eq.trans (x17_3 (h := 8) hT rfl) ?_
  refine xit (fun _ => ?_) (fun _ => ?_)
  · refine Eq.trans (x1 (h := 18) hT rfl rfl (by decide)) ?_
    exact x201 (h := 19) hT rfl
  · refine Eq.trans (x1 (h := 9) hT rfl rfl (by decide)) ?_
    refine Eq.trans (x1 (h := 10) hT rfl rfl (by decide)) ?_
    refine Eq.trans (x21r (r := a0) (cl := 12) (o := 7) (h := 11) hT rfl ha0 (by decide) rfl) ?_
    refine Eq.trans (x1 (h := 12) hT rfl rfl (by decide)) ?_
    refine Eq.trans (x24 (r := (a0 + 7)) (n := 16) (h := 13) hT rfl (Or.inl (kd_12_14 ha0)) (ln_12_14 ha0)) ?_
    refine xig (fun hz1 => ?_)
    refine Eq.trans (x5_0 (h := 14) hT rfl) ?_
    refine Eq.trans (x2 (ls' := [(2, ((a0 : Nat) : Int)), (0, a1), (0, a2), (0, (a3 + (d.m ((a0 + 7)) (zix a4)))), (0, a4)]) (h := 15) hT rfl (Nat.le_of_ble_eq_true rfl) rfl) ?_
    refine Eq.trans (x4 (ls' := [(2, ((a0 : Nat) : Int)), (0, a1), (0, a2), (0, (a3 + (d.m ((a0 + 7)) (zix a4)))), (0, (a4 + 1))]) (h := 16) hT rfl rfl rfl) ?_
    refine Eq.trans (x18 (h := 17) hT rfl) ?_
    exact rfl
/-! WordLinksModel.wrongAt(II)Z -/
set_option maxRecDepth 100000 in
theorem e_83 {P : zP} {d : zD P} {a0 : Nat} {a1 : Int} {a2 : Int} (ha0 : zkd a0 = 12) : MM P 83 [(2, ((a0 : Nat) : Int)), (0, a1), (0, a2)] d = some (0, (d.up a0 6 ((((-1000) * a1) - a2)))) := by
  have hT := cT_83
  refine Eq.trans (MM_def sm_83 (Nat.le_of_ble_eq_true rfl)) ?_
  change zB P 83 0 [(2, ((a0 : Nat) : Int)), (0, a1), (0, a2)] [] d = _
  refine Eq.trans (x1 (h := 0) hT rfl rfl (by decide)) ?_
  refine Eq.trans (x0 (h := 1) hT rfl) ?_
  refine Eq.trans (x1 (h := 2) hT rfl rfl (by decide)) ?_
  refine Eq.trans (x5_2 (h := 3) hT rfl) ?_
  refine Eq.trans (x1 (h := 4) hT rfl rfl (by decide)) ?_
  refine Eq.trans (x5_1 (h := 5) hT rfl) ?_
  refine Eq.trans (x22 (r := a0) (cl := 12) (h := 6) hT rfl ha0 (by decide) rfl (by decide)) ?_
  refine Eq.trans (x0 (h := 7) hT rfl) ?_
  exact x203c (h := 8) hT rfl (by decide)
/-! java/lang/Integer.bitCount(I)I -/
set_option maxRecDepth 100000 in
theorem e_84 {P : zP} {d : zD P} {a0 : Int} : MM P 84 [(0, a0)] d = some ((zbin 3 ((((zbin 3 ((((zbin 3 ((a0 - (zbin 3 ((zbin 8 a0 1)) 1431655765))) 858993459) + (zbin 3 ((zbin 8 ((a0 - (zbin 3 ((zbin 8 a0 1)) 1431655765))) 2)) 858993459)) + (zbin 8 (((zbin 3 ((a0 - (zbin 3 ((zbin 8 a0 1)) 1431655765))) 858993459) + (zbin 3 ((zbin 8 ((a0 - (zbin 3 ((zbin 8 a0 1)) 1431655765))) 2)) 858993459))) 4))) 252645135) + (zbin 8 ((zbin 3 ((((zbin 3 ((a0 - (zbin 3 ((zbin 8 a0 1)) 1431655765))) 858993459) + (zbin 3 ((zbin 8 ((a0 - (zbin 3 ((zbin 8 a0 1)) 1431655765))) 2)) 858993459)) + (zbin 8 (((zbin 3 ((a0 - (zbin 3 ((zbin 8 a0 1)) 1431655765))) 858993459) + (zbin 3 ((zbin 8 ((a0 - (zbin 3 ((zbin 8 a0 1)) 1431655765))) 2)) 858993459))) 4))) 252645135)) 8)) + (zbin 8 (((zbin 3 ((((zbin 3 ((a0 - (zbin 3 ((zbin 8 a0 1)) 1431655765))) 858993459) + (zbin 3 ((zbin 8 ((a0 - (zbin 3 ((zbin 8 a0 1)) 1431655765))) 2)) 858993459)) + (zbin 8 (((zbin 3 ((a0 - (zbin 3 ((zbin 8 a0 1)) 1431655765))) 858993459) + (zbin 3 ((zbin 8 ((a0 - (zbin 3 ((zbin 8 a0 1)) 1431655765))) 2)) 858993459))) 4))) 252645135) + (zbin 8 ((zbin 3 ((((zbin 3 ((a0 - (zbin 3 ((zbin 8 a0 1)) 1431655765))) 858993459) + (zbin 3 ((zbin 8 ((a0 - (zbin 3 ((zbin 8 a0 1)) 1431655765))) 2)) 858993459)) + (zbin 8 (((zbin 3 ((a0 - (zbin 3 ((zbin 8 a0 1)) 1431655765))) 858993459) + (zbin 3 ((zbin 8 ((a0 - (zbin 3 ((zbin 8 a0 1)) 1431655765))) 2)) 858993459))) 4))) 252645135)) 8))) 16))) 63), d) := by
  have hT := cT_84
  refine Eq.trans (MM_def sm_84 (Nat.le_of_ble_eq_true rfl)) ?_
  change zB P 84 0 [(0, a0)] [] d = _
  refine Eq.trans (x1 (h := 0) hT rfl rfl (by decide)) ?_
  refine Eq.trans (x1 (h := 1) hT rfl rfl (by decide)) ?_
  refine Eq.trans (x0 (h := 2) hT rfl) ?_
  refine Eq.trans (x5n (h := 3) hT rfl) ?_
  refine Eq.trans (x0 (h := 4) hT rfl) ?_
  refine Eq.trans (x5n (h := 5) hT rfl) ?_
  refine Eq.trans (x5_1 (h := 6) hT rfl) ?_
  refine Eq.trans (x2 (ls' := [(0, (a0 - (zbin 3 ((zbin 8 a0 1)) 1431655765)))]) (h := 7) hT rfl (Nat.le_of_ble_eq_true rfl) rfl) ?_
  refine Eq.trans (x1 (h := 8) hT rfl rfl (by decide)) ?_
  refine Eq.trans (x0 (h := 9) hT rfl) ?_
  refine Eq.trans (x5n (h := 10) hT rfl) ?_
  refine Eq.trans (x1 (h := 11) hT rfl rfl (by decide)) ?_
  refine Eq.trans (x0 (h := 12) hT rfl) ?_
  refine Eq.trans (x5n (h := 13) hT rfl) ?_
  refine Eq.trans (x0 (h := 14) hT rfl) ?_
  refine Eq.trans (x5n (h := 15) hT rfl) ?_
  refine Eq.trans (x5_0 (h := 16) hT rfl) ?_
  refine Eq.trans (x2 (ls' := [(0, ((zbin 3 ((a0 - (zbin 3 ((zbin 8 a0 1)) 1431655765))) 858993459) + (zbin 3 ((zbin 8 ((a0 - (zbin 3 ((zbin 8 a0 1)) 1431655765))) 2)) 858993459)))]) (h := 17) hT rfl (Nat.le_of_ble_eq_true rfl) rfl) ?_
  refine Eq.trans (x1 (h := 18) hT rfl rfl (by decide)) ?_
  refine Eq.trans (x1 (h := 19) hT rfl rfl (by decide)) ?_
  refine Eq.trans (x0 (h := 20) hT rfl) ?_
  refine Eq.trans (x5n (h := 21) hT rfl) ?_
  refine Eq.trans (x5_0 (h := 22) hT rfl) ?_
  refine Eq.trans (x0 (h := 23) hT rfl) ?_
  refine Eq.trans (x5n (h := 24) hT rfl) ?_
  refine Eq.trans (x2 (ls' := [(0, (zbin 3 ((((zbin 3 ((a0 - (zbin 3 ((zbin 8 a0 1)) 1431655765))) 858993459) + (zbin 3 ((zbin 8 ((a0 - (zbin 3 ((zbin 8 a0 1)) 1431655765))) 2)) 858993459)) + (zbin 8 (((zbin 3 ((a0 - (zbin 3 ((zbin 8 a0 1)) 1431655765))) 858993459) + (zbin 3 ((zbin 8 ((a0 - (zbin 3 ((zbin 8 a0 1)) 1431655765))) 2)) 858993459))) 4))) 252645135))]) (h := 25) hT rfl (Nat.le_of_ble_eq_true rfl) rfl) ?_
  refine Eq.trans (x1 (h := 26) hT rfl rfl (by decide)) ?_
  refine Eq.trans (x1 (h := 27) hT rfl rfl (by decide)) ?_
  refine Eq.trans (x0 (h := 28) hT rfl) ?_
  refine Eq.trans (x5n (h := 29) hT rfl) ?_
  refine Eq.trans (x5_0 (h := 30) hT rfl) ?_
  refine Eq.trans (x2 (ls' := [(0, ((zbin 3 ((((zbin 3 ((a0 - (zbin 3 ((zbin 8 a0 1)) 1431655765))) 858993459) + (zbin 3 ((zbin 8 ((a0 - (zbin 3 ((zbin 8 a0 1)) 1431655765))) 2)) 858993459)) + (zbin 8 (((zbin 3 ((a0 - (zbin 3 ((zbin 8 a0 1)) 1431655765))) 858993459) + (zbin 3 ((zbin 8 ((a0 - (zbin 3 ((zbin 8 a0 1)) 1431655765))) 2)) 858993459))) 4))) 252645135) + (zbin 8 ((zbin 3 ((((zbin 3 ((a0 - (zbin 3 ((zbin 8 a0 1)) 1431655765))) 858993459) + (zbin 3 ((zbin 8 ((a0 - (zbin 3 ((zbin 8 a0 1)) 1431655765))) 2)) 858993459)) + (zbin 8 (((zbin 3 ((a0 - (zbin 3 ((zbin 8 a0 1)) 1431655765))) 858993459) + (zbin 3 ((zbin 8 ((a0 - (zbin 3 ((zbin 8 a0 1)) 1431655765))) 2)) 858993459))) 4))) 252645135)) 8)))]) (h := 31) hT rfl (Nat.le_of_ble_eq_true rfl) rfl) ?_
  refine Eq.trans (x1 (h := 32) hT rfl rfl (by decide)) ?_
  refine Eq.trans (x1 (h := 33) hT rfl rfl (by decide)) ?_
  refine Eq.trans (x0 (h := 34) hT rfl) ?_
  refine Eq.trans (x5n (h := 35) hT rfl) ?_
  refine Eq.trans (x5_0 (h := 36) hT rfl) ?_
  refine Eq.trans (x2 (ls' := [(0, (((zbin 3 ((((zbin 3 ((a0 - (zbin 3 ((zbin 8 a0 1)) 1431655765))) 858993459) + (zbin 3 ((zbin 8 ((a0 - (zbin 3 ((zbin 8 a0 1)) 1431655765))) 2)) 858993459)) + (zbin 8 (((zbin 3 ((a0 - (zbin 3 ((zbin 8 a0 1)) 1431655765))) 858993459) + (zbin 3 ((zbin 8 ((a0 - (zbin 3 ((zbin 8 a0 1)) 1431655765))) 2)) 858993459))) 4))) 252645135) + (zbin 8 ((zbin 3 ((((zbin 3 ((a0 - (zbin 3 ((zbin 8 a0 1)) 1431655765))) 858993459) + (zbin 3 ((zbin 8 ((a0 - (zbin 3 ((zbin 8 a0 1)) 1431655765))) 2)) 858993459)) + (zbin 8 (((zbin 3 ((a0 - (zbin 3 ((zbin 8 a0 1)) 1431655765))) 858993459) + (zbin 3 ((zbin 8 ((a0 - (zbin 3 ((zbin 8 a0 1)) 1431655765))) 2)) 858993459))) 4))) 252645135)) 8)) + (zbin 8 (((zbin 3 ((((zbin 3 ((a0 - (zbin 3 ((zbin 8 a0 1)) 1431655765))) 858993459) + (zbin 3 ((zbin 8 ((a0 - (zbin 3 ((zbin 8 a0 1)) 1431655765))) 2)) 858993459)) + (zbin 8 (((zbin 3 ((a0 - (zbin 3 ((zbin 8 a0 1)) 1431655765))) 858993459) + (zbin 3 ((zbin 8 ((a0 - (zbin 3 ((zbin 8 a0 1)) 1431655765))) 2)) 858993459))) 4))) 252645135) + (zbin 8 ((zbin 3 ((((zbin 3 ((a0 - (zbin 3 ((zbin 8 a0 1)) 1431655765))) 858993459) + (zbin 3 ((zbin 8 ((a0 - (zbin 3 ((zbin 8 a0 1)) 1431655765))) 2)) 858993459)) + (zbin 8 (((zbin 3 ((a0 - (zbin 3 ((zbin 8 a0 1)) 1431655765))) 858993459) + (zbin 3 ((zbin 8 ((a0 - (zbin 3 ((zbin 8 a0 1)) 1431655765))) 2)) 858993459))) 4))) 252645135)) 8))) 16)))]) (h := 37) hT rfl (Nat.le_of_ble_eq_true rfl) rfl) ?_
  refine Eq.trans (x1 (h := 38) hT rfl rfl (by decide)) ?_
  refine Eq.trans (x0 (h := 39) hT rfl) ?_
  refine Eq.trans (x5n (h := 40) hT rfl) ?_
  exact x201 (h := 41) hT rfl
/-! java/lang/Long.bitCount(J)I -/
set_option maxRecDepth 100000 in
theorem e_85 {P : zP} {d : zD P} {a0 : Int} : MM P 85 [(1, a0)] d = some ((zbin 3 (((((zlbin 3 ((((zlbin 3 ((a0 - (zlbin 3 ((zlsh 1 a0 1)) 6148914691236517205))) 3689348814741910323) + (zlbin 3 ((zlsh 1 ((a0 - (zlbin 3 ((zlsh 1 a0 1)) 6148914691236517205))) 2)) 3689348814741910323)) + (zlsh 1 (((zlbin 3 ((a0 - (zlbin 3 ((zlsh 1 a0 1)) 6148914691236517205))) 3689348814741910323) + (zlbin 3 ((zlsh 1 ((a0 - (zlbin 3 ((zlsh 1 a0 1)) 6148914691236517205))) 2)) 3689348814741910323))) 4))) 1085102592571150095) + (zlsh 1 ((zlbin 3 ((((zlbin 3 ((a0 - (zlbin 3 ((zlsh 1 a0 1)) 6148914691236517205))) 3689348814741910323) + (zlbin 3 ((zlsh 1 ((a0 - (zlbin 3 ((zlsh 1 a0 1)) 6148914691236517205))) 2)) 3689348814741910323)) + (zlsh 1 (((zlbin 3 ((a0 - (zlbin 3 ((zlsh 1 a0 1)) 6148914691236517205))) 3689348814741910323) + (zlbin 3 ((zlsh 1 ((a0 - (zlbin 3 ((zlsh 1 a0 1)) 6148914691236517205))) 2)) 3689348814741910323))) 4))) 1085102592571150095)) 8)) + (zlsh 1 (((zlbin 3 ((((zlbin 3 ((a0 - (zlbin 3 ((zlsh 1 a0 1)) 6148914691236517205))) 3689348814741910323) + (zlbin 3 ((zlsh 1 ((a0 - (zlbin 3 ((zlsh 1 a0 1)) 6148914691236517205))) 2)) 3689348814741910323)) + (zlsh 1 (((zlbin 3 ((a0 - (zlbin 3 ((zlsh 1 a0 1)) 6148914691236517205))) 3689348814741910323) + (zlbin 3 ((zlsh 1 ((a0 - (zlbin 3 ((zlsh 1 a0 1)) 6148914691236517205))) 2)) 3689348814741910323))) 4))) 1085102592571150095) + (zlsh 1 ((zlbin 3 ((((zlbin 3 ((a0 - (zlbin 3 ((zlsh 1 a0 1)) 6148914691236517205))) 3689348814741910323) + (zlbin 3 ((zlsh 1 ((a0 - (zlbin 3 ((zlsh 1 a0 1)) 6148914691236517205))) 2)) 3689348814741910323)) + (zlsh 1 (((zlbin 3 ((a0 - (zlbin 3 ((zlsh 1 a0 1)) 6148914691236517205))) 3689348814741910323) + (zlbin 3 ((zlsh 1 ((a0 - (zlbin 3 ((zlsh 1 a0 1)) 6148914691236517205))) 2)) 3689348814741910323))) 4))) 1085102592571150095)) 8))) 16)) + (zlsh 1 ((((zlbin 3 ((((zlbin 3 ((a0 - (zlbin 3 ((zlsh 1 a0 1)) 6148914691236517205))) 3689348814741910323) + (zlbin 3 ((zlsh 1 ((a0 - (zlbin 3 ((zlsh 1 a0 1)) 6148914691236517205))) 2)) 3689348814741910323)) + (zlsh 1 (((zlbin 3 ((a0 - (zlbin 3 ((zlsh 1 a0 1)) 6148914691236517205))) 3689348814741910323) + (zlbin 3 ((zlsh 1 ((a0 - (zlbin 3 ((zlsh 1 a0 1)) 6148914691236517205))) 2)) 3689348814741910323))) 4))) 1085102592571150095) + (zlsh 1 ((zlbin 3 ((((zlbin 3 ((a0 - (zlbin 3 ((zlsh 1 a0 1)) 6148914691236517205))) 3689348814741910323) + (zlbin 3 ((zlsh 1 ((a0 - (zlbin 3 ((zlsh 1 a0 1)) 6148914691236517205))) 2)) 3689348814741910323)) + (zlsh 1 (((zlbin 3 ((a0 - (zlbin 3 ((zlsh 1 a0 1)) 6148914691236517205))) 3689348814741910323) + (zlbin 3 ((zlsh 1 ((a0 - (zlbin 3 ((zlsh 1 a0 1)) 6148914691236517205))) 2)) 3689348814741910323))) 4))) 1085102592571150095)) 8)) + (zlsh 1 (((zlbin 3 ((((zlbin 3 ((a0 - (zlbin 3 ((zlsh 1 a0 1)) 6148914691236517205))) 3689348814741910323) + (zlbin 3 ((zlsh 1 ((a0 - (zlbin 3 ((zlsh 1 a0 1)) 6148914691236517205))) 2)) 3689348814741910323)) + (zlsh 1 (((zlbin 3 ((a0 - (zlbin 3 ((zlsh 1 a0 1)) 6148914691236517205))) 3689348814741910323) + (zlbin 3 ((zlsh 1 ((a0 - (zlbin 3 ((zlsh 1 a0 1)) 6148914691236517205))) 2)) 3689348814741910323))) 4))) 1085102592571150095) + (zlsh 1 ((zlbin 3 ((((zlbin 3 ((a0 - (zlbin 3 ((zlsh 1 a0 1)) 6148914691236517205))) 3689348814741910323) + (zlbin 3 ((zlsh 1 ((a0 - (zlbin 3 ((zlsh 1 a0 1)) 6148914691236517205))) 2)) 3689348814741910323)) + (zlsh 1 (((zlbin 3 ((a0 - (zlbin 3 ((zlsh 1 a0 1)) 6148914691236517205))) 3689348814741910323) + (zlbin 3 ((zlsh 1 ((a0 - (zlbin 3 ((zlsh 1 a0 1)) 6148914691236517205))) 2)) 3689348814741910323))) 4))) 1085102592571150095)) 8))) 16))) 32))) 127), d) := by
  have hT := cT_85
  refine Eq.trans (MM_def sm_85 (Nat.le_of_ble_eq_true rfl)) ?_
  change zB P 85 0 [(1, a0), (3, 0)] [] d = _
  refine Eq.trans (x1 (h := 0) hT rfl rfl (by decide)) ?_
  refine Eq.trans (x1 (h := 1) hT rfl rfl (by decide)) ?_
  refine Eq.trans (x0 (h := 2) hT rfl) ?_
  refine Eq.trans (x10 (h := 3) hT rfl) ?_
  refine Eq.trans (x0 (h := 4) hT rfl) ?_
  refine Eq.trans (x8n (h := 5) hT rfl) ?_
  refine Eq.trans (x8_1 (h := 6) hT rfl) ?_
  refine Eq.trans (x3 (ls' := [(1, (a0 - (zlbin 3 ((zlsh 1 a0 1)) 6148914691236517205))), (3, 0)]) (h := 7) hT rfl (Nat.le_of_ble_eq_true rfl) rfl) ?_
  refine Eq.trans (x1 (h := 8) hT rfl rfl (by decide)) ?_
  refine Eq.trans (x0 (h := 9) hT rfl) ?_
  refine Eq.trans (x8n (h := 10) hT rfl) ?_
  refine Eq.trans (x1 (h := 11) hT rfl rfl (by decide)) ?_
  refine Eq.trans (x0 (h := 12) hT rfl) ?_
  refine Eq.trans (x10 (h := 13) hT rfl) ?_
  refine Eq.trans (x0 (h := 14) hT rfl) ?_
  refine Eq.trans (x8n (h := 15) hT rfl) ?_
  refine Eq.trans (x8_0 (h := 16) hT rfl) ?_
  refine Eq.trans (x3 (ls' := [(1, ((zlbin 3 ((a0 - (zlbin 3 ((zlsh 1 a0 1)) 6148914691236517205))) 3689348814741910323) + (zlbin 3 ((zlsh 1 ((a0 - (zlbin 3 ((zlsh 1 a0 1)) 6148914691236517205))) 2)) 3689348814741910323))), (3, 0)]) (h := 17) hT rfl (Nat.le_of_ble_eq_true rfl) rfl) ?_
  refine Eq.trans (x1 (h := 18) hT rfl rfl (by decide)) ?_
  refine Eq.trans (x1 (h := 19) hT rfl rfl (by decide)) ?_
  refine Eq.trans (x0 (h := 20) hT rfl) ?_
  refine Eq.trans (x10 (h := 21) hT rfl) ?_
  refine Eq.trans (x8_0 (h := 22) hT rfl) ?_
  refine Eq.trans (x0 (h := 23) hT rfl) ?_
  refine Eq.trans (x8n (h := 24) hT rfl) ?_
  refine Eq.trans (x3 (ls' := [(1, (zlbin 3 ((((zlbin 3 ((a0 - (zlbin 3 ((zlsh 1 a0 1)) 6148914691236517205))) 3689348814741910323) + (zlbin 3 ((zlsh 1 ((a0 - (zlbin 3 ((zlsh 1 a0 1)) 6148914691236517205))) 2)) 3689348814741910323)) + (zlsh 1 (((zlbin 3 ((a0 - (zlbin 3 ((zlsh 1 a0 1)) 6148914691236517205))) 3689348814741910323) + (zlbin 3 ((zlsh 1 ((a0 - (zlbin 3 ((zlsh 1 a0 1)) 6148914691236517205))) 2)) 3689348814741910323))) 4))) 1085102592571150095)), (3, 0)]) (h := 25) hT rfl (Nat.le_of_ble_eq_true rfl) rfl) ?_
  refine Eq.trans (x1 (h := 26) hT rfl rfl (by decide)) ?_
  refine Eq.trans (x1 (h := 27) hT rfl rfl (by decide)) ?_
  refine Eq.trans (x0 (h := 28) hT rfl) ?_
  refine Eq.trans (x10 (h := 29) hT rfl) ?_
  refine Eq.trans (x8_0 (h := 30) hT rfl) ?_
  refine Eq.trans (x3 (ls' := [(1, ((zlbin 3 ((((zlbin 3 ((a0 - (zlbin 3 ((zlsh 1 a0 1)) 6148914691236517205))) 3689348814741910323) + (zlbin 3 ((zlsh 1 ((a0 - (zlbin 3 ((zlsh 1 a0 1)) 6148914691236517205))) 2)) 3689348814741910323)) + (zlsh 1 (((zlbin 3 ((a0 - (zlbin 3 ((zlsh 1 a0 1)) 6148914691236517205))) 3689348814741910323) + (zlbin 3 ((zlsh 1 ((a0 - (zlbin 3 ((zlsh 1 a0 1)) 6148914691236517205))) 2)) 3689348814741910323))) 4))) 1085102592571150095) + (zlsh 1 ((zlbin 3 ((((zlbin 3 ((a0 - (zlbin 3 ((zlsh 1 a0 1)) 6148914691236517205))) 3689348814741910323) + (zlbin 3 ((zlsh 1 ((a0 - (zlbin 3 ((zlsh 1 a0 1)) 6148914691236517205))) 2)) 3689348814741910323)) + (zlsh 1 (((zlbin 3 ((a0 - (zlbin 3 ((zlsh 1 a0 1)) 6148914691236517205))) 3689348814741910323) + (zlbin 3 ((zlsh 1 ((a0 - (zlbin 3 ((zlsh 1 a0 1)) 6148914691236517205))) 2)) 3689348814741910323))) 4))) 1085102592571150095)) 8))), (3, 0)]) (h := 31) hT rfl (Nat.le_of_ble_eq_true rfl) rfl) ?_
  refine Eq.trans (x1 (h := 32) hT rfl rfl (by decide)) ?_
  refine Eq.trans (x1 (h := 33) hT rfl rfl (by decide)) ?_
  refine Eq.trans (x0 (h := 34) hT rfl) ?_
  refine Eq.trans (x10 (h := 35) hT rfl) ?_
  refine Eq.trans (x8_0 (h := 36) hT rfl) ?_
  refine Eq.trans (x3 (ls' := [(1, (((zlbin 3 ((((zlbin 3 ((a0 - (zlbin 3 ((zlsh 1 a0 1)) 6148914691236517205))) 3689348814741910323) + (zlbin 3 ((zlsh 1 ((a0 - (zlbin 3 ((zlsh 1 a0 1)) 6148914691236517205))) 2)) 3689348814741910323)) + (zlsh 1 (((zlbin 3 ((a0 - (zlbin 3 ((zlsh 1 a0 1)) 6148914691236517205))) 3689348814741910323) + (zlbin 3 ((zlsh 1 ((a0 - (zlbin 3 ((zlsh 1 a0 1)) 6148914691236517205))) 2)) 3689348814741910323))) 4))) 1085102592571150095) + (zlsh 1 ((zlbin 3 ((((zlbin 3 ((a0 - (zlbin 3 ((zlsh 1 a0 1)) 6148914691236517205))) 3689348814741910323) + (zlbin 3 ((zlsh 1 ((a0 - (zlbin 3 ((zlsh 1 a0 1)) 6148914691236517205))) 2)) 3689348814741910323)) + (zlsh 1 (((zlbin 3 ((a0 - (zlbin 3 ((zlsh 1 a0 1)) 6148914691236517205))) 3689348814741910323) + (zlbin 3 ((zlsh 1 ((a0 - (zlbin 3 ((zlsh 1 a0 1)) 6148914691236517205))) 2)) 3689348814741910323))) 4))) 1085102592571150095)) 8)) + (zlsh 1 (((zlbin 3 ((((zlbin 3 ((a0 - (zlbin 3 ((zlsh 1 a0 1)) 6148914691236517205))) 3689348814741910323) + (zlbin 3 ((zlsh 1 ((a0 - (zlbin 3 ((zlsh 1 a0 1)) 6148914691236517205))) 2)) 3689348814741910323)) + (zlsh 1 (((zlbin 3 ((a0 - (zlbin 3 ((zlsh 1 a0 1)) 6148914691236517205))) 3689348814741910323) + (zlbin 3 ((zlsh 1 ((a0 - (zlbin 3 ((zlsh 1 a0 1)) 6148914691236517205))) 2)) 3689348814741910323))) 4))) 1085102592571150095) + (zlsh 1 ((zlbin 3 ((((zlbin 3 ((a0 - (zlbin 3 ((zlsh 1 a0 1)) 6148914691236517205))) 3689348814741910323) + (zlbin 3 ((zlsh 1 ((a0 - (zlbin 3 ((zlsh 1 a0 1)) 6148914691236517205))) 2)) 3689348814741910323)) + (zlsh 1 (((zlbin 3 ((a0 - (zlbin 3 ((zlsh 1 a0 1)) 6148914691236517205))) 3689348814741910323) + (zlbin 3 ((zlsh 1 ((a0 - (zlbin 3 ((zlsh 1 a0 1)) 6148914691236517205))) 2)) 3689348814741910323))) 4))) 1085102592571150095)) 8))) 16))), (3, 0)]) (h := 37) hT rfl (Nat.le_of_ble_eq_true rfl) rfl) ?_
  refine Eq.trans (x1 (h := 38) hT rfl rfl (by decide)) ?_
  refine Eq.trans (x1 (h := 39) hT rfl rfl (by decide)) ?_
  refine Eq.trans (x0 (h := 40) hT rfl) ?_
  refine Eq.trans (x10 (h := 41) hT rfl) ?_
  refine Eq.trans (x8_0 (h := 42) hT rfl) ?_
  refine Eq.trans (x3 (ls' := [(1, ((((zlbin 3 ((((zlbin 3 ((a0 - (zlbin 3 ((zlsh 1 a0 1)) 6148914691236517205))) 3689348814741910323) + (zlbin 3 ((zlsh 1 ((a0 - (zlbin 3 ((zlsh 1 a0 1)) 6148914691236517205))) 2)) 3689348814741910323)) + (zlsh 1 (((zlbin 3 ((a0 - (zlbin 3 ((zlsh 1 a0 1)) 6148914691236517205))) 3689348814741910323) + (zlbin 3 ((zlsh 1 ((a0 - (zlbin 3 ((zlsh 1 a0 1)) 6148914691236517205))) 2)) 3689348814741910323))) 4))) 1085102592571150095) + (zlsh 1 ((zlbin 3 ((((zlbin 3 ((a0 - (zlbin 3 ((zlsh 1 a0 1)) 6148914691236517205))) 3689348814741910323) + (zlbin 3 ((zlsh 1 ((a0 - (zlbin 3 ((zlsh 1 a0 1)) 6148914691236517205))) 2)) 3689348814741910323)) + (zlsh 1 (((zlbin 3 ((a0 - (zlbin 3 ((zlsh 1 a0 1)) 6148914691236517205))) 3689348814741910323) + (zlbin 3 ((zlsh 1 ((a0 - (zlbin 3 ((zlsh 1 a0 1)) 6148914691236517205))) 2)) 3689348814741910323))) 4))) 1085102592571150095)) 8)) + (zlsh 1 (((zlbin 3 ((((zlbin 3 ((a0 - (zlbin 3 ((zlsh 1 a0 1)) 6148914691236517205))) 3689348814741910323) + (zlbin 3 ((zlsh 1 ((a0 - (zlbin 3 ((zlsh 1 a0 1)) 6148914691236517205))) 2)) 3689348814741910323)) + (zlsh 1 (((zlbin 3 ((a0 - (zlbin 3 ((zlsh 1 a0 1)) 6148914691236517205))) 3689348814741910323) + (zlbin 3 ((zlsh 1 ((a0 - (zlbin 3 ((zlsh 1 a0 1)) 6148914691236517205))) 2)) 3689348814741910323))) 4))) 1085102592571150095) + (zlsh 1 ((zlbin 3 ((((zlbin 3 ((a0 - (zlbin 3 ((zlsh 1 a0 1)) 6148914691236517205))) 3689348814741910323) + (zlbin 3 ((zlsh 1 ((a0 - (zlbin 3 ((zlsh 1 a0 1)) 6148914691236517205))) 2)) 3689348814741910323)) + (zlsh 1 (((zlbin 3 ((a0 - (zlbin 3 ((zlsh 1 a0 1)) 6148914691236517205))) 3689348814741910323) + (zlbin 3 ((zlsh 1 ((a0 - (zlbin 3 ((zlsh 1 a0 1)) 6148914691236517205))) 2)) 3689348814741910323))) 4))) 1085102592571150095)) 8))) 16)) + (zlsh 1 ((((zlbin 3 ((((zlbin 3 ((a0 - (zlbin 3 ((zlsh 1 a0 1)) 6148914691236517205))) 3689348814741910323) + (zlbin 3 ((zlsh 1 ((a0 - (zlbin 3 ((zlsh 1 a0 1)) 6148914691236517205))) 2)) 3689348814741910323)) + (zlsh 1 (((zlbin 3 ((a0 - (zlbin 3 ((zlsh 1 a0 1)) 6148914691236517205))) 3689348814741910323) + (zlbin 3 ((zlsh 1 ((a0 - (zlbin 3 ((zlsh 1 a0 1)) 6148914691236517205))) 2)) 3689348814741910323))) 4))) 1085102592571150095) + (zlsh 1 ((zlbin 3 ((((zlbin 3 ((a0 - (zlbin 3 ((zlsh 1 a0 1)) 6148914691236517205))) 3689348814741910323) + (zlbin 3 ((zlsh 1 ((a0 - (zlbin 3 ((zlsh 1 a0 1)) 6148914691236517205))) 2)) 3689348814741910323)) + (zlsh 1 (((zlbin 3 ((a0 - (zlbin 3 ((zlsh 1 a0 1)) 6148914691236517205))) 3689348814741910323) + (zlbin 3 ((zlsh 1 ((a0 - (zlbin 3 ((zlsh 1 a0 1)) 6148914691236517205))) 2)) 3689348814741910323))) 4))) 1085102592571150095)) 8)) + (zlsh 1 (((zlbin 3 ((((zlbin 3 ((a0 - (zlbin 3 ((zlsh 1 a0 1)) 6148914691236517205))) 3689348814741910323) + (zlbin 3 ((zlsh 1 ((a0 - (zlbin 3 ((zlsh 1 a0 1)) 6148914691236517205))) 2)) 3689348814741910323)) + (zlsh 1 (((zlbin 3 ((a0 - (zlbin 3 ((zlsh 1 a0 1)) 6148914691236517205))) 3689348814741910323) + (zlbin 3 ((zlsh 1 ((a0 - (zlbin 3 ((zlsh 1 a0 1)) 6148914691236517205))) 2)) 3689348814741910323))) 4))) 1085102592571150095) + (zlsh 1 ((zlbin 3 ((((zlbin 3 ((a0 - (zlbin 3 ((zlsh 1 a0 1)) 6148914691236517205))) 3689348814741910323) + (zlbin 3 ((zlsh 1 ((a0 - (zlbin 3 ((zlsh 1 a0 1)) 6148914691236517205))) 2)) 3689348814741910323)) + (zlsh 1 (((zlbin 3 ((a0 - (zlbin 3 ((zlsh 1 a0 1)) 6148914691236517205))) 3689348814741910323) + (zlbin 3 ((zlsh 1 ((a0 - (zlbin 3 ((zlsh 1 a0 1)) 6148914691236517205))) 2)) 3689348814741910323))) 4))) 1085102592571150095)) 8))) 16))) 32))), (3, 0)]) (h := 43) hT rfl (Nat.le_of_ble_eq_true rfl) rfl) ?_
  refine Eq.trans (x1 (h := 44) hT rfl rfl (by decide)) ?_
  refine Eq.trans (x121 (h := 45) hT rfl) ?_
  refine Eq.trans (x0 (h := 46) hT rfl) ?_
  refine Eq.trans (x5n (h := 47) hT rfl) ?_
  exact x201 (h := 48) hT rfl
/-! java/util/Arrays.fill([II)V -/
set_option maxRecDepth 100000 in
theorem e_86 {P : zP} {d : zD P} {a0 : Nat} {na0 : Nat} {a1 : Int} (ha0 : zkd a0 = 20) (la0 : zln P a0 = na0) : MM P 86 [(2, ((a0 : Nat) : Int)), (0, a1)] d = zB P 86 5 [(2, ((a0 : Nat) : Int)), (0, a1), (0, 0), (0, (na0 : Int))] [] d := by
  have hT := cT_86
  refine Eq.trans (MM_def sm_86 (Nat.le_of_ble_eq_true rfl)) ?_
  change zB P 86 0 [(2, ((a0 : Nat) : Int)), (0, a1), (3, 0), (3, 0)] [] d = _
  refine Eq.trans (x0 (h := 0) hT rfl) ?_
  refine Eq.trans (x2 (ls' := [(2, ((a0 : Nat) : Int)), (0, a1), (0, 0), (3, 0)]) (h := 1) hT rfl (Nat.le_of_ble_eq_true rfl) rfl) ?_
  refine Eq.trans (x1 (h := 2) hT rfl rfl (by decide)) ?_
  refine Eq.trans (x26 (r := a0) (n := na0) (h := 3) hT rfl (by rw [ha0]; decide) la0) ?_
  refine Eq.trans (x2 (ls' := [(2, ((a0 : Nat) : Int)), (0, a1), (0, 0), (0, (na0 : Int))]) (h := 4) hT rfl (Nat.le_of_ble_eq_true rfl) rfl) ?_
  exact rfl
set_option maxRecDepth 100000 in
theorem q_86_5 {P : zP} {d : zD P} {a0 : Nat} {na0 : Nat} {a1 : Int} {a2 : Int} {a3 : Int} (ha0 : zkd a0 = 20) (la0 : zln P a0 = na0) : zB P 86 5 [(2, ((a0 : Nat) : Int)), (0, a1), (0, a2), (0, a3)] [] d = (if wr a3 ≤ wr a2 then some (0, d) else (if zin a2 na0 then zB P 86 5 [(2, ((a0 : Nat) : Int)), (0, a1), (0, (a2 + 1)), (0, a3)] [] ((d.up a0 (zix a2) a1)) else none)) := by
  have hT := cT_86
  refine Eq.trans (x1 (h := 5) hT rfl rfl (by decide)) ?_
  refine Eq.trans (x1 (h := 6) hT rfl rfl (by decide)) ?_
  refine Eq.trans (x17_3 (h := 7) hT rfl) ?_
  refine xit (fun _ => ?_) (fun _ => ?_)
  · exact x20 (h := 14) hT rfl
  · refine Eq.trans (x1 (h := 8) hT rfl rfl (by decide)) ?_
    refine Eq.trans (x1 (h := 9) hT rfl rfl (by decide)) ?_
    refine Eq.trans (x1 (h := 10) hT rfl rfl (by decide)) ?_
    refine Eq.trans (x25a (r := a0) (n := na0) (h := 11) hT rfl ha0 la0 (by decide) rfl) ?_
    refine xig (fun hz1 => ?_)
    refine Eq.trans (x4 (ls' := [(2, ((a0 : Nat) : Int)), (0, a1), (0, (a2 + 1)), (0, a3)]) (h := 12) hT rfl rfl rfl) ?_
    refine Eq.trans (x18 (h := 13) hT rfl) ?_
    exact rfl
/-! java/util/Arrays.fill([JJ)V -/
set_option maxRecDepth 100000 in
theorem e_87 {P : zP} {d : zD P} {a0 : Nat} {na0 : Nat} {a1 : Int} (ha0 : zkd a0 = 21) (la0 : zln P a0 = na0) : MM P 87 [(2, ((a0 : Nat) : Int)), (1, a1)] d = zB P 87 5 [(2, ((a0 : Nat) : Int)), (1, a1), (3, 0), (0, 0), (0, (na0 : Int))] [] d := by
  have hT := cT_87
  refine Eq.trans (MM_def sm_87 (Nat.le_of_ble_eq_true rfl)) ?_
  change zB P 87 0 [(2, ((a0 : Nat) : Int)), (1, a1), (3, 0), (3, 0), (3, 0)] [] d = _
  refine Eq.trans (x0 (h := 0) hT rfl) ?_
  refine Eq.trans (x2 (ls' := [(2, ((a0 : Nat) : Int)), (1, a1), (3, 0), (0, 0), (3, 0)]) (h := 1) hT rfl (Nat.le_of_ble_eq_true rfl) rfl) ?_
  refine Eq.trans (x1 (h := 2) hT rfl rfl (by decide)) ?_
  refine Eq.trans (x26 (r := a0) (n := na0) (h := 3) hT rfl (by rw [ha0]; decide) la0) ?_
  refine Eq.trans (x2 (ls' := [(2, ((a0 : Nat) : Int)), (1, a1), (3, 0), (0, 0), (0, (na0 : Int))]) (h := 4) hT rfl (Nat.le_of_ble_eq_true rfl) rfl) ?_
  exact rfl
set_option maxRecDepth 100000 in
theorem q_87_5 {P : zP} {d : zD P} {a0 : Nat} {na0 : Nat} {a1 : Int} {g2 : zV} {a3 : Int} {a4 : Int} (ha0 : zkd a0 = 21) (la0 : zln P a0 = na0) : zB P 87 5 [(2, ((a0 : Nat) : Int)), (1, a1), g2, (0, a3), (0, a4)] [] d = (if wr a4 ≤ wr a3 then some (0, d) else (if zin a3 na0 then zB P 87 5 [(2, ((a0 : Nat) : Int)), (1, a1), (if (g2).1 = 1 then (3, 0) else g2), (0, (a3 + 1)), (0, a4)] [] ((d.up a0 (zix a3) a1)) else none)) := by
  have hT := cT_87
  refine Eq.trans (x1 (h := 5) hT rfl rfl (by decide)) ?_
  refine Eq.trans (x1 (h := 6) hT rfl rfl (by decide)) ?_
  refine Eq.trans (x17_3 (h := 7) hT rfl) ?_
  refine xit (fun _ => ?_) (fun _ => ?_)
  · exact x20 (h := 14) hT rfl
  · refine Eq.trans (x1 (h := 8) hT rfl rfl (by decide)) ?_
    refine Eq.trans (x1 (h := 9) hT rfl rfl (by decide)) ?_
    refine Eq.trans (x1 (h := 10) hT rfl rfl (by decide)) ?_
    refine Eq.trans (x25a (r := a0) (n := na0) (h := 11) hT rfl ha0 la0 (by decide) rfl) ?_
    refine xig (fun hz1 => ?_)
    refine Eq.trans (x4 (ls' := [(2, ((a0 : Nat) : Int)), (1, a1), (if (g2).1 = 1 then (3, 0) else g2), (0, (a3 + 1)), (0, a4)]) (h := 12) hT rfl rfl rfl) ?_
    refine Eq.trans (x18 (h := 13) hT rfl) ?_
    exact rfl
/-! WordLinks$Corpus.meetPartners()V -/
set_option maxRecDepth 100000 in
theorem e_89 {P : zP} {d : zD P} {a0 : Nat} (ha0 : zkd a0 = 0) : MM P 89 [(2, ((a0 : Nat) : Int))] d = (if zin 0 2 then ((MM P 87 [(2, ((((a0 + 5) + (1 + zix 0)) : Nat) : Int)), (1, 0)] d).bind fun q2 => (if zin 1 2 then ((MM P 87 [(2, ((((a0 + 5) + (1 + zix 1)) : Nat) : Int)), (1, 0)] q2.2).bind fun q4 => zB P 89 14 [(2, ((a0 : Nat) : Int)), (0, 0), (3, 0), (3, 0), (3, 0), (3, 0)] [] q4.2) else none)) else none) := by
  have hT := cT_89
  refine Eq.trans (MM_def sm_89 (Nat.le_of_ble_eq_true rfl)) ?_
  change zB P 89 0 [(2, ((a0 : Nat) : Int)), (3, 0), (3, 0), (3, 0), (3, 0), (3, 0)] [] d = _
  refine Eq.trans (x1 (h := 0) hT rfl rfl (by decide)) ?_
  refine Eq.trans (x21r (r := a0) (cl := 0) (o := 5) (h := 1) hT rfl ha0 (by decide) rfl) ?_
  refine Eq.trans (x0 (h := 2) hT rfl) ?_
  refine Eq.trans (x24r (r := (a0 + 5)) (n := 2) (h := 3) hT rfl (kd_0_2 ha0) (ln_0_2 ha0) (by decide)) ?_
  refine xig (fun hz1 => ?_)
  refine Eq.trans (x0 (h := 4) hT rfl) ?_
  refine Eq.trans (x34 (as := [(2, ((((a0 + 5) + (1 + zix 0)) : Nat) : Int)), (1, 0)]) (st' := []) (h := 5) hT rfl sm_87 rfl) ?_
  refine xbd (fun q2 => ?_)
  rw [rv_87]
  change zB P 89 6 [(2, ((a0 : Nat) : Int)), (3, 0), (3, 0), (3, 0), (3, 0), (3, 0)] [] q2.2 = _
  refine Eq.trans (x1 (h := 6) hT rfl rfl (by decide)) ?_
  refine Eq.trans (x21r (r := a0) (cl := 0) (o := 5) (h := 7) hT rfl ha0 (by decide) rfl) ?_
  refine Eq.trans (x0 (h := 8) hT rfl) ?_
  refine Eq.trans (x24r (r := (a0 + 5)) (n := 2) (h := 9) hT rfl (kd_0_2 ha0) (ln_0_2 ha0) (by decide)) ?_
  refine xig (fun hz3 => ?_)
  refine Eq.trans (x0 (h := 10) hT rfl) ?_
  refine Eq.trans (x34 (as := [(2, ((((a0 + 5) + (1 + zix 1)) : Nat) : Int)), (1, 0)]) (st' := []) (h := 11) hT rfl sm_87 rfl) ?_
  refine xbd (fun q4 => ?_)
  rw [rv_87]
  change zB P 89 12 [(2, ((a0 : Nat) : Int)), (3, 0), (3, 0), (3, 0), (3, 0), (3, 0)] [] q4.2 = _
  refine Eq.trans (x0 (h := 12) hT rfl) ?_
  refine Eq.trans (x2 (ls' := [(2, ((a0 : Nat) : Int)), (0, 0), (3, 0), (3, 0), (3, 0), (3, 0)]) (h := 13) hT rfl (Nat.le_of_ble_eq_true rfl) rfl) ?_
  exact rfl
set_option maxRecDepth 100000 in
theorem q_89_14 {P : zP} {d : zD P} {a0 : Nat} {a1 : Int} {g2 : zV} {g3 : zV} {g4 : zV} {g5 : zV} (ha0 : zkd a0 = 0) : zB P 89 14 [(2, ((a0 : Nat) : Int)), (0, a1), g2, g3, g4, g5] [] d = (if wr ((d.m a0 6)) ≤ wr a1 then some (0, d) else zB P 89 20 [(2, ((a0 : Nat) : Int)), (0, a1), (0, 0), g3, g4, g5] [] d) := by
  have hT := cT_89
  refine Eq.trans (x1 (h := 14) hT rfl rfl (by decide)) ?_
  refine Eq.trans (x1 (h := 15) hT rfl rfl (by decide)) ?_
  refine Eq.trans (x21 (r := a0) (cl := 0) (h := 16) hT rfl ha0) ?_
  refine Eq.trans (x17_3 (h := 17) hT rfl) ?_
  refine xit (fun _ => ?_) (fun _ => ?_)
  · exact x20 (h := 80) hT rfl
  · refine Eq.trans (x0 (h := 18) hT rfl) ?_
    refine Eq.trans (x2 (ls' := [(2, ((a0 : Nat) : Int)), (0, a1), (0, 0), g3, g4, g5]) (h := 19) hT rfl (Nat.le_of_ble_eq_true rfl) rfl) ?_
    exact rfl
set_option maxRecDepth 100000 in
theorem q_89_20 {P : zP} {d : zD P} {a0 : Nat} {a1 : Int} {a2 : Int} {g3 : zV} {g4 : zV} {g5 : zV} (ha0 : zkd a0 = 0) : zB P 89 20 [(2, ((a0 : Nat) : Int)), (0, a1), (0, a2), g3, g4, g5] [] d = (if zin 0 2 then (if zin a1 24 then (if wr ((d.m (((a0 + 8) + (1 + zix 0))) (zix a1))) ≤ wr a2 then zB P 89 14 [(2, ((a0 : Nat) : Int)), (0, (a1 + 1)), (0, a2), g3, g4, g5] [] d else zB P 89 30 [(2, ((a0 : Nat) : Int)), (0, a1), (0, a2), (0, 0), g4, g5] [] d) else none) else none) := by
  have hT := cT_89
  refine Eq.trans (x1 (h := 20) hT rfl rfl (by decide)) ?_
  refine Eq.trans (x1 (h := 21) hT rfl rfl (by decide)) ?_
  refine Eq.trans (x21r (r := a0) (cl := 0) (o := 8) (h := 22) hT rfl ha0 (by decide) rfl) ?_
  refine Eq.trans (x0 (h := 23) hT rfl) ?_
  refine Eq.trans (x24r (r := (a0 + 8)) (n := 2) (h := 24) hT rfl (kd_0_3 ha0) (ln_0_3 ha0) (by decide)) ?_
  refine xig (fun hz5 => ?_)
  refine Eq.trans (x1 (h := 25) hT rfl rfl (by decide)) ?_
  refine Eq.trans (x24 (r := ((a0 + 8) + (1 + zix 0))) (n := 24) (h := 26) hT rfl (Or.inl (kq_0_3 ha0 (zix_lt hz5))) (lq_0_3 ha0 (zix_lt hz5))) ?_
  refine xig (fun hz6 => ?_)
  refine Eq.trans (x17_3 (h := 27) hT rfl) ?_
  refine xit (fun _ => ?_) (fun _ => ?_)
  · refine Eq.trans (x4 (ls' := [(2, ((a0 : Nat) : Int)), (0, (a1 + 1)), (0, a2), g3, g4, g5]) (h := 78) hT rfl rfl rfl) ?_
    refine Eq.trans (x18 (h := 79) hT rfl) ?_
    exact rfl
  · refine Eq.trans (x0 (h := 28) hT rfl) ?_
    refine Eq.trans (x2 (ls' := [(2, ((a0 : Nat) : Int)), (0, a1), (0, a2), (0, 0), g4, g5]) (h := 29) hT rfl (Nat.le_of_ble_eq_true rfl) rfl) ?_
    exact rfl
set_option maxRecDepth 100000 in
theorem q_89_30 {P : zP} {d : zD P} {a0 : Nat} {a1 : Int} {a2 : Int} {a3 : Int} {g4 : zV} {g5 : zV} (ha0 : zkd a0 = 0) : zB P 89 30 [(2, ((a0 : Nat) : Int)), (0, a1), (0, a2), (0, a3), g4, g5] [] d = (if zin 1 2 then (if zin a1 24 then (if wr ((d.m (((a0 + 8) + (1 + zix 1))) (zix a1))) ≤ wr a3 then zB P 89 20 [(2, ((a0 : Nat) : Int)), (0, a1), (0, (a2 + 1)), (0, a3), g4, g5] [] d else ((MM P 5 [(2, ((a0 : Nat) : Int)), (0, 0), (0, a1), (0, a2)] d).bind fun q9 => ((MM P 5 [(2, ((a0 : Nat) : Int)), (0, 1), (0, a1), (0, a3)] q9.2).bind fun q10 => (if zin 0 2 then (if zin q9.1 40 then (if zin q9.1 40 then (if zin 1 2 then (if zin q10.1 40 then (if zin q10.1 40 then zB P 89 30 [(2, ((a0 : Nat) : Int)), (0, a1), (0, a2), (0, (a3 + 1)), (0, q9.1), (0, q10.1)] [] ((((q10.2.up (((a0 + 5) + (1 + zix 0))) (zix q9.1) ((zlbin 4 ((q10.2.m (((a0 + 5) + (1 + zix 0))) (zix q9.1))) ((zlsh 0 1 q10.1)))))).up (((a0 + 5) + (1 + zix 1))) (zix q10.1) ((zlbin 4 ((((q10.2.up (((a0 + 5) + (1 + zix 0))) (zix q9.1) ((zlbin 4 ((q10.2.m (((a0 + 5) + (1 + zix 0))) (zix q9.1))) ((zlsh 0 1 q10.1)))))).m (((a0 + 5) + (1 + zix 1))) (zix q10.1))) ((zlsh 0 1 q9.1)))))) else none) else none) else none) else none) else none) else none)))) else none) else none) := by
  have hT := cT_89
  refine Eq.trans (x1 (h := 30) hT rfl rfl (by decide)) ?_
  refine Eq.trans (x1 (h := 31) hT rfl rfl (by decide)) ?_
  refine Eq.trans (x21r (r := a0) (cl := 0) (o := 8) (h := 32) hT rfl ha0 (by decide) rfl) ?_
  refine Eq.trans (x0 (h := 33) hT rfl) ?_
  refine Eq.trans (x24r (r := (a0 + 8)) (n := 2) (h := 34) hT rfl (kd_0_3 ha0) (ln_0_3 ha0) (by decide)) ?_
  refine xig (fun hz7 => ?_)
  refine Eq.trans (x1 (h := 35) hT rfl rfl (by decide)) ?_
  refine Eq.trans (x24 (r := ((a0 + 8) + (1 + zix 1))) (n := 24) (h := 36) hT rfl (Or.inl (kq_0_3 ha0 (zix_lt hz7))) (lq_0_3 ha0 (zix_lt hz7))) ?_
  refine xig (fun hz8 => ?_)
  refine Eq.trans (x17_3 (h := 37) hT rfl) ?_
  refine xit (fun _ => ?_) (fun _ => ?_)
  · refine Eq.trans (x4 (ls' := [(2, ((a0 : Nat) : Int)), (0, a1), (0, (a2 + 1)), (0, a3), g4, g5]) (h := 76) hT rfl rfl rfl) ?_
    refine Eq.trans (x18 (h := 77) hT rfl) ?_
    exact rfl
  · refine Eq.trans (x1 (h := 38) hT rfl rfl (by decide)) ?_
    refine Eq.trans (x0 (h := 39) hT rfl) ?_
    refine Eq.trans (x1 (h := 40) hT rfl rfl (by decide)) ?_
    refine Eq.trans (x1 (h := 41) hT rfl rfl (by decide)) ?_
    refine Eq.trans (x31 (r := a0) (cl := 0) (as := [(0, 0), (0, a1), (0, a2)]) (st' := []) (h := 42) hT rfl sm_5 rfl ha0) ?_
    refine xbd (fun q9 => ?_)
    rw [rv_5]
    change zB P 89 43 [(2, ((a0 : Nat) : Int)), (0, a1), (0, a2), (0, a3), g4, g5] [(0, q9.1)] q9.2 = _
    refine Eq.trans (x2 (ls' := [(2, ((a0 : Nat) : Int)), (0, a1), (0, a2), (0, a3), (0, q9.1), g5]) (h := 43) hT rfl (Nat.le_of_ble_eq_true rfl) rfl) ?_
    refine Eq.trans (x1 (h := 44) hT rfl rfl (by decide)) ?_
    refine Eq.trans (x0 (h := 45) hT rfl) ?_
    refine Eq.trans (x1 (h := 46) hT rfl rfl (by decide)) ?_
    refine Eq.trans (x1 (h := 47) hT rfl rfl (by decide)) ?_
    refine Eq.trans (x31 (r := a0) (cl := 0) (as := [(0, 1), (0, a1), (0, a3)]) (st' := []) (h := 48) hT rfl sm_5 rfl ha0) ?_
    refine xbd (fun q10 => ?_)
    rw [rv_5]
    change zB P 89 49 [(2, ((a0 : Nat) : Int)), (0, a1), (0, a2), (0, a3), (0, q9.1), g5] [(0, q10.1)] q10.2 = _
    refine Eq.trans (x2 (ls' := [(2, ((a0 : Nat) : Int)), (0, a1), (0, a2), (0, a3), (0, q9.1), (0, q10.1)]) (h := 49) hT rfl (Nat.le_of_ble_eq_true rfl) rfl) ?_
    refine Eq.trans (x1 (h := 50) hT rfl rfl (by decide)) ?_
    refine Eq.trans (x21r (r := a0) (cl := 0) (o := 5) (h := 51) hT rfl ha0 (by decide) rfl) ?_
    refine Eq.trans (x0 (h := 52) hT rfl) ?_
    refine Eq.trans (x24r (r := (a0 + 5)) (n := 2) (h := 53) hT rfl (kd_0_2 ha0) (ln_0_2 ha0) (by decide)) ?_
    refine xig (fun hz11 => ?_)
    refine Eq.trans (x1 (h := 54) hT rfl rfl (by decide)) ?_
    refine Eq.trans (x14 (h := 55) hT rfl (by decide)) ?_
    refine Eq.trans (x24 (r := ((a0 + 5) + (1 + zix 0))) (n := 40) (h := 56) hT rfl (Or.inl (kq_0_2 ha0 (zix_lt hz11))) (lq_0_2 ha0 (zix_lt hz11))) ?_
    refine xig (fun hz12 => ?_)
    refine Eq.trans (x0 (h := 57) hT rfl) ?_
    refine Eq.trans (x1 (h := 58) hT rfl rfl (by decide)) ?_
    refine Eq.trans (x10 (h := 59) hT rfl) ?_
    refine Eq.trans (x8n (h := 60) hT rfl) ?_
    refine Eq.trans (x25a (r := ((a0 + 5) + (1 + zix 0))) (n := 40) (h := 61) hT rfl (kq_0_2 ha0 (zix_lt hz11)) (lq_0_2 ha0 (zix_lt hz11)) (by decide) rfl) ?_
    refine xig (fun hz13 => ?_)
    refine Eq.trans (x1 (h := 62) hT rfl rfl (by decide)) ?_
    refine Eq.trans (x21r (r := a0) (cl := 0) (o := 5) (h := 63) hT rfl ha0 (by decide) rfl) ?_
    refine Eq.trans (x0 (h := 64) hT rfl) ?_
    refine Eq.trans (x24r (r := (a0 + 5)) (n := 2) (h := 65) hT rfl (kd_0_2 ha0) (ln_0_2 ha0) (by decide)) ?_
    refine xig (fun hz14 => ?_)
    refine Eq.trans (x1 (h := 66) hT rfl rfl (by decide)) ?_
    refine Eq.trans (x14 (h := 67) hT rfl (by decide)) ?_
    refine Eq.trans (x24 (r := ((a0 + 5) + (1 + zix 1))) (n := 40) (h := 68) hT rfl (Or.inl (kq_0_2 ha0 (zix_lt hz14))) (lq_0_2 ha0 (zix_lt hz14))) ?_
    refine xig (fun hz15 => ?_)
    refine Eq.trans (x0 (h := 69) hT rfl) ?_
    refine Eq.trans (x1 (h := 70) hT rfl rfl (by decide)) ?_
    refine Eq.trans (x10 (h := 71) hT rfl) ?_
    refine Eq.trans (x8n (h := 72) hT rfl) ?_
    refine Eq.trans (x25a (r := ((a0 + 5) + (1 + zix 1))) (n := 40) (h := 73) hT rfl (kq_0_2 ha0 (zix_lt hz14)) (lq_0_2 ha0 (zix_lt hz14)) (by decide) rfl) ?_
    refine xig (fun hz16 => ?_)
    refine Eq.trans (x4 (ls' := [(2, ((a0 : Nat) : Int)), (0, a1), (0, a2), (0, (a3 + 1)), (0, q9.1), (0, q10.1)]) (h := 74) hT rfl rfl rfl) ?_
    refine Eq.trans (x18 (h := 75) hT rfl) ?_
    exact rfl
/-! WordLinks$Corpus.placesOf(II)I -/
set_option maxRecDepth 100000 in
theorem e_90 {P : zP} {d : zD P} {a0 : Nat} {a1 : Int} {a2 : Int} (ha0 : zkd a0 = 0) : MM P 90 [(2, ((a0 : Nat) : Int)), (0, a1), (0, a2)] d = zB P 90 4 [(2, ((a0 : Nat) : Int)), (0, a1), (0, a2), (0, 0), (0, 0), (3, 0)] [] d := by
  have hT := cT_90
  refine Eq.trans (MM_def sm_90 (Nat.le_of_ble_eq_true rfl)) ?_
  change zB P 90 0 [(2, ((a0 : Nat) : Int)), (0, a1), (0, a2), (3, 0), (3, 0), (3, 0)] [] d = _
  refine Eq.trans (x0 (h := 0) hT rfl) ?_
  refine Eq.trans (x2 (ls' := [(2, ((a0 : Nat) : Int)), (0, a1), (0, a2), (0, 0), (3, 0), (3, 0)]) (h := 1) hT rfl (Nat.le_of_ble_eq_true rfl) rfl) ?_
  refine Eq.trans (x0 (h := 2) hT rfl) ?_
  refine Eq.trans (x2 (ls' := [(2, ((a0 : Nat) : Int)), (0, a1), (0, a2), (0, 0), (0, 0), (3, 0)]) (h := 3) hT rfl (Nat.le_of_ble_eq_true rfl) rfl) ?_
  exact rfl
set_option maxRecDepth 100000 in
theorem q_90_4 {P : zP} {d : zD P} {a0 : Nat} {a1 : Int} {a2 : Int} {a3 : Int} {a4 : Int} {g5 : zV} (ha0 : zkd a0 = 0) : zB P 90 4 [(2, ((a0 : Nat) : Int)), (0, a1), (0, a2), (0, a3), (0, a4), g5] [] d = (if wr ((d.m a0 6)) ≤ wr a4 then some (a3, d) else zB P 90 10 [(2, ((a0 : Nat) : Int)), (0, a1), (0, a2), (0, a3), (0, a4), (0, 0)] [] d) := by
  have hT := cT_90
  refine Eq.trans (x1 (h := 4) hT rfl rfl (by decide)) ?_
  refine Eq.trans (x1 (h := 5) hT rfl rfl (by decide)) ?_
  refine Eq.trans (x21 (r := a0) (cl := 0) (h := 6) hT rfl ha0) ?_
  refine Eq.trans (x17_3 (h := 7) hT rfl) ?_
  refine xit (fun _ => ?_) (fun _ => ?_)
  · refine Eq.trans (x1 (h := 30) hT rfl rfl (by decide)) ?_
    exact x201 (h := 31) hT rfl
  · refine Eq.trans (x0 (h := 8) hT rfl) ?_
    refine Eq.trans (x2 (ls' := [(2, ((a0 : Nat) : Int)), (0, a1), (0, a2), (0, a3), (0, a4), (0, 0)]) (h := 9) hT rfl (Nat.le_of_ble_eq_true rfl) rfl) ?_
    exact rfl
set_option maxRecDepth 100000 in
theorem q_90_10 {P : zP} {d : zD P} {a0 : Nat} {a1 : Int} {a2 : Int} {a3 : Int} {a4 : Int} {a5 : Int} (ha0 : zkd a0 = 0) : zB P 90 10 [(2, ((a0 : Nat) : Int)), (0, a1), (0, a2), (0, a3), (0, a4), (0, a5)] [] d = (if zin a1 2 then (if zin a4 24 then (if wr ((d.m (((a0 + 8) + (1 + zix a1))) (zix a4))) ≤ wr a5 then zB P 90 4 [(2, ((a0 : Nat) : Int)), (0, a1), (0, a2), (0, a3), (0, (a4 + 1)), (0, a5)] [] d else ((MM P 5 [(2, ((a0 : Nat) : Int)), (0, a1), (0, a4), (0, a5)] d).bind fun q3 => (if wr q3.1 ≠ wr a2 then zB P 90 10 [(2, ((a0 : Nat) : Int)), (0, a1), (0, a2), (0, a3), (0, a4), (0, (a5 + 1))] [] q3.2 else zB P 90 10 [(2, ((a0 : Nat) : Int)), (0, a1), (0, a2), (0, (a3 + 1)), (0, a4), (0, (a5 + 1))] [] q3.2))) else none) else none) := by
  have hT := cT_90
  refine Eq.trans (x1 (h := 10) hT rfl rfl (by decide)) ?_
  refine Eq.trans (x1 (h := 11) hT rfl rfl (by decide)) ?_
  refine Eq.trans (x21r (r := a0) (cl := 0) (o := 8) (h := 12) hT rfl ha0 (by decide) rfl) ?_
  refine Eq.trans (x1 (h := 13) hT rfl rfl (by decide)) ?_
  refine Eq.trans (x24r (r := (a0 + 8)) (n := 2) (h := 14) hT rfl (kd_0_3 ha0) (ln_0_3 ha0) (by decide)) ?_
  refine xig (fun hz1 => ?_)
  refine Eq.trans (x1 (h := 15) hT rfl rfl (by decide)) ?_
  refine Eq.trans (x24 (r := ((a0 + 8) + (1 + zix a1))) (n := 24) (h := 16) hT rfl (Or.inl (kq_0_3 ha0 (zix_lt hz1))) (lq_0_3 ha0 (zix_lt hz1))) ?_
  refine xig (fun hz2 => ?_)
  refine Eq.trans (x17_3 (h := 17) hT rfl) ?_
  refine xit (fun _ => ?_) (fun _ => ?_)
  · refine Eq.trans (x4 (ls' := [(2, ((a0 : Nat) : Int)), (0, a1), (0, a2), (0, a3), (0, (a4 + 1)), (0, a5)]) (h := 28) hT rfl rfl rfl) ?_
    refine Eq.trans (x18 (h := 29) hT rfl) ?_
    exact rfl
  · refine Eq.trans (x1 (h := 18) hT rfl rfl (by decide)) ?_
    refine Eq.trans (x1 (h := 19) hT rfl rfl (by decide)) ?_
    refine Eq.trans (x1 (h := 20) hT rfl rfl (by decide)) ?_
    refine Eq.trans (x1 (h := 21) hT rfl rfl (by decide)) ?_
    refine Eq.trans (x31 (r := a0) (cl := 0) (as := [(0, a1), (0, a4), (0, a5)]) (st' := []) (h := 22) hT rfl sm_5 rfl ha0) ?_
    refine xbd (fun q3 => ?_)
    rw [rv_5]
    change zB P 90 23 [(2, ((a0 : Nat) : Int)), (0, a1), (0, a2), (0, a3), (0, a4), (0, a5)] [(0, q3.1)] q3.2 = _
    refine Eq.trans (x1 (h := 23) hT rfl rfl (by decide)) ?_
    refine Eq.trans (x17_1 (h := 24) hT rfl) ?_
    refine xit (fun _ => ?_) (fun _ => ?_)
    · refine Eq.trans (x4 (ls' := [(2, ((a0 : Nat) : Int)), (0, a1), (0, a2), (0, a3), (0, a4), (0, (a5 + 1))]) (h := 26) hT rfl rfl rfl) ?_
      refine Eq.trans (x18 (h := 27) hT rfl) ?_
      exact rfl
    · refine Eq.trans (x4 (ls' := [(2, ((a0 : Nat) : Int)), (0, a1), (0, a2), (0, (a3 + 1)), (0, a4), (0, a5)]) (h := 25) hT rfl rfl rfl) ?_
      refine Eq.trans (x4 (ls' := [(2, ((a0 : Nat) : Int)), (0, a1), (0, a2), (0, (a3 + 1)), (0, a4), (0, (a5 + 1))]) (h := 26) hT rfl rfl rfl) ?_
      refine Eq.trans (x18 (h := 27) hT rfl) ?_
      exact rfl
/-! WordLinks$Corpus.takeAll(LWordLinks$Corpus;)V -/
set_option maxRecDepth 100000 in
theorem e_91 {P : zP} {d : zD P} {a0 : Nat} {a1 : Nat} (ha0 : zkd a0 = 0) (ha1 : zkd a1 = 0) : MM P 91 [(2, ((a0 : Nat) : Int)), (2, ((a1 : Nat) : Int))] d = (if 0 ≤ wr 0 ∧ 0 ≤ wr 0 ∧ 0 ≤ wr 144 ∧ zix 0 + zix 144 ≤ 144 ∧ zix 0 + zix 144 ≤ 144 then zB P 91 16 [(2, ((a0 : Nat) : Int)), (2, ((a1 : Nat) : Int)), (0, 0)] [] ((((d.up a0 6 ((d.m a1 6)))).cp ((a1 + 14)) ((a0 + 14)) (zix 0) (zix 0) (zix 144))) else none) := by
  have hT := cT_91
  refine Eq.trans (MM_def sm_91 (Nat.le_of_ble_eq_true rfl)) ?_
  change zB P 91 0 [(2, ((a0 : Nat) : Int)), (2, ((a1 : Nat) : Int)), (3, 0)] [] d = _
  refine Eq.trans (x1 (h := 0) hT rfl rfl (by decide)) ?_
  refine Eq.trans (x1 (h := 1) hT rfl rfl (by decide)) ?_
  refine Eq.trans (x21 (r := a1) (cl := 0) (h := 2) hT rfl ha1) ?_
  refine Eq.trans (x22 (r := a0) (cl := 0) (h := 3) hT rfl ha0 (by decide) rfl (by decide)) ?_
  refine Eq.trans (x1 (h := 4) hT rfl rfl (by decide)) ?_
  refine Eq.trans (x21r (r := a1) (cl := 0) (o := 14) (h := 5) hT rfl ha1 (by decide) rfl) ?_
  refine Eq.trans (x0 (h := 6) hT rfl) ?_
  refine Eq.trans (x1 (h := 7) hT rfl rfl (by decide)) ?_
  refine Eq.trans (x21r (r := a0) (cl := 0) (o := 14) (h := 8) hT rfl ha0 (by decide) rfl) ?_
  refine Eq.trans (x0 (h := 9) hT rfl) ?_
  refine Eq.trans (x1 (h := 10) hT rfl rfl (by decide)) ?_
  refine Eq.trans (x21r (r := a0) (cl := 0) (o := 14) (h := 11) hT rfl ha0 (by decide) rfl) ?_
  refine Eq.trans (x26 (r := (a0 + 14)) (n := 144) (h := 12) hT rfl (by rw [(kd_0_5 ha0)]; decide) (ln_0_5 ha0)) ?_
  refine Eq.trans (x32 (r1 := (a1 + 14)) (r2 := (a0 + 14)) (n1 := 144) (n2 := 144) (h := 13) hT rfl (kd_0_5 ha1) (kd_0_5 ha0) (by decide) (ln_0_5 ha1) (ln_0_5 ha0) rfl) ?_
  refine xig (fun hz1 => ?_)
  refine Eq.trans (x0 (h := 14) hT rfl) ?_
  refine Eq.trans (x2 (ls' := [(2, ((a0 : Nat) : Int)), (2, ((a1 : Nat) : Int)), (0, 0)]) (h := 15) hT rfl (Nat.le_of_ble_eq_true rfl) rfl) ?_
  exact rfl
set_option maxRecDepth 100000 in
theorem q_91_16 {P : zP} {d : zD P} {a0 : Nat} {a1 : Nat} {a2 : Int} (ha0 : zkd a0 = 0) (ha1 : zkd a1 = 0) : zB P 91 16 [(2, ((a0 : Nat) : Int)), (2, ((a1 : Nat) : Int)), (0, a2)] [] d = (if wr 2 ≤ wr a2 then some (0, d) else (if zin a2 2 then (if zin a2 2 then (if zin a2 2 then (if zin a2 2 then (if 0 ≤ wr 0 ∧ 0 ≤ wr 0 ∧ 0 ≤ wr 40 ∧ zix 0 + zix 40 ≤ 40 ∧ zix 0 + zix 40 ≤ 40 then (if zin a2 2 then (if zin a2 2 then (if 0 ≤ wr 0 ∧ 0 ≤ wr 0 ∧ 0 ≤ wr 40 ∧ zix 0 + zix 40 ≤ 40 ∧ zix 0 + zix 40 ≤ 40 then (if zin a2 2 then (if zin a2 2 then (if 0 ≤ wr 0 ∧ 0 ≤ wr 0 ∧ 0 ≤ wr 24 ∧ zix 0 + zix 24 ≤ 24 ∧ zix 0 + zix 24 ≤ 24 then (if zin a2 2 then (if zin a2 2 then (if 0 ≤ wr 0 ∧ 0 ≤ wr 0 ∧ 0 ≤ wr 144 ∧ zix 0 + zix 144 ≤ 144 ∧ zix 0 + zix 144 ≤ 144 then zB P 91 16 [(2, ((a0 : Nat) : Int)), (2, ((a1 : Nat) : Int)), (0, (a2 + 1))] [] ((((((((((d.up ((a0 + 1)) (zix a2) ((d.m ((a1 + 1)) (zix a2))))).cp (((a1 + 2) + (1 + zix a2))) (((a0 + 2) + (1 + zix a2))) (zix 0) (zix 0) (zix 40))).cp (((a1 + 5) + (1 + zix a2))) (((a0 + 5) + (1 + zix a2))) (zix 0) (zix 0) (zix 40))).cp (((a1 + 8) + (1 + zix a2))) (((a0 + 8) + (1 + zix a2))) (zix 0) (zix 0) (zix 24))).cp (((a1 + 11) + (1 + zix a2))) (((a0 + 11) + (1 + zix a2))) (zix 0) (zix 0) (zix 144))) else none) else none) else none) else none) else none) else none) else none) else none) else none) else none) else none) else none) else none) else none)) := by
  have hT := cT_91
  refine Eq.trans (x1 (h := 16) hT rfl rfl (by decide)) ?_
  refine Eq.trans (x0 (h := 17) hT rfl) ?_
  refine Eq.trans (x17_3 (h := 18) hT rfl) ?_
  refine xit (fun _ => ?_) (fun _ => ?_)
  · exact x20 (h := 77) hT rfl
  · refine Eq.trans (x1 (h := 19) hT rfl rfl (by decide)) ?_
    refine Eq.trans (x21r (r := a0) (cl := 0) (o := 1) (h := 20) hT rfl ha0 (by decide) rfl) ?_
    refine Eq.trans (x1 (h := 21) hT rfl rfl (by decide)) ?_
    refine Eq.trans (x1 (h := 22) hT rfl rfl (by decide)) ?_
    refine Eq.trans (x21r (r := a1) (cl := 0) (o := 1) (h := 23) hT rfl ha1 (by decide) rfl) ?_
    refine Eq.trans (x1 (h := 24) hT rfl rfl (by decide)) ?_
    refine Eq.trans (x24 (r := (a1 + 1)) (n := 2) (h := 25) hT rfl (Or.inl (kd_0_0 ha1)) (ln_0_0 ha1)) ?_
    refine xig (fun hz2 => ?_)
    refine Eq.trans (x25a (r := (a0 + 1)) (n := 2) (h := 26) hT rfl (kd_0_0 ha0) (ln_0_0 ha0) (by decide) rfl) ?_
    refine xig (fun hz3 => ?_)
    refine Eq.trans (x1 (h := 27) hT rfl rfl (by decide)) ?_
    refine Eq.trans (x21r (r := a1) (cl := 0) (o := 2) (h := 28) hT rfl ha1 (by decide) rfl) ?_
    refine Eq.trans (x1 (h := 29) hT rfl rfl (by decide)) ?_
    refine Eq.trans (x24r (r := (a1 + 2)) (n := 2) (h := 30) hT rfl (kd_0_1 ha1) (ln_0_1 ha1) (by decide)) ?_
    refine xig (fun hz4 => ?_)
    refine Eq.trans (x0 (h := 31) hT rfl) ?_
    refine Eq.trans (x1 (h := 32) hT rfl rfl (by decide)) ?_
    refine Eq.trans (x21r (r := a0) (cl := 0) (o := 2) (h := 33) hT rfl ha0 (by decide) rfl) ?_
    refine Eq.trans (x1 (h := 34) hT rfl rfl (by decide)) ?_
    refine Eq.trans (x24r (r := (a0 + 2)) (n := 2) (h := 35) hT rfl (kd_0_1 ha0) (ln_0_1 ha0) (by decide)) ?_
    refine xig (fun hz5 => ?_)
    refine Eq.trans (x0 (h := 36) hT rfl) ?_
    refine Eq.trans (x0 (h := 37) hT rfl) ?_
    refine Eq.trans (x32 (r1 := ((a1 + 2) + (1 + zix a2))) (r2 := ((a0 + 2) + (1 + zix a2))) (n1 := 40) (n2 := 40) (h := 38) hT rfl (kq_0_1 ha1 (zix_lt hz4)) (kq_0_1 ha0 (zix_lt hz5)) (by decide) (lq_0_1 ha1 (zix_lt hz4)) (lq_0_1 ha0 (zix_lt hz5)) rfl) ?_
    refine xig (fun hz6 => ?_)
    refine Eq.trans (x1 (h := 39) hT rfl rfl (by decide)) ?_
    refine Eq.trans (x21r (r := a1) (cl := 0) (o := 5) (h := 40) hT rfl ha1 (by decide) rfl) ?_
    refine Eq.trans (x1 (h := 41) hT rfl rfl (by decide)) ?_
    refine Eq.trans (x24r (r := (a1 + 5)) (n := 2) (h := 42) hT rfl (kd_0_2 ha1) (ln_0_2 ha1) (by decide)) ?_
    refine xig (fun hz7 => ?_)
    refine Eq.trans (x0 (h := 43) hT rfl) ?_
    refine Eq.trans (x1 (h := 44) hT rfl rfl (by decide)) ?_
    refine Eq.trans (x21r (r := a0) (cl := 0) (o := 5) (h := 45) hT rfl ha0 (by decide) rfl) ?_
    refine Eq.trans (x1 (h := 46) hT rfl rfl (by decide)) ?_
    refine Eq.trans (x24r (r := (a0 + 5)) (n := 2) (h := 47) hT rfl (kd_0_2 ha0) (ln_0_2 ha0) (by decide)) ?_
    refine xig (fun hz8 => ?_)
    refine Eq.trans (x0 (h := 48) hT rfl) ?_
    refine Eq.trans (x0 (h := 49) hT rfl) ?_
    refine Eq.trans (x32 (r1 := ((a1 + 5) + (1 + zix a2))) (r2 := ((a0 + 5) + (1 + zix a2))) (n1 := 40) (n2 := 40) (h := 50) hT rfl (kq_0_2 ha1 (zix_lt hz7)) (kq_0_2 ha0 (zix_lt hz8)) (by decide) (lq_0_2 ha1 (zix_lt hz7)) (lq_0_2 ha0 (zix_lt hz8)) rfl) ?_
    refine xig (fun hz9 => ?_)
    refine Eq.trans (x1 (h := 51) hT rfl rfl (by decide)) ?_
    refine Eq.trans (x21r (r := a1) (cl := 0) (o := 8) (h := 52) hT rfl ha1 (by decide) rfl) ?_
    refine Eq.trans (x1 (h := 53) hT rfl rfl (by decide)) ?_
    refine Eq.trans (x24r (r := (a1 + 8)) (n := 2) (h := 54) hT rfl (kd_0_3 ha1) (ln_0_3 ha1) (by decide)) ?_
    refine xig (fun hz10 => ?_)
    refine Eq.trans (x0 (h := 55) hT rfl) ?_
    refine Eq.trans (x1 (h := 56) hT rfl rfl (by decide)) ?_
    refine Eq.trans (x21r (r := a0) (cl := 0) (o := 8) (h := 57) hT rfl ha0 (by decide) rfl) ?_
    refine Eq.trans (x1 (h := 58) hT rfl rfl (by decide)) ?_
    refine Eq.trans (x24r (r := (a0 + 8)) (n := 2) (h := 59) hT rfl (kd_0_3 ha0) (ln_0_3 ha0) (by decide)) ?_
    refine xig (fun hz11 => ?_)
    refine Eq.trans (x0 (h := 60) hT rfl) ?_
    refine Eq.trans (x0 (h := 61) hT rfl) ?_
    refine Eq.trans (x32 (r1 := ((a1 + 8) + (1 + zix a2))) (r2 := ((a0 + 8) + (1 + zix a2))) (n1 := 24) (n2 := 24) (h := 62) hT rfl (kq_0_3 ha1 (zix_lt hz10)) (kq_0_3 ha0 (zix_lt hz11)) (by decide) (lq_0_3 ha1 (zix_lt hz10)) (lq_0_3 ha0 (zix_lt hz11)) rfl) ?_
    refine xig (fun hz12 => ?_)
    refine Eq.trans (x1 (h := 63) hT rfl rfl (by decide)) ?_
    refine Eq.trans (x21r (r := a1) (cl := 0) (o := 11) (h := 64) hT rfl ha1 (by decide) rfl) ?_
    refine Eq.trans (x1 (h := 65) hT rfl rfl (by decide)) ?_
    refine Eq.trans (x24r (r := (a1 + 11)) (n := 2) (h := 66) hT rfl (kd_0_4 ha1) (ln_0_4 ha1) (by decide)) ?_
    refine xig (fun hz13 => ?_)
    refine Eq.trans (x0 (h := 67) hT rfl) ?_
    refine Eq.trans (x1 (h := 68) hT rfl rfl (by decide)) ?_
    refine Eq.trans (x21r (r := a0) (cl := 0) (o := 11) (h := 69) hT rfl ha0 (by decide) rfl) ?_
    refine Eq.trans (x1 (h := 70) hT rfl rfl (by decide)) ?_
    refine Eq.trans (x24r (r := (a0 + 11)) (n := 2) (h := 71) hT rfl (kd_0_4 ha0) (ln_0_4 ha0) (by decide)) ?_
    refine xig (fun hz14 => ?_)
    refine Eq.trans (x0 (h := 72) hT rfl) ?_
    refine Eq.trans (x0 (h := 73) hT rfl) ?_
    refine Eq.trans (x32 (r1 := ((a1 + 11) + (1 + zix a2))) (r2 := ((a0 + 11) + (1 + zix a2))) (n1 := 144) (n2 := 144) (h := 74) hT rfl (kq_0_4 ha1 (zix_lt hz13)) (kq_0_4 ha0 (zix_lt hz14)) (by decide) (lq_0_4 ha1 (zix_lt hz13)) (lq_0_4 ha0 (zix_lt hz14)) rfl) ?_
    refine xig (fun hz15 => ?_)
    refine Eq.trans (x4 (ls' := [(2, ((a0 : Nat) : Int)), (2, ((a1 : Nat) : Int)), (0, (a2 + 1))]) (h := 75) hT rfl rfl rfl) ?_
    refine Eq.trans (x18 (h := 76) hT rfl) ?_
    exact rfl
/-! WordLinks$Corpus.toldLinks(I)I -/
set_option maxRecDepth 100000 in
theorem e_92 {P : zP} {d : zD P} {a0 : Nat} {a1 : Int} (ha0 : zkd a0 = 0) : MM P 92 [(2, ((a0 : Nat) : Int)), (0, a1)] d = zB P 92 4 [(2, ((a0 : Nat) : Int)), (0, a1), (0, 0), (0, 0)] [] d := by
  have hT := cT_92
  refine Eq.trans (MM_def sm_92 (Nat.le_of_ble_eq_true rfl)) ?_
  change zB P 92 0 [(2, ((a0 : Nat) : Int)), (0, a1), (3, 0), (3, 0)] [] d = _
  refine Eq.trans (x0 (h := 0) hT rfl) ?_
  refine Eq.trans (x2 (ls' := [(2, ((a0 : Nat) : Int)), (0, a1), (0, 0), (3, 0)]) (h := 1) hT rfl (Nat.le_of_ble_eq_true rfl) rfl) ?_
  refine Eq.trans (x0 (h := 2) hT rfl) ?_
  refine Eq.trans (x2 (ls' := [(2, ((a0 : Nat) : Int)), (0, a1), (0, 0), (0, 0)]) (h := 3) hT rfl (Nat.le_of_ble_eq_true rfl) rfl) ?_
  exact rfl
set_option maxRecDepth 100000 in
theorem q_92_4 {P : zP} {d : zD P} {a0 : Nat} {a1 : Int} {a2 : Int} {a3 : Int} (ha0 : zkd a0 = 0) : zB P 92 4 [(2, ((a0 : Nat) : Int)), (0, a1), (0, a2), (0, a3)] [] d = (if wr 6 ≤ wr a3 then some (a2, d) else (if zin (((a1 * 6) + a3)) 144 then ((MM P 84 [(0, (d.m ((a0 + 14)) (zix (((a1 * 6) + a3)))))] d).bind fun q2 => zB P 92 4 [(2, ((a0 : Nat) : Int)), (0, a1), (0, (a2 + q2.1)), (0, (a3 + 1))] [] q2.2) else none)) := by
  have hT := cT_92
  refine Eq.trans (x1 (h := 4) hT rfl rfl (by decide)) ?_
  refine Eq.trans (x0 (h := 5) hT rfl) ?_
  refine Eq.trans (x17_3 (h := 6) hT rfl) ?_
  refine xit (fun _ => ?_) (fun _ => ?_)
  · refine Eq.trans (x1 (h := 21) hT rfl rfl (by decide)) ?_
    exact x201 (h := 22) hT rfl
  · refine Eq.trans (x1 (h := 7) hT rfl rfl (by decide)) ?_
    refine Eq.trans (x1 (h := 8) hT rfl rfl (by decide)) ?_
    refine Eq.trans (x21r (r := a0) (cl := 0) (o := 14) (h := 9) hT rfl ha0 (by decide) rfl) ?_
    refine Eq.trans (x1 (h := 10) hT rfl rfl (by decide)) ?_
    refine Eq.trans (x0 (h := 11) hT rfl) ?_
    refine Eq.trans (x5_2 (h := 12) hT rfl) ?_
    refine Eq.trans (x1 (h := 13) hT rfl rfl (by decide)) ?_
    refine Eq.trans (x5_0 (h := 14) hT rfl) ?_
    refine Eq.trans (x24 (r := (a0 + 14)) (n := 144) (h := 15) hT rfl (Or.inl (kd_0_5 ha0)) (ln_0_5 ha0)) ?_
    refine xig (fun hz1 => ?_)
    refine Eq.trans (x34 (as := [(0, (d.m ((a0 + 14)) (zix (((a1 * 6) + a3)))))]) (st' := [(0, a2)]) (h := 16) hT rfl sm_84 rfl) ?_
    refine xbd (fun q2 => ?_)
    rw [rv_84]
    change zB P 92 17 [(2, ((a0 : Nat) : Int)), (0, a1), (0, a2), (0, a3)] [(0, q2.1), (0, a2)] q2.2 = _
    refine Eq.trans (x5_0 (h := 17) hT rfl) ?_
    refine Eq.trans (x2 (ls' := [(2, ((a0 : Nat) : Int)), (0, a1), (0, (a2 + q2.1)), (0, a3)]) (h := 18) hT rfl (Nat.le_of_ble_eq_true rfl) rfl) ?_
    refine Eq.trans (x4 (ls' := [(2, ((a0 : Nat) : Int)), (0, a1), (0, (a2 + q2.1)), (0, (a3 + 1))]) (h := 19) hT rfl rfl rfl) ?_
    refine Eq.trans (x18 (h := 20) hT rfl) ?_
    exact rfl
/-! WordLinks$Corpus.wordsInPairs(I)I -/
set_option maxRecDepth 100000 in
theorem e_93 {P : zP} {d : zD P} {a0 : Nat} {a1 : Int} (ha0 : zkd a0 = 0) : MM P 93 [(2, ((a0 : Nat) : Int)), (0, a1)] d = zB P 93 4 [(2, ((a0 : Nat) : Int)), (0, a1), (0, 0), (0, 0), (3, 0)] [] d := by
  have hT := cT_93
  refine Eq.trans (MM_def sm_93 (Nat.le_of_ble_eq_true rfl)) ?_
  change zB P 93 0 [(2, ((a0 : Nat) : Int)), (0, a1), (3, 0), (3, 0), (3, 0)] [] d = _
  refine Eq.trans (x0 (h := 0) hT rfl) ?_
  refine Eq.trans (x2 (ls' := [(2, ((a0 : Nat) : Int)), (0, a1), (0, 0), (3, 0), (3, 0)]) (h := 1) hT rfl (Nat.le_of_ble_eq_true rfl) rfl) ?_
  refine Eq.trans (x0 (h := 2) hT rfl) ?_
  refine Eq.trans (x2 (ls' := [(2, ((a0 : Nat) : Int)), (0, a1), (0, 0), (0, 0), (3, 0)]) (h := 3) hT rfl (Nat.le_of_ble_eq_true rfl) rfl) ?_
  exact rfl
set_option maxRecDepth 100000 in
theorem q_93_4 {P : zP} {d : zD P} {a0 : Nat} {a1 : Int} {a2 : Int} {a3 : Int} {g4 : zV} (ha0 : zkd a0 = 0) : zB P 93 4 [(2, ((a0 : Nat) : Int)), (0, a1), (0, a2), (0, a3), g4] [] d = (if wr ((d.m a0 6)) ≤ wr a3 then some (a2, d) else zB P 93 10 [(2, ((a0 : Nat) : Int)), (0, a1), (0, a2), (0, a3), (0, 0)] [] d) := by
  have hT := cT_93
  refine Eq.trans (x1 (h := 4) hT rfl rfl (by decide)) ?_
  refine Eq.trans (x1 (h := 5) hT rfl rfl (by decide)) ?_
  refine Eq.trans (x21 (r := a0) (cl := 0) (h := 6) hT rfl ha0) ?_
  refine Eq.trans (x17_3 (h := 7) hT rfl) ?_
  refine xit (fun _ => ?_) (fun _ => ?_)
  · refine Eq.trans (x1 (h := 32) hT rfl rfl (by decide)) ?_
    exact x201 (h := 33) hT rfl
  · refine Eq.trans (x0 (h := 8) hT rfl) ?_
    refine Eq.trans (x2 (ls' := [(2, ((a0 : Nat) : Int)), (0, a1), (0, a2), (0, a3), (0, 0)]) (h := 9) hT rfl (Nat.le_of_ble_eq_true rfl) rfl) ?_
    exact rfl
set_option maxRecDepth 100000 in
theorem q_93_10 {P : zP} {d : zD P} {a0 : Nat} {a1 : Int} {a2 : Int} {a3 : Int} {a4 : Int} (ha0 : zkd a0 = 0) : zB P 93 10 [(2, ((a0 : Nat) : Int)), (0, a1), (0, a2), (0, a3), (0, a4)] [] d = (if zin a1 2 then (if zin a3 24 then (if wr ((d.m (((a0 + 8) + (1 + zix a1))) (zix a3))) ≤ wr a4 then zB P 93 4 [(2, ((a0 : Nat) : Int)), (0, a1), (0, a2), (0, (a3 + 1)), (0, a4)] [] d else ((MM P 5 [(2, ((a0 : Nat) : Int)), (0, a1), (0, a3), (0, a4)] d).bind fun q3 => zB P 93 10 [(2, ((a0 : Nat) : Int)), (0, a1), (0, (if wr a2 < wr ((q3.1 + 1)) then (q3.1 + 1) else a2)), (0, a3), (0, (a4 + 1))] [] q3.2)) else none) else none) := by
  have hT := cT_93
  refine Eq.trans (x1 (h := 10) hT rfl rfl (by decide)) ?_
  refine Eq.trans (x1 (h := 11) hT rfl rfl (by decide)) ?_
  refine Eq.trans (x21r (r := a0) (cl := 0) (o := 8) (h := 12) hT rfl ha0 (by decide) rfl) ?_
  refine Eq.trans (x1 (h := 13) hT rfl rfl (by decide)) ?_
  refine Eq.trans (x24r (r := (a0 + 8)) (n := 2) (h := 14) hT rfl (kd_0_3 ha0) (ln_0_3 ha0) (by decide)) ?_
  refine xig (fun hz1 => ?_)
  refine Eq.trans (x1 (h := 15) hT rfl rfl (by decide)) ?_
  refine Eq.trans (x24 (r := ((a0 + 8) + (1 + zix a1))) (n := 24) (h := 16) hT rfl (Or.inl (kq_0_3 ha0 (zix_lt hz1))) (lq_0_3 ha0 (zix_lt hz1))) ?_
  refine xig (fun hz2 => ?_)
  refine Eq.trans (x17_3 (h := 17) hT rfl) ?_
  refine xit (fun _ => ?_) (fun _ => ?_)
  · refine Eq.trans (x4 (ls' := [(2, ((a0 : Nat) : Int)), (0, a1), (0, a2), (0, (a3 + 1)), (0, a4)]) (h := 30) hT rfl rfl rfl) ?_
    refine Eq.trans (x18 (h := 31) hT rfl) ?_
    exact rfl
  · refine Eq.trans (x1 (h := 18) hT rfl rfl (by decide)) ?_
    refine Eq.trans (x1 (h := 19) hT rfl rfl (by decide)) ?_
    refine Eq.trans (x1 (h := 20) hT rfl rfl (by decide)) ?_
    refine Eq.trans (x1 (h := 21) hT rfl rfl (by decide)) ?_
    refine Eq.trans (x1 (h := 22) hT rfl rfl (by decide)) ?_
    refine Eq.trans (x31 (r := a0) (cl := 0) (as := [(0, a1), (0, a3), (0, a4)]) (st' := [(0, a2)]) (h := 23) hT rfl sm_5 rfl ha0) ?_
    refine xbd (fun q3 => ?_)
    rw [rv_5]
    change zB P 93 24 [(2, ((a0 : Nat) : Int)), (0, a1), (0, a2), (0, a3), (0, a4)] [(0, q3.1), (0, a2)] q3.2 = _
    refine Eq.trans (x0 (h := 24) hT rfl) ?_
    refine Eq.trans (x5_0 (h := 25) hT rfl) ?_
    refine Eq.trans (x36 (h := 26) hT rfl rfl) ?_
    refine Eq.trans (x2 (ls' := [(2, ((a0 : Nat) : Int)), (0, a1), (0, (if wr a2 < wr ((q3.1 + 1)) then (q3.1 + 1) else a2)), (0, a3), (0, a4)]) (h := 27) hT rfl (Nat.le_of_ble_eq_true rfl) rfl) ?_
    refine Eq.trans (x4 (ls' := [(2, ((a0 : Nat) : Int)), (0, a1), (0, (if wr a2 < wr ((q3.1 + 1)) then (q3.1 + 1) else a2)), (0, a3), (0, (a4 + 1))]) (h := 28) hT rfl rfl rfl) ?_
    refine Eq.trans (x18 (h := 29) hT rfl) ?_
    exact rfl
/-! WordLinks$Linker.bareColumns()I -/
set_option maxRecDepth 100000 in
theorem e_95 {P : zP} {d : zD P} {a0 : Nat} (ha0 : zkd a0 = 1) : MM P 95 [(2, ((a0 : Nat) : Int))] d = ((MM P 7 [(2, ((a0 : Nat) : Int))] d).bind fun q1 => some ((zbin 3 (((zbin 6 1 ((d.m a0 5))) - 1)) ((zbin 5 q1.1 ((-1))))), q1.2)) := by
  have hT := cT_95
  refine Eq.trans (MM_def sm_95 (Nat.le_of_ble_eq_true rfl)) ?_
  change zB P 95 0 [(2, ((a0 : Nat) : Int))] [] d = _
  refine Eq.trans (x0 (h := 0) hT rfl) ?_
  refine Eq.trans (x1 (h := 1) hT rfl rfl (by decide)) ?_
  refine Eq.trans (x21 (r := a0) (cl := 1) (h := 2) hT rfl ha0) ?_
  refine Eq.trans (x5n (h := 3) hT rfl) ?_
  refine Eq.trans (x0 (h := 4) hT rfl) ?_
  refine Eq.trans (x5_1 (h := 5) hT rfl) ?_
  refine Eq.trans (x1 (h := 6) hT rfl rfl (by decide)) ?_
  refine Eq.trans (x31 (r := a0) (cl := 1) (as := []) (st' := [(0, ((zbin 6 1 ((d.m a0 5))) - 1))]) (h := 7) hT rfl sm_7 rfl ha0) ?_
  refine xbd (fun q1 => ?_)
  rw [rv_7]
  change zB P 95 8 [(2, ((a0 : Nat) : Int))] [(0, q1.1), (0, ((zbin 6 1 ((d.m a0 5))) - 1))] q1.2 = _
  refine Eq.trans (x0 (h := 8) hT rfl) ?_
  refine Eq.trans (x5n (h := 9) hT rfl) ?_
  refine Eq.trans (x5n (h := 10) hT rfl) ?_
  exact x201 (h := 11) hT rfl
/-! WordLinks$Linker.hasNeighbour(II)Z -/
set_option maxRecDepth 100000 in
theorem e_96 {P : zP} {d : zD P} {a0 : Nat} {a1 : Int} {a2 : Int} (ha0 : zkd a0 = 1) : MM P 96 [(2, ((a0 : Nat) : Int)), (0, a1), (0, a2)] d = zB P 96 12 [(2, ((a0 : Nat) : Int)), (0, a1), (0, a2), (0, (zbin 7 ((zbin 6 7 a2)) 1)), (0, (if wr ((a1 - 1)) < wr 0 then 0 else (a1 - 1)))] [] d := by
  have hT := cT_96
  refine Eq.trans (MM_def sm_96 (Nat.le_of_ble_eq_true rfl)) ?_
  change zB P 96 0 [(2, ((a0 : Nat) : Int)), (0, a1), (0, a2), (3, 0), (3, 0)] [] d = _
  refine Eq.trans (x0 (h := 0) hT rfl) ?_
  refine Eq.trans (x1 (h := 1) hT rfl rfl (by decide)) ?_
  refine Eq.trans (x5n (h := 2) hT rfl) ?_
  refine Eq.trans (x0 (h := 3) hT rfl) ?_
  refine Eq.trans (x5n (h := 4) hT rfl) ?_
  refine Eq.trans (x2 (ls' := [(2, ((a0 : Nat) : Int)), (0, a1), (0, a2), (0, (zbin 7 ((zbin 6 7 a2)) 1)), (3, 0)]) (h := 5) hT rfl (Nat.le_of_ble_eq_true rfl) rfl) ?_
  refine Eq.trans (x1 (h := 6) hT rfl rfl (by decide)) ?_
  refine Eq.trans (x0 (h := 7) hT rfl) ?_
  refine Eq.trans (x5_1 (h := 8) hT rfl) ?_
  refine Eq.trans (x0 (h := 9) hT rfl) ?_
  refine Eq.trans (x36 (h := 10) hT rfl rfl) ?_
  refine Eq.trans (x2 (ls' := [(2, ((a0 : Nat) : Int)), (0, a1), (0, a2), (0, (zbin 7 ((zbin 6 7 a2)) 1)), (0, (if wr ((a1 - 1)) < wr 0 then 0 else (a1 - 1)))]) (h := 11) hT rfl (Nat.le_of_ble_eq_true rfl) rfl) ?_
  exact rfl
set_option maxRecDepth 100000 in
theorem q_96_12 {P : zP} {d : zD P} {a0 : Nat} {a1 : Int} {g2 : zV} {a3 : Int} {a4 : Int} (ha0 : zkd a0 = 1) : zB P 96 12 [(2, ((a0 : Nat) : Int)), (0, a1), g2, (0, a3), (0, a4)] [] d = (if wr ((a1 + 1)) < wr a4 then some (0, d) else (if wr ((d.m a0 4)) ≤ wr a4 then some (0, d) else (if zin a4 6 then (if wr ((zbin 3 ((d.m ((a0 + 4)) (zix a4))) a3)) = 0 then zB P 96 12 [(2, ((a0 : Nat) : Int)), (0, a1), g2, (0, a3), (0, (a4 + 1))] [] d else some (1, d)) else none))) := by
  have hT := cT_96
  refine Eq.trans (x1 (h := 12) hT rfl rfl (by decide)) ?_
  refine Eq.trans (x1 (h := 13) hT rfl rfl (by decide)) ?_
  refine Eq.trans (x0 (h := 14) hT rfl) ?_
  refine Eq.trans (x5_0 (h := 15) hT rfl) ?_
  refine Eq.trans (x17_4 (h := 16) hT rfl) ?_
  refine xit (fun _ => ?_) (fun _ => ?_)
  · refine Eq.trans (x0 (h := 32) hT rfl) ?_
    exact x203c (h := 33) hT rfl (by decide)
  · refine Eq.trans (x1 (h := 17) hT rfl rfl (by decide)) ?_
    refine Eq.trans (x1 (h := 18) hT rfl rfl (by decide)) ?_
    refine Eq.trans (x21 (r := a0) (cl := 1) (h := 19) hT rfl ha0) ?_
    refine Eq.trans (x17_3 (h := 20) hT rfl) ?_
    refine xit (fun _ => ?_) (fun _ => ?_)
    · refine Eq.trans (x0 (h := 32) hT rfl) ?_
      exact x203c (h := 33) hT rfl (by decide)
    · refine Eq.trans (x1 (h := 21) hT rfl rfl (by decide)) ?_
      refine Eq.trans (x21r (r := a0) (cl := 1) (o := 4) (h := 22) hT rfl ha0 (by decide) rfl) ?_
      refine Eq.trans (x1 (h := 23) hT rfl rfl (by decide)) ?_
      refine Eq.trans (x24 (r := (a0 + 4)) (n := 6) (h := 24) hT rfl (Or.inl (kd_1_3 ha0)) (ln_1_3 ha0)) ?_
      refine xig (fun hz1 => ?_)
      refine Eq.trans (x1 (h := 25) hT rfl rfl (by decide)) ?_
      refine Eq.trans (x5n (h := 26) hT rfl) ?_
      refine Eq.trans (x16_0 (h := 27) hT rfl) ?_
      refine xit (fun _ => ?_) (fun _ => ?_)
      · refine Eq.trans (x4 (ls' := [(2, ((a0 : Nat) : Int)), (0, a1), g2, (0, a3), (0, (a4 + 1))]) (h := 30) hT rfl rfl rfl) ?_
        refine Eq.trans (x18 (h := 31) hT rfl) ?_
        exact rfl
      · refine Eq.trans (x0 (h := 28) hT rfl) ?_
        exact x203c (h := 29) hT rfl (by decide)
/-! WordLinks$Linker.isBareColumn(I)Z -/
set_option maxRecDepth 100000 in
theorem e_97 {P : zP} {d : zD P} {a0 : Nat} {a1 : Int} (ha0 : zkd a0 = 1) : MM P 97 [(2, ((a0 : Nat) : Int)), (0, a1)] d = ((MM P 7 [(2, ((a0 : Nat) : Int))] d).bind fun q1 => (if wr ((zbin 3 ((zbin 8 q1.1 a1)) 1)) ≠ 0 then some (0, q1.2) else some (1, q1.2))) := by
  have hT := cT_97
  refine Eq.trans (MM_def sm_97 (Nat.le_of_ble_eq_true rfl)) ?_
  change zB P 97 0 [(2, ((a0 : Nat) : Int)), (0, a1)] [] d = _
  refine Eq.trans (x1 (h := 0) hT rfl rfl (by decide)) ?_
  refine Eq.trans (x31 (r := a0) (cl := 1) (as := []) (st' := []) (h := 1) hT rfl sm_7 rfl ha0) ?_
  refine xbd (fun q1 => ?_)
  rw [rv_7]
  change zB P 97 2 [(2, ((a0 : Nat) : Int)), (0, a1)] [(0, q1.1)] q1.2 = _
  refine Eq.trans (x1 (h := 2) hT rfl rfl (by decide)) ?_
  refine Eq.trans (x5n (h := 3) hT rfl) ?_
  refine Eq.trans (x0 (h := 4) hT rfl) ?_
  refine Eq.trans (x5n (h := 5) hT rfl) ?_
  refine Eq.trans (x16_1 (h := 6) hT rfl) ?_
  refine xit (fun _ => ?_) (fun _ => ?_)
  · refine Eq.trans (x0 (h := 9) hT rfl) ?_
    exact x203c (h := 10) hT rfl (by decide)
  · refine Eq.trans (x0 (h := 7) hT rfl) ?_
    refine Eq.trans (x18 (h := 8) hT rfl) ?_
    exact x203c (h := 10) hT rfl (by decide)
/-! WordLinks$Linker.linksWithin(IIII)I -/
set_option maxRecDepth 100000 in
theorem e_98 {P : zP} {d : zD P} {a0 : Nat} {a1 : Int} {a2 : Int} {a3 : Int} {a4 : Int} (ha0 : zkd a0 = 1) : MM P 98 [(2, ((a0 : Nat) : Int)), (0, a1), (0, a2), (0, a3), (0, a4)] d = zB P 98 14 [(2, ((a0 : Nat) : Int)), (0, a1), (0, a2), (0, a3), (0, a4), (0, ((zbin 6 1 a4) - (zbin 6 1 a3))), (0, 0), (0, (if wr a1 < wr 0 then 0 else a1))] [] d := by
  have hT := cT_98
  refine Eq.trans (MM_def sm_98 (Nat.le_of_ble_eq_true rfl)) ?_
  change zB P 98 0 [(2, ((a0 : Nat) : Int)), (0, a1), (0, a2), (0, a3), (0, a4), (3, 0), (3, 0), (3, 0)] [] d = _
  refine Eq.trans (x0 (h := 0) hT rfl) ?_
  refine Eq.trans (x1 (h := 1) hT rfl rfl (by decide)) ?_
  refine Eq.trans (x5n (h := 2) hT rfl) ?_
  refine Eq.trans (x0 (h := 3) hT rfl) ?_
  refine Eq.trans (x1 (h := 4) hT rfl rfl (by decide)) ?_
  refine Eq.trans (x5n (h := 5) hT rfl) ?_
  refine Eq.trans (x5_1 (h := 6) hT rfl) ?_
  refine Eq.trans (x2 (ls' := [(2, ((a0 : Nat) : Int)), (0, a1), (0, a2), (0, a3), (0, a4), (0, ((zbin 6 1 a4) - (zbin 6 1 a3))), (3, 0), (3, 0)]) (h := 7) hT rfl (Nat.le_of_ble_eq_true rfl) rfl) ?_
  refine Eq.trans (x0 (h := 8) hT rfl) ?_
  refine Eq.trans (x2 (ls' := [(2, ((a0 : Nat) : Int)), (0, a1), (0, a2), (0, a3), (0, a4), (0, ((zbin 6 1 a4) - (zbin 6 1 a3))), (0, 0), (3, 0)]) (h := 9) hT rfl (Nat.le_of_ble_eq_true rfl) rfl) ?_
  refine Eq.trans (x1 (h := 10) hT rfl rfl (by decide)) ?_
  refine Eq.trans (x0 (h := 11) hT rfl) ?_
  refine Eq.trans (x36 (h := 12) hT rfl rfl) ?_
  refine Eq.trans (x2 (ls' := [(2, ((a0 : Nat) : Int)), (0, a1), (0, a2), (0, a3), (0, a4), (0, ((zbin 6 1 a4) - (zbin 6 1 a3))), (0, 0), (0, (if wr a1 < wr 0 then 0 else a1))]) (h := 13) hT rfl (Nat.le_of_ble_eq_true rfl) rfl) ?_
  exact rfl
set_option maxRecDepth 100000 in
theorem q_98_14 {P : zP} {d : zD P} {a0 : Nat} {g1 : zV} {a2 : Int} {g3 : zV} {g4 : zV} {a5 : Int} {a6 : Int} {a7 : Int} (ha0 : zkd a0 = 1) : zB P 98 14 [(2, ((a0 : Nat) : Int)), g1, (0, a2), g3, g4, (0, a5), (0, a6), (0, a7)] [] d = (if wr a2 ≤ wr a7 then some (a6, d) else (if wr ((d.m a0 4)) ≤ wr a7 then some (a6, d) else (if zin a7 6 then ((MM P 84 [(0, (zbin 3 ((d.m ((a0 + 4)) (zix a7))) a5))] d).bind fun q2 => zB P 98 14 [(2, ((a0 : Nat) : Int)), g1, (0, a2), g3, g4, (0, a5), (0, (a6 + q2.1)), (0, (a7 + 1))] [] q2.2) else none))) := by
  have hT := cT_98
  refine Eq.trans (x1 (h := 14) hT rfl rfl (by decide)) ?_
  refine Eq.trans (x1 (h := 15) hT rfl rfl (by decide)) ?_
  refine Eq.trans (x17_3 (h := 16) hT rfl) ?_
  refine xit (fun _ => ?_) (fun _ => ?_)
  · refine Eq.trans (x1 (h := 33) hT rfl rfl (by decide)) ?_
    exact x201 (h := 34) hT rfl
  · refine Eq.trans (x1 (h := 17) hT rfl rfl (by decide)) ?_
    refine Eq.trans (x1 (h := 18) hT rfl rfl (by decide)) ?_
    refine Eq.trans (x21 (r := a0) (cl := 1) (h := 19) hT rfl ha0) ?_
    refine Eq.trans (x17_3 (h := 20) hT rfl) ?_
    refine xit (fun _ => ?_) (fun _ => ?_)
    · refine Eq.trans (x1 (h := 33) hT rfl rfl (by decide)) ?_
      exact x201 (h := 34) hT rfl
    · refine Eq.trans (x1 (h := 21) hT rfl rfl (by decide)) ?_
      refine Eq.trans (x1 (h := 22) hT rfl rfl (by decide)) ?_
      refine Eq.trans (x21r (r := a0) (cl := 1) (o := 4) (h := 23) hT rfl ha0 (by decide) rfl) ?_
      refine Eq.trans (x1 (h := 24) hT rfl rfl (by decide)) ?_
      refine Eq.trans (x24 (r := (a0 + 4)) (n := 6) (h := 25) hT rfl (Or.inl (kd_1_3 ha0)) (ln_1_3 ha0)) ?_
      refine xig (fun hz1 => ?_)
      refine Eq.trans (x1 (h := 26) hT rfl rfl (by decide)) ?_
      refine Eq.trans (x5n (h := 27) hT rfl) ?_
      refine Eq.trans (x34 (as := [(0, (zbin 3 ((d.m ((a0 + 4)) (zix a7))) a5))]) (st' := [(0, a6)]) (h := 28) hT rfl sm_84 rfl) ?_
      refine xbd (fun q2 => ?_)
      rw [rv_84]
      change zB P 98 29 [(2, ((a0 : Nat) : Int)), g1, (0, a2), g3, g4, (0, a5), (0, a6), (0, a7)] [(0, q2.1), (0, a6)] q2.2 = _
      refine Eq.trans (x5_0 (h := 29) hT rfl) ?_
      refine Eq.trans (x2 (ls' := [(2, ((a0 : Nat) : Int)), g1, (0, a2), g3, g4, (0, a5), (0, (a6 + q2.1)), (0, a7)]) (h := 30) hT rfl (Nat.le_of_ble_eq_true rfl) rfl) ?_
      refine Eq.trans (x4 (ls' := [(2, ((a0 : Nat) : Int)), g1, (0, a2), g3, g4, (0, a5), (0, (a6 + q2.1)), (0, (a7 + 1))]) (h := 31) hT rfl rfl rfl) ?_
      refine Eq.trans (x18 (h := 32) hT rfl) ?_
      exact rfl
/-! WordLinks$Linker.sharedWithTold(LWordLinks$Corpus;I)I -/
set_option maxRecDepth 100000 in
theorem e_99 {P : zP} {d : zD P} {a0 : Nat} {a1 : Nat} {a2 : Int} (ha0 : zkd a0 = 1) (ha1 : zkd a1 = 0) : MM P 99 [(2, ((a0 : Nat) : Int)), (2, ((a1 : Nat) : Int)), (0, a2)] d = zB P 99 4 [(2, ((a0 : Nat) : Int)), (2, ((a1 : Nat) : Int)), (0, a2), (0, 0), (0, 0)] [] d := by
  have hT := cT_99
  refine Eq.trans (MM_def sm_99 (Nat.le_of_ble_eq_true rfl)) ?_
  change zB P 99 0 [(2, ((a0 : Nat) : Int)), (2, ((a1 : Nat) : Int)), (0, a2), (3, 0), (3, 0)] [] d = _
  refine Eq.trans (x0 (h := 0) hT rfl) ?_
  refine Eq.trans (x2 (ls' := [(2, ((a0 : Nat) : Int)), (2, ((a1 : Nat) : Int)), (0, a2), (0, 0), (3, 0)]) (h := 1) hT rfl (Nat.le_of_ble_eq_true rfl) rfl) ?_
  refine Eq.trans (x0 (h := 2) hT rfl) ?_
  refine Eq.trans (x2 (ls' := [(2, ((a0 : Nat) : Int)), (2, ((a1 : Nat) : Int)), (0, a2), (0, 0), (0, 0)]) (h := 3) hT rfl (Nat.le_of_ble_eq_true rfl) rfl) ?_
  exact rfl
set_option maxRecDepth 100000 in
theorem q_99_4 {P : zP} {d : zD P} {a0 : Nat} {a1 : Nat} {a2 : Int} {a3 : Int} {a4 : Int} (ha0 : zkd a0 = 1) (ha1 : zkd a1 = 0) : zB P 99 4 [(2, ((a0 : Nat) : Int)), (2, ((a1 : Nat) : Int)), (0, a2), (0, a3), (0, a4)] [] d = (if wr ((d.m a0 4)) ≤ wr a4 then some (a3, d) else (if zin a4 6 then (if zin (((a2 * 6) + a4)) 144 then ((MM P 84 [(0, (zbin 3 ((d.m ((a0 + 4)) (zix a4))) ((d.m ((a1 + 14)) (zix (((a2 * 6) + a4)))))))] d).bind fun q3 => zB P 99 4 [(2, ((a0 : Nat) : Int)), (2, ((a1 : Nat) : Int)), (0, a2), (0, (a3 + q3.1)), (0, (a4 + 1))] [] q3.2) else none) else none)) := by
  have hT := cT_99
  refine Eq.trans (x1 (h := 4) hT rfl rfl (by decide)) ?_
  refine Eq.trans (x1 (h := 5) hT rfl rfl (by decide)) ?_
  refine Eq.trans (x21 (r := a0) (cl := 1) (h := 6) hT rfl ha0) ?_
  refine Eq.trans (x17_3 (h := 7) hT rfl) ?_
  refine xit (fun _ => ?_) (fun _ => ?_)
  · refine Eq.trans (x1 (h := 27) hT rfl rfl (by decide)) ?_
    exact x201 (h := 28) hT rfl
  · refine Eq.trans (x1 (h := 8) hT rfl rfl (by decide)) ?_
    refine Eq.trans (x1 (h := 9) hT rfl rfl (by decide)) ?_
    refine Eq.trans (x21r (r := a0) (cl := 1) (o := 4) (h := 10) hT rfl ha0 (by decide) rfl) ?_
    refine Eq.trans (x1 (h := 11) hT rfl rfl (by decide)) ?_
    refine Eq.trans (x24 (r := (a0 + 4)) (n := 6) (h := 12) hT rfl (Or.inl (kd_1_3 ha0)) (ln_1_3 ha0)) ?_
    refine xig (fun hz1 => ?_)
    refine Eq.trans (x1 (h := 13) hT rfl rfl (by decide)) ?_
    refine Eq.trans (x21r (r := a1) (cl := 0) (o := 14) (h := 14) hT rfl ha1 (by decide) rfl) ?_
    refine Eq.trans (x1 (h := 15) hT rfl rfl (by decide)) ?_
    refine Eq.trans (x0 (h := 16) hT rfl) ?_
    refine Eq.trans (x5_2 (h := 17) hT rfl) ?_
    refine Eq.trans (x1 (h := 18) hT rfl rfl (by decide)) ?_
    refine Eq.trans (x5_0 (h := 19) hT rfl) ?_
    refine Eq.trans (x24 (r := (a1 + 14)) (n := 144) (h := 20) hT rfl (Or.inl (kd_0_5 ha1)) (ln_0_5 ha1)) ?_
    refine xig (fun hz2 => ?_)
    refine Eq.trans (x5n (h := 21) hT rfl) ?_
    refine Eq.trans (x34 (as := [(0, (zbin 3 ((d.m ((a0 + 4)) (zix a4))) ((d.m ((a1 + 14)) (zix (((a2 * 6) + a4)))))))]) (st' := [(0, a3)]) (h := 22) hT rfl sm_84 rfl) ?_
    refine xbd (fun q3 => ?_)
    rw [rv_84]
    change zB P 99 23 [(2, ((a0 : Nat) : Int)), (2, ((a1 : Nat) : Int)), (0, a2), (0, a3), (0, a4)] [(0, q3.1), (0, a3)] q3.2 = _
    refine Eq.trans (x5_0 (h := 23) hT rfl) ?_
    refine Eq.trans (x2 (ls' := [(2, ((a0 : Nat) : Int)), (2, ((a1 : Nat) : Int)), (0, a2), (0, (a3 + q3.1)), (0, a4)]) (h := 24) hT rfl (Nat.le_of_ble_eq_true rfl) rfl) ?_
    refine Eq.trans (x4 (ls' := [(2, ((a0 : Nat) : Int)), (2, ((a1 : Nat) : Int)), (0, a2), (0, (a3 + q3.1)), (0, (a4 + 1))]) (h := 25) hT rfl rfl rfl) ?_
    refine Eq.trans (x18 (h := 26) hT rfl) ?_
    exact rfl
/-! WordLinks$Matcher.costFrom(III)I -/
set_option maxRecDepth 100000 in
theorem e_101 {P : zP} {d : zD P} {a0 : Nat} {a1 : Int} {a2 : Int} {a3 : Int} (ha0 : zkd a0 = 2) : MM P 101 [(2, ((a0 : Nat) : Int)), (0, a1), (0, a2), (0, a3)] d = (if zin a1 5 then (if zin a1 5 then (if zin a1 5 then (if zin ((((a2 + (d.m 1 (zix a1))) * 9) + (a3 + (d.m 2 (zix a1))))) 81 then (if wr a1 = wr 1 then some (((d.m 3 (zix a1)) + (d.m ((a0 + 1)) (zix ((((a2 + (d.m 1 (zix a1))) * 9) + (a3 + (d.m 2 (zix a1)))))))), d) else (if wr a1 ≠ wr 2 then (if zin ((a2 + (d.m 1 (zix a1)))) 9 then (if zin a2 9 then (if zin ((a3 + (d.m 2 (zix a1)))) 9 then (if zin a3 9 then some ((((d.m 3 (zix a1)) + (d.m ((a0 + 1)) (zix ((((a2 + (d.m 1 (zix a1))) * 9) + (a3 + (d.m 2 (zix a1)))))))) + (10 * (if wr (((((d.m ((a0 + 3)) (zix ((a2 + (d.m 1 (zix a1)))))) - (d.m ((a0 + 3)) (zix a2))) - (d.m ((a0 + 4)) (zix ((a3 + (d.m 2 (zix a1))))))) + (d.m ((a0 + 4)) (zix a3)))) < 0 then -((((d.m ((a0 + 3)) (zix ((a2 + (d.m 1 (zix a1)))))) - (d.m ((a0 + 3)) (zix a2))) - (d.m ((a0 + 4)) (zix ((a3 + (d.m 2 (zix a1))))))) + (d.m ((a0 + 4)) (zix a3))) else ((((d.m ((a0 + 3)) (zix ((a2 + (d.m 1 (zix a1)))))) - (d.m ((a0 + 3)) (zix a2))) - (d.m ((a0 + 4)) (zix ((a3 + (d.m 2 (zix a1))))))) + (d.m ((a0 + 4)) (zix a3)))))), d) else none) else none) else none) else none) else some (((d.m 3 (zix a1)) + (d.m ((a0 + 1)) (zix ((((a2 + (d.m 1 (zix a1))) * 9) + (a3 + (d.m 2 (zix a1)))))))), d))) else none) else none) else none) else none) := by
  have hT := cT_101
  refine Eq.trans (MM_def sm_101 (Nat.le_of_ble_eq_true rfl)) ?_
  change zB P 101 0 [(2, ((a0 : Nat) : Int)), (0, a1), (0, a2), (0, a3), (3, 0), (3, 0), (3, 0)] [] d = _
  refine Eq.trans (x1 (h := 0) hT rfl rfl (by decide)) ?_
  refine Eq.trans (x23 (h := 1) hT rfl) ?_
  refine Eq.trans (x1 (h := 2) hT rfl rfl (by decide)) ?_
  refine Eq.trans (x24 (r := 1) (n := 5) (h := 3) hT rfl (Or.inr ⟨(kd_s (by decide)), rfl⟩) (ln_s (by decide))) ?_
  refine xig (fun hz1 => ?_)
  refine Eq.trans (x5_0 (h := 4) hT rfl) ?_
  refine Eq.trans (x2 (ls' := [(2, ((a0 : Nat) : Int)), (0, a1), (0, a2), (0, a3), (0, (a2 + (d.m 1 (zix a1)))), (3, 0), (3, 0)]) (h := 5) hT rfl (Nat.le_of_ble_eq_true rfl) rfl) ?_
  refine Eq.trans (x1 (h := 6) hT rfl rfl (by decide)) ?_
  refine Eq.trans (x23 (h := 7) hT rfl) ?_
  refine Eq.trans (x1 (h := 8) hT rfl rfl (by decide)) ?_
  refine Eq.trans (x24 (r := 2) (n := 5) (h := 9) hT rfl (Or.inr ⟨(kd_s (by decide)), rfl⟩) (ln_s (by decide))) ?_
  refine xig (fun hz2 => ?_)
  refine Eq.trans (x5_0 (h := 10) hT rfl) ?_
  refine Eq.trans (x2 (ls' := [(2, ((a0 : Nat) : Int)), (0, a1), (0, a2), (0, a3), (0, (a2 + (d.m 1 (zix a1)))), (0, (a3 + (d.m 2 (zix a1)))), (3, 0)]) (h := 11) hT rfl (Nat.le_of_ble_eq_true rfl) rfl) ?_
  refine Eq.trans (x23 (h := 12) hT rfl) ?_
  refine Eq.trans (x1 (h := 13) hT rfl rfl (by decide)) ?_
  refine Eq.trans (x24 (r := 3) (n := 5) (h := 14) hT rfl (Or.inr ⟨(kd_s (by decide)), rfl⟩) (ln_s (by decide))) ?_
  refine xig (fun hz3 => ?_)
  refine Eq.trans (x1 (h := 15) hT rfl rfl (by decide)) ?_
  refine Eq.trans (x21r (r := a0) (cl := 2) (o := 1) (h := 16) hT rfl ha0 (by decide) rfl) ?_
  refine Eq.trans (x1 (h := 17) hT rfl rfl (by decide)) ?_
  refine Eq.trans (x0 (h := 18) hT rfl) ?_
  refine Eq.trans (x5_2 (h := 19) hT rfl) ?_
  refine Eq.trans (x1 (h := 20) hT rfl rfl (by decide)) ?_
  refine Eq.trans (x5_0 (h := 21) hT rfl) ?_
  refine Eq.trans (x24 (r := (a0 + 1)) (n := 81) (h := 22) hT rfl (Or.inl (kd_2_0 ha0)) (ln_2_0 ha0)) ?_
  refine xig (fun hz4 => ?_)
  refine Eq.trans (x5_0 (h := 23) hT rfl) ?_
  refine Eq.trans (x2 (ls' := [(2, ((a0 : Nat) : Int)), (0, a1), (0, a2), (0, a3), (0, (a2 + (d.m 1 (zix a1)))), (0, (a3 + (d.m 2 (zix a1)))), (0, ((d.m 3 (zix a1)) + (d.m ((a0 + 1)) (zix ((((a2 + (d.m 1 (zix a1))) * 9) + (a3 + (d.m 2 (zix a1)))))))))]) (h := 24) hT rfl (Nat.le_of_ble_eq_true rfl) rfl) ?_
  refine Eq.trans (x1 (h := 25) hT rfl rfl (by decide)) ?_
  refine Eq.trans (x0 (h := 26) hT rfl) ?_
  refine Eq.trans (x17_0 (h := 27) hT rfl) ?_
  refine xit (fun _ => ?_) (fun _ => ?_)
  · refine Eq.trans (x1 (h := 31) hT rfl rfl (by decide)) ?_
    exact x201 (h := 32) hT rfl
  · refine Eq.trans (x1 (h := 28) hT rfl rfl (by decide)) ?_
    refine Eq.trans (x0 (h := 29) hT rfl) ?_
    refine Eq.trans (x17_1 (h := 30) hT rfl) ?_
    refine xit (fun _ => ?_) (fun _ => ?_)
    · refine Eq.trans (x1 (h := 33) hT rfl rfl (by decide)) ?_
      refine Eq.trans (x0 (h := 34) hT rfl) ?_
      refine Eq.trans (x1 (h := 35) hT rfl rfl (by decide)) ?_
      refine Eq.trans (x21r (r := a0) (cl := 2) (o := 3) (h := 36) hT rfl ha0 (by decide) rfl) ?_
      refine Eq.trans (x1 (h := 37) hT rfl rfl (by decide)) ?_
      refine Eq.trans (x24 (r := (a0 + 3)) (n := 9) (h := 38) hT rfl (Or.inl (kd_2_2 ha0)) (ln_2_2 ha0)) ?_
      refine xig (fun hz5 => ?_)
      refine Eq.trans (x1 (h := 39) hT rfl rfl (by decide)) ?_
      refine Eq.trans (x21r (r := a0) (cl := 2) (o := 3) (h := 40) hT rfl ha0 (by decide) rfl) ?_
      refine Eq.trans (x1 (h := 41) hT rfl rfl (by decide)) ?_
      refine Eq.trans (x24 (r := (a0 + 3)) (n := 9) (h := 42) hT rfl (Or.inl (kd_2_2 ha0)) (ln_2_2 ha0)) ?_
      refine xig (fun hz6 => ?_)
      refine Eq.trans (x5_1 (h := 43) hT rfl) ?_
      refine Eq.trans (x1 (h := 44) hT rfl rfl (by decide)) ?_
      refine Eq.trans (x21r (r := a0) (cl := 2) (o := 4) (h := 45) hT rfl ha0 (by decide) rfl) ?_
      refine Eq.trans (x1 (h := 46) hT rfl rfl (by decide)) ?_
      refine Eq.trans (x24 (r := (a0 + 4)) (n := 9) (h := 47) hT rfl (Or.inl (kd_2_3 ha0)) (ln_2_3 ha0)) ?_
      refine xig (fun hz7 => ?_)
      refine Eq.trans (x5_1 (h := 48) hT rfl) ?_
      refine Eq.trans (x1 (h := 49) hT rfl rfl (by decide)) ?_
      refine Eq.trans (x21r (r := a0) (cl := 2) (o := 4) (h := 50) hT rfl ha0 (by decide) rfl) ?_
      refine Eq.trans (x1 (h := 51) hT rfl rfl (by decide)) ?_
      refine Eq.trans (x24 (r := (a0 + 4)) (n := 9) (h := 52) hT rfl (Or.inl (kd_2_3 ha0)) (ln_2_3 ha0)) ?_
      refine xig (fun hz8 => ?_)
      refine Eq.trans (x5_0 (h := 53) hT rfl) ?_
      refine Eq.trans (x35 (h := 54) hT rfl rfl) ?_
      refine Eq.trans (x5_2 (h := 55) hT rfl) ?_
      refine Eq.trans (x5_0 (h := 56) hT rfl) ?_
      exact x201 (h := 57) hT rfl
    · refine Eq.trans (x1 (h := 31) hT rfl rfl (by decide)) ?_
      exact x201 (h := 32) hT rfl
/-! WordLinks$Parted.deal()V -/
set_option maxRecDepth 100000 in
theorem e_103 {P : zP} {d : zD P} {a0 : Nat} (ha0 : zkd a0 = 3) : MM P 103 [(2, ((a0 : Nat) : Int))] d = ((MM P 13 [(2, ((a0 : Nat) : Int))] d).bind fun q1 => (if wrl q1.1 ≠ wrl 0 then (if wrl 0 < wrl q1.1 then zB P 103 24 [(2, ((a0 : Nat) : Int)), (1, q1.1), (3, 0), (0, 100000), (0, 0), (3, 0), (3, 0)] [] q1.2 else some (0, q1.2)) else ((MM P 87 [(2, (((a0 + 1) : Nat) : Int)), (1, 1)] q1.2).bind fun q2 => (if wrl 0 < wrl ((wr ((q2.2.m a0 3)))) then zB P 103 24 [(2, ((a0 : Nat) : Int)), (1, (wr ((q2.2.m a0 3)))), (3, 0), (0, 100000), (0, 0), (3, 0), (3, 0)] [] q2.2 else some (0, q2.2))))) := by
  have hT := cT_103
  refine Eq.trans (MM_def sm_103 (Nat.le_of_ble_eq_true rfl)) ?_
  change zB P 103 0 [(2, ((a0 : Nat) : Int)), (3, 0), (3, 0), (3, 0), (3, 0), (3, 0), (3, 0)] [] d = _
  refine Eq.trans (x1 (h := 0) hT rfl rfl (by decide)) ?_
  refine Eq.trans (x31 (r := a0) (cl := 3) (as := []) (st' := []) (h := 1) hT rfl sm_13 rfl ha0) ?_
  refine xbd (fun q1 => ?_)
  rw [rv_13]
  change zB P 103 2 [(2, ((a0 : Nat) : Int)), (3, 0), (3, 0), (3, 0), (3, 0), (3, 0), (3, 0)] [(1, q1.1)] q1.2 = _
  refine Eq.trans (x3 (ls' := [(2, ((a0 : Nat) : Int)), (1, q1.1), (3, 0), (3, 0), (3, 0), (3, 0), (3, 0)]) (h := 2) hT rfl (Nat.le_of_ble_eq_true rfl) rfl) ?_
  refine Eq.trans (x1 (h := 3) hT rfl rfl (by decide)) ?_
  refine Eq.trans (x0 (h := 4) hT rfl) ?_
  refine Eq.trans (x116_1 (h := 5) hT rfl rfl) ?_
  refine xit (fun _ => ?_) (fun _ => ?_)
  · refine Eq.trans (x1 (h := 15) hT rfl rfl (by decide)) ?_
    refine Eq.trans (x0 (h := 16) hT rfl) ?_
    refine Eq.trans (x116_4 (h := 17) hT rfl rfl) ?_
    refine xit (fun _ => ?_) (fun _ => ?_)
    · refine Eq.trans (x0 (h := 20) hT rfl) ?_
      refine Eq.trans (x2 (ls' := [(2, ((a0 : Nat) : Int)), (1, q1.1), (3, 0), (0, 100000), (3, 0), (3, 0), (3, 0)]) (h := 21) hT rfl (Nat.le_of_ble_eq_true rfl) rfl) ?_
      refine Eq.trans (x0 (h := 22) hT rfl) ?_
      refine Eq.trans (x2 (ls' := [(2, ((a0 : Nat) : Int)), (1, q1.1), (3, 0), (0, 100000), (0, 0), (3, 0), (3, 0)]) (h := 23) hT rfl (Nat.le_of_ble_eq_true rfl) rfl) ?_
      exact rfl
    · exact x20 (h := 19) hT rfl
  · refine Eq.trans (x1 (h := 7) hT rfl rfl (by decide)) ?_
    refine Eq.trans (x21r (r := a0) (cl := 3) (o := 1) (h := 8) hT rfl ha0 (by decide) rfl) ?_
    refine Eq.trans (x0 (h := 9) hT rfl) ?_
    refine Eq.trans (x34 (as := [(2, (((a0 + 1) : Nat) : Int)), (1, 1)]) (st' := []) (h := 10) hT rfl sm_87 rfl) ?_
    refine xbd (fun q2 => ?_)
    rw [rv_87]
    change zB P 103 11 [(2, ((a0 : Nat) : Int)), (1, q1.1), (3, 0), (3, 0), (3, 0), (3, 0), (3, 0)] [] q2.2 = _
    refine Eq.trans (x1 (h := 11) hT rfl rfl (by decide)) ?_
    refine Eq.trans (x21 (r := a0) (cl := 3) (h := 12) hT rfl ha0) ?_
    refine Eq.trans (x12 (h := 13) hT rfl) ?_
    refine Eq.trans (x3 (ls' := [(2, ((a0 : Nat) : Int)), (1, (wr ((q2.2.m a0 3)))), (3, 0), (3, 0), (3, 0), (3, 0), (3, 0)]) (h := 14) hT rfl (Nat.le_of_ble_eq_true rfl) rfl) ?_
    refine Eq.trans (x1 (h := 15) hT rfl rfl (by decide)) ?_
    refine Eq.trans (x0 (h := 16) hT rfl) ?_
    refine Eq.trans (x116_4 (h := 17) hT rfl rfl) ?_
    refine xit (fun _ => ?_) (fun _ => ?_)
    · refine Eq.trans (x0 (h := 20) hT rfl) ?_
      refine Eq.trans (x2 (ls' := [(2, ((a0 : Nat) : Int)), (1, (wr ((q2.2.m a0 3)))), (3, 0), (0, 100000), (3, 0), (3, 0), (3, 0)]) (h := 21) hT rfl (Nat.le_of_ble_eq_true rfl) rfl) ?_
      refine Eq.trans (x0 (h := 22) hT rfl) ?_
      refine Eq.trans (x2 (ls' := [(2, ((a0 : Nat) : Int)), (1, (wr ((q2.2.m a0 3)))), (3, 0), (0, 100000), (0, 0), (3, 0), (3, 0)]) (h := 23) hT rfl (Nat.le_of_ble_eq_true rfl) rfl) ?_
      exact rfl
    · exact x20 (h := 19) hT rfl
set_option maxRecDepth 100000 in
theorem q_103_24 {P : zP} {d : zD P} {a0 : Nat} {a1 : Int} {g2 : zV} {a3 : Int} {a4 : Int} {g5 : zV} {g6 : zV} (ha0 : zkd a0 = 3) : zB P 103 24 [(2, ((a0 : Nat) : Int)), (1, a1), g2, (0, a3), (0, a4), g5, g6] [] d = (if wr ((d.m a0 3)) ≤ wr a4 then zB P 103 61 [(2, ((a0 : Nat) : Int)), (1, a1), g2, (0, a3), (0, 0), g5, g6] [] d else (if zin a4 40 then (if wrl a1 ≠ 0 then (if zin a4 40 then (if wrl a1 ≠ 0 then (if zin a4 40 then (if zin a4 40 then zB P 103 24 [(2, ((a0 : Nat) : Int)), (1, a1), (if (g2).1 = 1 then (3, 0) else g2), (0, (a3 - (((((d.up ((a0 + 3)) (zix a4) ((zldiv 0 ((100000 * (d.m ((a0 + 1)) (zix a4)))) a1)))).up ((a0 + 2)) (zix a4) ((zldiv 1 ((100000 * (d.m ((a0 + 1)) (zix a4)))) a1)))).m ((a0 + 3)) (zix a4)))), (0, (a4 + 1)), (1, (100000 * (d.m ((a0 + 1)) (zix a4)))), (3, 0)] [] ((((d.up ((a0 + 3)) (zix a4) ((zldiv 0 ((100000 * (d.m ((a0 + 1)) (zix a4)))) a1)))).up ((a0 + 2)) (zix a4) ((zldiv 1 ((100000 * (d.m ((a0 + 1)) (zix a4)))) a1)))) else none) else none) else none) else none) else none) else none)) := by
  have hT := cT_103
  refine Eq.trans (x1 (h := 24) hT rfl rfl (by decide)) ?_
  refine Eq.trans (x1 (h := 25) hT rfl rfl (by decide)) ?_
  refine Eq.trans (x21 (r := a0) (cl := 3) (h := 26) hT rfl ha0) ?_
  refine Eq.trans (x17_3 (h := 27) hT rfl) ?_
  refine xit (fun _ => ?_) (fun _ => ?_)
  · refine Eq.trans (x0 (h := 59) hT rfl) ?_
    refine Eq.trans (x2 (ls' := [(2, ((a0 : Nat) : Int)), (1, a1), g2, (0, a3), (0, 0), g5, g6]) (h := 60) hT rfl (Nat.le_of_ble_eq_true rfl) rfl) ?_
    exact rfl
  · refine Eq.trans (x0 (h := 28) hT rfl) ?_
    refine Eq.trans (x1 (h := 29) hT rfl rfl (by decide)) ?_
    refine Eq.trans (x21r (r := a0) (cl := 3) (o := 1) (h := 30) hT rfl ha0 (by decide) rfl) ?_
    refine Eq.trans (x1 (h := 31) hT rfl rfl (by decide)) ?_
    refine Eq.trans (x24 (r := (a0 + 1)) (n := 40) (h := 32) hT rfl (Or.inl (kd_3_0 ha0)) (ln_3_0 ha0)) ?_
    refine xig (fun hz3 => ?_)
    refine Eq.trans (x8_2 (h := 33) hT rfl) ?_
    refine Eq.trans (x3 (ls' := [(2, ((a0 : Nat) : Int)), (1, a1), g2, (0, a3), (0, a4), (1, (100000 * (d.m ((a0 + 1)) (zix a4)))), (3, 0)]) (h := 34) hT rfl (Nat.le_of_ble_eq_true rfl) rfl) ?_
    refine Eq.trans (x1 (h := 35) hT rfl rfl (by decide)) ?_
    refine Eq.trans (x21r (r := a0) (cl := 3) (o := 3) (h := 36) hT rfl ha0 (by decide) rfl) ?_
    refine Eq.trans (x1 (h := 37) hT rfl rfl (by decide)) ?_
    refine Eq.trans (x1 (h := 38) hT rfl rfl (by decide)) ?_
    refine Eq.trans (x1 (h := 39) hT rfl rfl (by decide)) ?_
    refine Eq.trans (x9 (h := 40) hT rfl) ?_
    refine xig (fun hz4 => ?_)
    refine Eq.trans (x121 (h := 41) hT rfl) ?_
    refine Eq.trans (x25a (r := (a0 + 3)) (n := 40) (h := 42) hT rfl (kd_3_2 ha0) (ln_3_2 ha0) (by decide) rfl) ?_
    refine xig (fun hz5 => ?_)
    refine Eq.trans (x1 (h := 43) hT rfl rfl (by decide)) ?_
    refine Eq.trans (x21r (r := a0) (cl := 3) (o := 2) (h := 44) hT rfl ha0 (by decide) rfl) ?_
    refine Eq.trans (x1 (h := 45) hT rfl rfl (by decide)) ?_
    refine Eq.trans (x1 (h := 46) hT rfl rfl (by decide)) ?_
    refine Eq.trans (x1 (h := 47) hT rfl rfl (by decide)) ?_
    refine Eq.trans (x9 (h := 48) hT rfl) ?_
    refine xig (fun hz6 => ?_)
    refine Eq.trans (x25a (r := (a0 + 2)) (n := 40) (h := 49) hT rfl (kd_3_1 ha0) (ln_3_1 ha0) (by decide) rfl) ?_
    refine xig (fun hz7 => ?_)
    refine Eq.trans (x1 (h := 50) hT rfl rfl (by decide)) ?_
    refine Eq.trans (x1 (h := 51) hT rfl rfl (by decide)) ?_
    refine Eq.trans (x21r (r := a0) (cl := 3) (o := 3) (h := 52) hT rfl ha0 (by decide) rfl) ?_
    refine Eq.trans (x1 (h := 53) hT rfl rfl (by decide)) ?_
    refine Eq.trans (x24 (r := (a0 + 3)) (n := 40) (h := 54) hT rfl (Or.inl (kd_3_2 ha0)) (ln_3_2 ha0)) ?_
    refine xig (fun hz8 => ?_)
    refine Eq.trans (x5_1 (h := 55) hT rfl) ?_
    refine Eq.trans (x2 (ls' := [(2, ((a0 : Nat) : Int)), (1, a1), (if (g2).1 = 1 then (3, 0) else g2), (0, (a3 - (((((d.up ((a0 + 3)) (zix a4) ((zldiv 0 ((100000 * (d.m ((a0 + 1)) (zix a4)))) a1)))).up ((a0 + 2)) (zix a4) ((zldiv 1 ((100000 * (d.m ((a0 + 1)) (zix a4)))) a1)))).m ((a0 + 3)) (zix a4)))), (0, a4), (1, (100000 * (d.m ((a0 + 1)) (zix a4)))), (3, 0)]) (h := 56) hT rfl (Nat.le_of_ble_eq_true rfl) rfl) ?_
    refine Eq.trans (x4 (ls' := [(2, ((a0 : Nat) : Int)), (1, a1), (if (g2).1 = 1 then (3, 0) else g2), (0, (a3 - (((((d.up ((a0 + 3)) (zix a4) ((zldiv 0 ((100000 * (d.m ((a0 + 1)) (zix a4)))) a1)))).up ((a0 + 2)) (zix a4) ((zldiv 1 ((100000 * (d.m ((a0 + 1)) (zix a4)))) a1)))).m ((a0 + 3)) (zix a4)))), (0, (a4 + 1)), (1, (100000 * (d.m ((a0 + 1)) (zix a4)))), (3, 0)]) (h := 57) hT rfl rfl rfl) ?_
    refine Eq.trans (x18 (h := 58) hT rfl) ?_
    exact rfl
set_option maxRecDepth 100000 in
theorem q_103_61 {P : zP} {d : zD P} {a0 : Nat} {g1 : zV} {g2 : zV} {a3 : Int} {a4 : Int} {g5 : zV} {g6 : zV} (ha0 : zkd a0 = 3) : zB P 103 61 [(2, ((a0 : Nat) : Int)), g1, g2, (0, a3), (0, a4), g5, g6] [] d = (if wr a3 ≤ wr a4 then some (0, d) else ((MM P 15 [(2, ((a0 : Nat) : Int))] d).bind fun q9 => zB P 103 61 [(2, ((a0 : Nat) : Int)), g1, g2, (0, a3), (0, (a4 + 1)), g5, g6] [] q9.2)) := by
  have hT := cT_103
  refine Eq.trans (x1 (h := 61) hT rfl rfl (by decide)) ?_
  refine Eq.trans (x1 (h := 62) hT rfl rfl (by decide)) ?_
  refine Eq.trans (x17_3 (h := 63) hT rfl) ?_
  refine xit (fun _ => ?_) (fun _ => ?_)
  · exact x20 (h := 68) hT rfl
  · refine Eq.trans (x1 (h := 64) hT rfl rfl (by decide)) ?_
    refine Eq.trans (x31 (r := a0) (cl := 3) (as := []) (st' := []) (h := 65) hT rfl sm_15 rfl ha0) ?_
    refine xbd (fun q9 => ?_)
    rw [rv_15]
    change zB P 103 66 [(2, ((a0 : Nat) : Int)), g1, g2, (0, a3), (0, a4), g5, g6] [] q9.2 = _
    refine Eq.trans (x4 (ls' := [(2, ((a0 : Nat) : Int)), g1, g2, (0, a3), (0, (a4 + 1)), g5, g6]) (h := 66) hT rfl rfl rfl) ?_
    refine Eq.trans (x18 (h := 67) hT rfl) ?_
    exact rfl
/-! WordLinks$Phrases.costOf(I)I -/
set_option maxRecDepth 100000 in
theorem e_105 {P : zP} {d : zD P} {a0 : Nat} {a1 : Int} (ha0 : zkd a0 = 4) : MM P 105 [(2, ((a0 : Nat) : Int)), (0, a1)] d = ((MM P 19 [(2, ((a0 : Nat) : Int)), (0, a1)] d).bind fun q1 => (if wr q1.1 ≠ 0 then (if zin a1 5400 then (if wr q1.1 ≠ 0 then some ((1050 - (zdiv 0 ((1000 * (q1.2.m ((a0 + 2)) (zix a1)))) q1.1)), q1.2) else none) else none) else some (1050, q1.2))) := by
  have hT := cT_105
  refine Eq.trans (MM_def sm_105 (Nat.le_of_ble_eq_true rfl)) ?_
  change zB P 105 0 [(2, ((a0 : Nat) : Int)), (0, a1), (3, 0)] [] d = _
  refine Eq.trans (x1 (h := 0) hT rfl rfl (by decide)) ?_
  refine Eq.trans (x1 (h := 1) hT rfl rfl (by decide)) ?_
  refine Eq.trans (x31 (r := a0) (cl := 4) (as := [(0, a1)]) (st' := []) (h := 2) hT rfl sm_19 rfl ha0) ?_
  refine xbd (fun q1 => ?_)
  rw [rv_19]
  change zB P 105 3 [(2, ((a0 : Nat) : Int)), (0, a1), (3, 0)] [(0, q1.1)] q1.2 = _
  refine Eq.trans (x2 (ls' := [(2, ((a0 : Nat) : Int)), (0, a1), (0, q1.1)]) (h := 3) hT rfl (Nat.le_of_ble_eq_true rfl) rfl) ?_
  refine Eq.trans (x1 (h := 4) hT rfl rfl (by decide)) ?_
  refine Eq.trans (x16_1 (h := 5) hT rfl) ?_
  refine xit (fun _ => ?_) (fun _ => ?_)
  · refine Eq.trans (x0 (h := 8) hT rfl) ?_
    refine Eq.trans (x0 (h := 9) hT rfl) ?_
    refine Eq.trans (x1 (h := 10) hT rfl rfl (by decide)) ?_
    refine Eq.trans (x21r (r := a0) (cl := 4) (o := 2) (h := 11) hT rfl ha0 (by decide) rfl) ?_
    refine Eq.trans (x1 (h := 12) hT rfl rfl (by decide)) ?_
    refine Eq.trans (x24 (r := (a0 + 2)) (n := 5400) (h := 13) hT rfl (Or.inl (kd_4_1 ha0)) (ln_4_1 ha0)) ?_
    refine xig (fun hz2 => ?_)
    refine Eq.trans (x5_2 (h := 14) hT rfl) ?_
    refine Eq.trans (x1 (h := 15) hT rfl rfl (by decide)) ?_
    refine Eq.trans (x6 (h := 16) hT rfl) ?_
    refine xig (fun hz3 => ?_)
    refine Eq.trans (x5_1 (h := 17) hT rfl) ?_
    exact x201 (h := 18) hT rfl
  · refine Eq.trans (x0 (h := 6) hT rfl) ?_
    refine Eq.trans (x18 (h := 7) hT rfl) ?_
    exact x201 (h := 18) hT rfl
/-! WordLinks$Phrases.insert(J)V -/
set_option maxRecDepth 100000 in
theorem e_106 {P : zP} {d : zD P} {a0 : Nat} {a1 : Int} (ha0 : zkd a0 = 4) : MM P 106 [(2, ((a0 : Nat) : Int)), (1, a1)] d = ((MM P 18 [(2, ((a0 : Nat) : Int)), (1, a1)] d).bind fun q1 => (if wr ((q1.2.m a0 2)) ≤ wr q1.1 then (if wr 5400 ≤ wr ((q1.2.m a0 2)) then some (0, q1.2) else (if 0 ≤ wr q1.1 ∧ 0 ≤ wr ((q1.1 + 1)) ∧ 0 ≤ wr (((q1.2.m a0 2) - q1.1)) ∧ zix q1.1 + zix (((q1.2.m a0 2) - q1.1)) ≤ 5400 ∧ zix ((q1.1 + 1)) + zix (((q1.2.m a0 2) - q1.1)) ≤ 5400 then (if 0 ≤ wr q1.1 ∧ 0 ≤ wr ((q1.1 + 1)) ∧ 0 ≤ wr (((((q1.2.cp ((a0 + 1)) ((a0 + 1)) (zix q1.1) (zix ((q1.1 + 1))) (zix (((q1.2.m a0 2) - q1.1))))).m a0 2) - q1.1)) ∧ zix q1.1 + zix (((((q1.2.cp ((a0 + 1)) ((a0 + 1)) (zix q1.1) (zix ((q1.1 + 1))) (zix (((q1.2.m a0 2) - q1.1))))).m a0 2) - q1.1)) ≤ 5400 ∧ zix ((q1.1 + 1)) + zix (((((q1.2.cp ((a0 + 1)) ((a0 + 1)) (zix q1.1) (zix ((q1.1 + 1))) (zix (((q1.2.m a0 2) - q1.1))))).m a0 2) - q1.1)) ≤ 5400 then (if zin q1.1 5400 then (if zin q1.1 5400 then some (0, (((((((((q1.2.cp ((a0 + 1)) ((a0 + 1)) (zix q1.1) (zix ((q1.1 + 1))) (zix (((q1.2.m a0 2) - q1.1))))).cp ((a0 + 2)) ((a0 + 2)) (zix q1.1) (zix ((q1.1 + 1))) (zix (((((q1.2.cp ((a0 + 1)) ((a0 + 1)) (zix q1.1) (zix ((q1.1 + 1))) (zix (((q1.2.m a0 2) - q1.1))))).m a0 2) - q1.1))))).up ((a0 + 1)) (zix q1.1) a1)).up ((a0 + 2)) (zix q1.1) 1)).up a0 2 (((((((((((q1.2.cp ((a0 + 1)) ((a0 + 1)) (zix q1.1) (zix ((q1.1 + 1))) (zix (((q1.2.m a0 2) - q1.1))))).cp ((a0 + 2)) ((a0 + 2)) (zix q1.1) (zix ((q1.1 + 1))) (zix (((((q1.2.cp ((a0 + 1)) ((a0 + 1)) (zix q1.1) (zix ((q1.1 + 1))) (zix (((q1.2.m a0 2) - q1.1))))).m a0 2) - q1.1))))).up ((a0 + 1)) (zix q1.1) a1)).up ((a0 + 2)) (zix q1.1) 1)).m a0 2) + 1)))) else none) else none) else none) else none)) else (if zin q1.1 5400 then (if wrl ((q1.2.m ((a0 + 1)) (zix q1.1))) ≠ wrl a1 then (if wr 5400 ≤ wr ((q1.2.m a0 2)) then some (0, q1.2) else (if 0 ≤ wr q1.1 ∧ 0 ≤ wr ((q1.1 + 1)) ∧ 0 ≤ wr (((q1.2.m a0 2) - q1.1)) ∧ zix q1.1 + zix (((q1.2.m a0 2) - q1.1)) ≤ 5400 ∧ zix ((q1.1 + 1)) + zix (((q1.2.m a0 2) - q1.1)) ≤ 5400 then (if 0 ≤ wr q1.1 ∧ 0 ≤ wr ((q1.1 + 1)) ∧ 0 ≤ wr (((((q1.2.cp ((a0 + 1)) ((a0 + 1)) (zix q1.1) (zix ((q1.1 + 1))) (zix (((q1.2.m a0 2) - q1.1))))).m a0 2) - q1.1)) ∧ zix q1.1 + zix (((((q1.2.cp ((a0 + 1)) ((a0 + 1)) (zix q1.1) (zix ((q1.1 + 1))) (zix (((q1.2.m a0 2) - q1.1))))).m a0 2) - q1.1)) ≤ 5400 ∧ zix ((q1.1 + 1)) + zix (((((q1.2.cp ((a0 + 1)) ((a0 + 1)) (zix q1.1) (zix ((q1.1 + 1))) (zix (((q1.2.m a0 2) - q1.1))))).m a0 2) - q1.1)) ≤ 5400 then (if zin q1.1 5400 then (if zin q1.1 5400 then some (0, (((((((((q1.2.cp ((a0 + 1)) ((a0 + 1)) (zix q1.1) (zix ((q1.1 + 1))) (zix (((q1.2.m a0 2) - q1.1))))).cp ((a0 + 2)) ((a0 + 2)) (zix q1.1) (zix ((q1.1 + 1))) (zix (((((q1.2.cp ((a0 + 1)) ((a0 + 1)) (zix q1.1) (zix ((q1.1 + 1))) (zix (((q1.2.m a0 2) - q1.1))))).m a0 2) - q1.1))))).up ((a0 + 1)) (zix q1.1) a1)).up ((a0 + 2)) (zix q1.1) 1)).up a0 2 (((((((((((q1.2.cp ((a0 + 1)) ((a0 + 1)) (zix q1.1) (zix ((q1.1 + 1))) (zix (((q1.2.m a0 2) - q1.1))))).cp ((a0 + 2)) ((a0 + 2)) (zix q1.1) (zix ((q1.1 + 1))) (zix (((((q1.2.cp ((a0 + 1)) ((a0 + 1)) (zix q1.1) (zix ((q1.1 + 1))) (zix (((q1.2.m a0 2) - q1.1))))).m a0 2) - q1.1))))).up ((a0 + 1)) (zix q1.1) a1)).up ((a0 + 2)) (zix q1.1) 1)).m a0 2) + 1)))) else none) else none) else none) else none)) else (if zin q1.1 5400 then (if zin q1.1 5400 then some (0, (q1.2.up ((a0 + 2)) (zix q1.1) (((q1.2.m ((a0 + 2)) (zix q1.1)) + 1)))) else none) else none)) else none))) := by
  have hT := cT_106
  refine Eq.trans (MM_def sm_106 (Nat.le_of_ble_eq_true rfl)) ?_
  change zB P 106 0 [(2, ((a0 : Nat) : Int)), (1, a1), (3, 0), (3, 0)] [] d = _
  refine Eq.trans (x1 (h := 0) hT rfl rfl (by decide)) ?_
  refine Eq.trans (x1 (h := 1) hT rfl rfl (by decide)) ?_
  refine Eq.trans (x31 (r := a0) (cl := 4) (as := [(1, a1)]) (st' := []) (h := 2) hT rfl sm_18 rfl ha0) ?_
  refine xbd (fun q1 => ?_)
  rw [rv_18]
  change zB P 106 3 [(2, ((a0 : Nat) : Int)), (1, a1), (3, 0), (3, 0)] [(0, q1.1)] q1.2 = _
  refine Eq.trans (x2 (ls' := [(2, ((a0 : Nat) : Int)), (1, a1), (3, 0), (0, q1.1)]) (h := 3) hT rfl (Nat.le_of_ble_eq_true rfl) rfl) ?_
  refine Eq.trans (x1 (h := 4) hT rfl rfl (by decide)) ?_
  refine Eq.trans (x1 (h := 5) hT rfl rfl (by decide)) ?_
  refine Eq.trans (x21 (r := a0) (cl := 4) (h := 6) hT rfl ha0) ?_
  refine Eq.trans (x17_3 (h := 7) hT rfl) ?_
  refine xit (fun _ => ?_) (fun _ => ?_)
  · refine Eq.trans (x1 (h := 24) hT rfl rfl (by decide)) ?_
    refine Eq.trans (x21 (r := a0) (cl := 4) (h := 25) hT rfl ha0) ?_
    refine Eq.trans (x0 (h := 26) hT rfl) ?_
    refine Eq.trans (x17_3 (h := 27) hT rfl) ?_
    refine xit (fun _ => ?_) (fun _ => ?_)
    · exact x20 (h := 70) hT rfl
    · refine Eq.trans (x1 (h := 28) hT rfl rfl (by decide)) ?_
      refine Eq.trans (x21r (r := a0) (cl := 4) (o := 1) (h := 29) hT rfl ha0 (by decide) rfl) ?_
      refine Eq.trans (x1 (h := 30) hT rfl rfl (by decide)) ?_
      refine Eq.trans (x1 (h := 31) hT rfl rfl (by decide)) ?_
      refine Eq.trans (x21r (r := a0) (cl := 4) (o := 1) (h := 32) hT rfl ha0 (by decide) rfl) ?_
      refine Eq.trans (x1 (h := 33) hT rfl rfl (by decide)) ?_
      refine Eq.trans (x0 (h := 34) hT rfl) ?_
      refine Eq.trans (x5_0 (h := 35) hT rfl) ?_
      refine Eq.trans (x1 (h := 36) hT rfl rfl (by decide)) ?_
      refine Eq.trans (x21 (r := a0) (cl := 4) (h := 37) hT rfl ha0) ?_
      refine Eq.trans (x1 (h := 38) hT rfl rfl (by decide)) ?_
      refine Eq.trans (x5_1 (h := 39) hT rfl) ?_
      refine Eq.trans (x32 (r1 := (a0 + 1)) (r2 := (a0 + 1)) (n1 := 5400) (n2 := 5400) (h := 40) hT rfl (kd_4_0 ha0) (kd_4_0 ha0) (by decide) (ln_4_0 ha0) (ln_4_0 ha0) rfl) ?_
      refine xig (fun hz2 => ?_)
      refine Eq.trans (x1 (h := 41) hT rfl rfl (by decide)) ?_
      refine Eq.trans (x21r (r := a0) (cl := 4) (o := 2) (h := 42) hT rfl ha0 (by decide) rfl) ?_
      refine Eq.trans (x1 (h := 43) hT rfl rfl (by decide)) ?_
      refine Eq.trans (x1 (h := 44) hT rfl rfl (by decide)) ?_
      refine Eq.trans (x21r (r := a0) (cl := 4) (o := 2) (h := 45) hT rfl ha0 (by decide) rfl) ?_
      refine Eq.trans (x1 (h := 46) hT rfl rfl (by decide)) ?_
      refine Eq.trans (x0 (h := 47) hT rfl) ?_
      refine Eq.trans (x5_0 (h := 48) hT rfl) ?_
      refine Eq.trans (x1 (h := 49) hT rfl rfl (by decide)) ?_
      refine Eq.trans (x21 (r := a0) (cl := 4) (h := 50) hT rfl ha0) ?_
      refine Eq.trans (x1 (h := 51) hT rfl rfl (by decide)) ?_
      refine Eq.trans (x5_1 (h := 52) hT rfl) ?_
      refine Eq.trans (x32 (r1 := (a0 + 2)) (r2 := (a0 + 2)) (n1 := 5400) (n2 := 5400) (h := 53) hT rfl (kd_4_1 ha0) (kd_4_1 ha0) (by decide) (ln_4_1 ha0) (ln_4_1 ha0) rfl) ?_
      refine xig (fun hz3 => ?_)
      refine Eq.trans (x1 (h := 54) hT rfl rfl (by decide)) ?_
      refine Eq.trans (x21r (r := a0) (cl := 4) (o := 1) (h := 55) hT rfl ha0 (by decide) rfl) ?_
      refine Eq.trans (x1 (h := 56) hT rfl rfl (by decide)) ?_
      refine Eq.trans (x1 (h := 57) hT rfl rfl (by decide)) ?_
      refine Eq.trans (x25a (r := (a0 + 1)) (n := 5400) (h := 58) hT rfl (kd_4_0 ha0) (ln_4_0 ha0) (by decide) rfl) ?_
      refine xig (fun hz4 => ?_)
      refine Eq.trans (x1 (h := 59) hT rfl rfl (by decide)) ?_
      refine Eq.trans (x21r (r := a0) (cl := 4) (o := 2) (h := 60) hT rfl ha0 (by decide) rfl) ?_
      refine Eq.trans (x1 (h := 61) hT rfl rfl (by decide)) ?_
      refine Eq.trans (x0 (h := 62) hT rfl) ?_
      refine Eq.trans (x25a (r := (a0 + 2)) (n := 5400) (h := 63) hT rfl (kd_4_1 ha0) (ln_4_1 ha0) (by decide) rfl) ?_
      refine xig (fun hz5 => ?_)
      refine Eq.trans (x1 (h := 64) hT rfl rfl (by decide)) ?_
      refine Eq.trans (x13 (h := 65) hT rfl (by decide)) ?_
      refine Eq.trans (x21 (r := a0) (cl := 4) (h := 66) hT rfl ha0) ?_
      refine Eq.trans (x0 (h := 67) hT rfl) ?_
      refine Eq.trans (x5_0 (h := 68) hT rfl) ?_
      refine Eq.trans (x22 (r := a0) (cl := 4) (h := 69) hT rfl ha0 (by decide) rfl (by decide)) ?_
      exact x20 (h := 70) hT rfl
  · refine Eq.trans (x1 (h := 8) hT rfl rfl (by decide)) ?_
    refine Eq.trans (x21r (r := a0) (cl := 4) (o := 1) (h := 9) hT rfl ha0 (by decide) rfl) ?_
    refine Eq.trans (x1 (h := 10) hT rfl rfl (by decide)) ?_
    refine Eq.trans (x24 (r := (a0 + 1)) (n := 5400) (h := 11) hT rfl (Or.inl (kd_4_0 ha0)) (ln_4_0 ha0)) ?_
    refine xig (fun hz6 => ?_)
    refine Eq.trans (x1 (h := 12) hT rfl rfl (by decide)) ?_
    refine Eq.trans (x116_1 (h := 13) hT rfl rfl) ?_
    refine xit (fun _ => ?_) (fun _ => ?_)
    · refine Eq.trans (x1 (h := 24) hT rfl rfl (by decide)) ?_
      refine Eq.trans (x21 (r := a0) (cl := 4) (h := 25) hT rfl ha0) ?_
      refine Eq.trans (x0 (h := 26) hT rfl) ?_
      refine Eq.trans (x17_3 (h := 27) hT rfl) ?_
      refine xit (fun _ => ?_) (fun _ => ?_)
      · exact x20 (h := 70) hT rfl
      · refine Eq.trans (x1 (h := 28) hT rfl rfl (by decide)) ?_
        refine Eq.trans (x21r (r := a0) (cl := 4) (o := 1) (h := 29) hT rfl ha0 (by decide) rfl) ?_
        refine Eq.trans (x1 (h := 30) hT rfl rfl (by decide)) ?_
        refine Eq.trans (x1 (h := 31) hT rfl rfl (by decide)) ?_
        refine Eq.trans (x21r (r := a0) (cl := 4) (o := 1) (h := 32) hT rfl ha0 (by decide) rfl) ?_
        refine Eq.trans (x1 (h := 33) hT rfl rfl (by decide)) ?_
        refine Eq.trans (x0 (h := 34) hT rfl) ?_
        refine Eq.trans (x5_0 (h := 35) hT rfl) ?_
        refine Eq.trans (x1 (h := 36) hT rfl rfl (by decide)) ?_
        refine Eq.trans (x21 (r := a0) (cl := 4) (h := 37) hT rfl ha0) ?_
        refine Eq.trans (x1 (h := 38) hT rfl rfl (by decide)) ?_
        refine Eq.trans (x5_1 (h := 39) hT rfl) ?_
        refine Eq.trans (x32 (r1 := (a0 + 1)) (r2 := (a0 + 1)) (n1 := 5400) (n2 := 5400) (h := 40) hT rfl (kd_4_0 ha0) (kd_4_0 ha0) (by decide) (ln_4_0 ha0) (ln_4_0 ha0) rfl) ?_
        refine xig (fun hz7 => ?_)
        refine Eq.trans (x1 (h := 41) hT rfl rfl (by decide)) ?_
        refine Eq.trans (x21r (r := a0) (cl := 4) (o := 2) (h := 42) hT rfl ha0 (by decide) rfl) ?_
        refine Eq.trans (x1 (h := 43) hT rfl rfl (by decide)) ?_
        refine Eq.trans (x1 (h := 44) hT rfl rfl (by decide)) ?_
        refine Eq.trans (x21r (r := a0) (cl := 4) (o := 2) (h := 45) hT rfl ha0 (by decide) rfl) ?_
        refine Eq.trans (x1 (h := 46) hT rfl rfl (by decide)) ?_
        refine Eq.trans (x0 (h := 47) hT rfl) ?_
        refine Eq.trans (x5_0 (h := 48) hT rfl) ?_
        refine Eq.trans (x1 (h := 49) hT rfl rfl (by decide)) ?_
        refine Eq.trans (x21 (r := a0) (cl := 4) (h := 50) hT rfl ha0) ?_
        refine Eq.trans (x1 (h := 51) hT rfl rfl (by decide)) ?_
        refine Eq.trans (x5_1 (h := 52) hT rfl) ?_
        refine Eq.trans (x32 (r1 := (a0 + 2)) (r2 := (a0 + 2)) (n1 := 5400) (n2 := 5400) (h := 53) hT rfl (kd_4_1 ha0) (kd_4_1 ha0) (by decide) (ln_4_1 ha0) (ln_4_1 ha0) rfl) ?_
        refine xig (fun hz8 => ?_)
        refine Eq.trans (x1 (h := 54) hT rfl rfl (by decide)) ?_
        refine Eq.trans (x21r (r := a0) (cl := 4) (o := 1) (h := 55) hT rfl ha0 (by decide) rfl) ?_
        refine Eq.trans (x1 (h := 56) hT rfl rfl (by decide)) ?_
        refine Eq.trans (x1 (h := 57) hT rfl rfl (by decide)) ?_
        refine Eq.trans (x25a (r := (a0 + 1)) (n := 5400) (h := 58) hT rfl (kd_4_0 ha0) (ln_4_0 ha0) (by decide) rfl) ?_
        refine xig (fun hz9 => ?_)
        refine Eq.trans (x1 (h := 59) hT rfl rfl (by decide)) ?_
        refine Eq.trans (x21r (r := a0) (cl := 4) (o := 2) (h := 60) hT rfl ha0 (by decide) rfl) ?_
        refine Eq.trans (x1 (h := 61) hT rfl rfl (by decide)) ?_
        refine Eq.trans (x0 (h := 62) hT rfl) ?_
        refine Eq.trans (x25a (r := (a0 + 2)) (n := 5400) (h := 63) hT rfl (kd_4_1 ha0) (ln_4_1 ha0) (by decide) rfl) ?_
        refine xig (fun hz10 => ?_)
        refine Eq.trans (x1 (h := 64) hT rfl rfl (by decide)) ?_
        refine Eq.trans (x13 (h := 65) hT rfl (by decide)) ?_
        refine Eq.trans (x21 (r := a0) (cl := 4) (h := 66) hT rfl ha0) ?_
        refine Eq.trans (x0 (h := 67) hT rfl) ?_
        refine Eq.trans (x5_0 (h := 68) hT rfl) ?_
        refine Eq.trans (x22 (r := a0) (cl := 4) (h := 69) hT rfl ha0 (by decide) rfl (by decide)) ?_
        exact x20 (h := 70) hT rfl
    · refine Eq.trans (x1 (h := 15) hT rfl rfl (by decide)) ?_
      refine Eq.trans (x21r (r := a0) (cl := 4) (o := 2) (h := 16) hT rfl ha0 (by decide) rfl) ?_
      refine Eq.trans (x1 (h := 17) hT rfl rfl (by decide)) ?_
      refine Eq.trans (x14 (h := 18) hT rfl (by decide)) ?_
      refine Eq.trans (x24 (r := (a0 + 2)) (n := 5400) (h := 19) hT rfl (Or.inl (kd_4_1 ha0)) (ln_4_1 ha0)) ?_
      refine xig (fun hz11 => ?_)
      refine Eq.trans (x0 (h := 20) hT rfl) ?_
      refine Eq.trans (x5_0 (h := 21) hT rfl) ?_
      refine Eq.trans (x25a (r := (a0 + 2)) (n := 5400) (h := 22) hT rfl (kd_4_1 ha0) (ln_4_1 ha0) (by decide) rfl) ?_
      refine xig (fun hz12 => ?_)
      refine Eq.trans (x18 (h := 23) hT rfl) ?_
      exact x20 (h := 70) hT rfl
/-! WordLinks$Phrases.rowIn(LWordLinks$Corpus;III)J -/
set_option maxRecDepth 100000 in
theorem e_107 {P : zP} {d : zD P} {a0 : Nat} {a1 : Nat} {a2 : Int} {a3 : Int} {a4 : Int} (ha0 : zkd a0 = 4) (ha1 : zkd a1 = 0) : MM P 107 [(2, ((a0 : Nat) : Int)), (2, ((a1 : Nat) : Int)), (0, a2), (0, a3), (0, a4)] d = ((MM P 11 [(0, a4)] d).bind fun q1 => ((MM P 10 [(0, a4)] q1.2).bind fun q2 => zB P 107 10 [(2, ((a0 : Nat) : Int)), (2, ((a1 : Nat) : Int)), (0, a2), (0, a3), (0, a4), (0, q1.1), (0, q2.1), (1, 0), (3, 0), (0, 0)] [] q2.2)) := by
  have hT := cT_107
  refine Eq.trans (MM_def sm_107 (Nat.le_of_ble_eq_true rfl)) ?_
  change zB P 107 0 [(2, ((a0 : Nat) : Int)), (2, ((a1 : Nat) : Int)), (0, a2), (0, a3), (0, a4), (3, 0), (3, 0), (3, 0), (3, 0), (3, 0)] [] d = _
  refine Eq.trans (x1 (h := 0) hT rfl rfl (by decide)) ?_
  refine Eq.trans (x34 (as := [(0, a4)]) (st' := []) (h := 1) hT rfl sm_11 rfl) ?_
  refine xbd (fun q1 => ?_)
  rw [rv_11]
  change zB P 107 2 [(2, ((a0 : Nat) : Int)), (2, ((a1 : Nat) : Int)), (0, a2), (0, a3), (0, a4), (3, 0), (3, 0), (3, 0), (3, 0), (3, 0)] [(0, q1.1)] q1.2 = _
  refine Eq.trans (x2 (ls' := [(2, ((a0 : Nat) : Int)), (2, ((a1 : Nat) : Int)), (0, a2), (0, a3), (0, a4), (0, q1.1), (3, 0), (3, 0), (3, 0), (3, 0)]) (h := 2) hT rfl (Nat.le_of_ble_eq_true rfl) rfl) ?_
  refine Eq.trans (x1 (h := 3) hT rfl rfl (by decide)) ?_
  refine Eq.trans (x34 (as := [(0, a4)]) (st' := []) (h := 4) hT rfl sm_10 rfl) ?_
  refine xbd (fun q2 => ?_)
  rw [rv_10]
  change zB P 107 5 [(2, ((a0 : Nat) : Int)), (2, ((a1 : Nat) : Int)), (0, a2), (0, a3), (0, a4), (0, q1.1), (3, 0), (3, 0), (3, 0), (3, 0)] [(0, q2.1)] q2.2 = _
  refine Eq.trans (x2 (ls' := [(2, ((a0 : Nat) : Int)), (2, ((a1 : Nat) : Int)), (0, a2), (0, a3), (0, a4), (0, q1.1), (0, q2.1), (3, 0), (3, 0), (3, 0)]) (h := 5) hT rfl (Nat.le_of_ble_eq_true rfl) rfl) ?_
  refine Eq.trans (x0 (h := 6) hT rfl) ?_
  refine Eq.trans (x3 (ls' := [(2, ((a0 : Nat) : Int)), (2, ((a1 : Nat) : Int)), (0, a2), (0, a3), (0, a4), (0, q1.1), (0, q2.1), (1, 0), (3, 0), (3, 0)]) (h := 7) hT rfl (Nat.le_of_ble_eq_true rfl) rfl) ?_
  refine Eq.trans (x0 (h := 8) hT rfl) ?_
  refine Eq.trans (x2 (ls' := [(2, ((a0 : Nat) : Int)), (2, ((a1 : Nat) : Int)), (0, a2), (0, a3), (0, a4), (0, q1.1), (0, q2.1), (1, 0), (3, 0), (0, 0)]) (h := 9) hT rfl (Nat.le_of_ble_eq_true rfl) rfl) ?_
  exact rfl
set_option maxRecDepth 100000 in
theorem q_107_10 {P : zP} {d : zD P} {g0 : zV} {a1 : Nat} {a2 : Int} {a3 : Int} {g4 : zV} {a5 : Int} {a6 : Int} {a7 : Int} {g8 : zV} {a9 : Int} (ha1 : zkd a1 = 0) : zB P 107 10 [g0, (2, ((a1 : Nat) : Int)), (0, a2), (0, a3), g4, (0, a5), (0, a6), (1, a7), g8, (0, a9)] [] d = (if wr 3 ≤ wr a9 then some (a7, d) else (if wr a6 ≤ wr ((a5 + a9)) then zB P 107 10 [g0, (2, ((a1 : Nat) : Int)), (0, a2), (0, a3), g4, (0, a5), (0, a6), (1, (zlsh 0 a7 6)), (3, 0), (0, (a9 + 1))] [] d else ((MM P 5 [(2, ((a1 : Nat) : Int)), (0, a2), (0, a3), (0, (a5 + a9))] d).bind fun q3 => zB P 107 10 [g0, (2, ((a1 : Nat) : Int)), (0, a2), (0, a3), g4, (0, a5), (0, a6), (1, (zlbin 4 ((zlsh 0 a7 6)) ((wr ((q3.1 + 1)))))), (3, 0), (0, (a9 + 1))] [] q3.2))) := by
  have hT := cT_107
  refine Eq.trans (x1 (h := 10) hT rfl rfl (by decide)) ?_
  refine Eq.trans (x0 (h := 11) hT rfl) ?_
  refine Eq.trans (x17_3 (h := 12) hT rfl) ?_
  refine xit (fun _ => ?_) (fun _ => ?_)
  · refine Eq.trans (x1 (h := 37) hT rfl rfl (by decide)) ?_
    exact x202 (h := 38) hT rfl
  · refine Eq.trans (x1 (h := 13) hT rfl rfl (by decide)) ?_
    refine Eq.trans (x0 (h := 14) hT rfl) ?_
    refine Eq.trans (x10 (h := 15) hT rfl) ?_
    refine Eq.trans (x3 (ls' := [g0, (2, ((a1 : Nat) : Int)), (0, a2), (0, a3), g4, (0, a5), (0, a6), (1, (zlsh 0 a7 6)), (3, 0), (0, a9)]) (h := 16) hT rfl (Nat.le_of_ble_eq_true rfl) rfl) ?_
    refine Eq.trans (x1 (h := 17) hT rfl rfl (by decide)) ?_
    refine Eq.trans (x1 (h := 18) hT rfl rfl (by decide)) ?_
    refine Eq.trans (x5_0 (h := 19) hT rfl) ?_
    refine Eq.trans (x1 (h := 20) hT rfl rfl (by decide)) ?_
    refine Eq.trans (x17_3 (h := 21) hT rfl) ?_
    refine xit (fun _ => ?_) (fun _ => ?_)
    · refine Eq.trans (x4 (ls' := [g0, (2, ((a1 : Nat) : Int)), (0, a2), (0, a3), g4, (0, a5), (0, a6), (1, (zlsh 0 a7 6)), (3, 0), (0, (a9 + 1))]) (h := 35) hT rfl rfl rfl) ?_
      refine Eq.trans (x18 (h := 36) hT rfl) ?_
      exact rfl
    · refine Eq.trans (x1 (h := 22) hT rfl rfl (by decide)) ?_
      refine Eq.trans (x1 (h := 23) hT rfl rfl (by decide)) ?_
      refine Eq.trans (x1 (h := 24) hT rfl rfl (by decide)) ?_
      refine Eq.trans (x1 (h := 25) hT rfl rfl (by decide)) ?_
      refine Eq.trans (x1 (h := 26) hT rfl rfl (by decide)) ?_
      refine Eq.trans (x1 (h := 27) hT rfl rfl (by decide)) ?_
      refine Eq.trans (x5_0 (h := 28) hT rfl) ?_
      refine Eq.trans (x31 (r := a1) (cl := 0) (as := [(0, a2), (0, a3), (0, (a5 + a9))]) (st' := [(1, (zlsh 0 a7 6))]) (h := 29) hT rfl sm_5 rfl ha1) ?_
      refine xbd (fun q3 => ?_)
      rw [rv_5]
      change zB P 107 30 [g0, (2, ((a1 : Nat) : Int)), (0, a2), (0, a3), g4, (0, a5), (0, a6), (1, (zlsh 0 a7 6)), (3, 0), (0, a9)] [(0, q3.1), (1, (zlsh 0 a7 6))] q3.2 = _
      refine Eq.trans (x0 (h := 30) hT rfl) ?_
      refine Eq.trans (x5_0 (h := 31) hT rfl) ?_
      refine Eq.trans (x12 (h := 32) hT rfl) ?_
      refine Eq.trans (x8n (h := 33) hT rfl) ?_
      refine Eq.trans (x3 (ls' := [g0, (2, ((a1 : Nat) : Int)), (0, a2), (0, a3), g4, (0, a5), (0, a6), (1, (zlbin 4 ((zlsh 0 a7 6)) ((wr ((q3.1 + 1)))))), (3, 0), (0, a9)]) (h := 34) hT rfl (Nat.le_of_ble_eq_true rfl) rfl) ?_
      refine Eq.trans (x4 (ls' := [g0, (2, ((a1 : Nat) : Int)), (0, a2), (0, a3), g4, (0, a5), (0, a6), (1, (zlbin 4 ((zlsh 0 a7 6)) ((wr ((q3.1 + 1)))))), (3, 0), (0, (a9 + 1))]) (h := 35) hT rfl rfl rfl) ?_
      refine Eq.trans (x18 (h := 36) hT rfl) ?_
      exact rfl
/-! WordLinks$Phrases.wordsOf(II)I -/
set_option maxRecDepth 100000 in
theorem e_108 {P : zP} {d : zD P} {a0 : Nat} {a1 : Int} {a2 : Int} (ha0 : zkd a0 = 4) : MM P 108 [(2, ((a0 : Nat) : Int)), (0, a1), (0, a2)] d = zB P 108 2 [(2, ((a0 : Nat) : Int)), (0, a1), (0, a2), (0, 0)] [] d := by
  have hT := cT_108
  refine Eq.trans (MM_def sm_108 (Nat.le_of_ble_eq_true rfl)) ?_
  change zB P 108 0 [(2, ((a0 : Nat) : Int)), (0, a1), (0, a2), (3, 0)] [] d = _
  refine Eq.trans (x0 (h := 0) hT rfl) ?_
  refine Eq.trans (x2 (ls' := [(2, ((a0 : Nat) : Int)), (0, a1), (0, a2), (0, 0)]) (h := 1) hT rfl (Nat.le_of_ble_eq_true rfl) rfl) ?_
  exact rfl
set_option maxRecDepth 100000 in
theorem q_108_2 {P : zP} {d : zD P} {a0 : Nat} {a1 : Int} {a2 : Int} {a3 : Int} (ha0 : zkd a0 = 4) : zB P 108 2 [(2, ((a0 : Nat) : Int)), (0, a1), (0, a2), (0, a3)] [] d = (if wr 3 ≤ wr a3 then some (a3, d) else ((MM P 20 [(2, ((a0 : Nat) : Int)), (0, a1), (0, a2), (0, a3)] d).bind fun q1 => (if wr q1.1 < 0 then some (a3, q1.2) else zB P 108 2 [(2, ((a0 : Nat) : Int)), (0, a1), (0, a2), (0, (a3 + 1))] [] q1.2))) := by
  have hT := cT_108
  refine Eq.trans (x1 (h := 2) hT rfl rfl (by decide)) ?_
  refine Eq.trans (x0 (h := 3) hT rfl) ?_
  refine Eq.trans (x17_3 (h := 4) hT rfl) ?_
  refine xit (fun _ => ?_) (fun _ => ?_)
  · refine Eq.trans (x1 (h := 13) hT rfl rfl (by decide)) ?_
    exact x201 (h := 14) hT rfl
  · refine Eq.trans (x1 (h := 5) hT rfl rfl (by decide)) ?_
    refine Eq.trans (x1 (h := 6) hT rfl rfl (by decide)) ?_
    refine Eq.trans (x1 (h := 7) hT rfl rfl (by decide)) ?_
    refine Eq.trans (x1 (h := 8) hT rfl rfl (by decide)) ?_
    refine Eq.trans (x31 (r := a0) (cl := 4) (as := [(0, a1), (0, a2), (0, a3)]) (st' := []) (h := 9) hT rfl sm_20 rfl ha0) ?_
    refine xbd (fun q1 => ?_)
    rw [rv_20]
    change zB P 108 10 [(2, ((a0 : Nat) : Int)), (0, a1), (0, a2), (0, a3)] [(0, q1.1)] q1.2 = _
    refine Eq.trans (x16_2 (h := 10) hT rfl) ?_
    refine xit (fun _ => ?_) (fun _ => ?_)
    · refine Eq.trans (x1 (h := 13) hT rfl rfl (by decide)) ?_
      exact x201 (h := 14) hT rfl
    · refine Eq.trans (x4 (ls' := [(2, ((a0 : Nat) : Int)), (0, a1), (0, a2), (0, (a3 + 1))]) (h := 11) hT rfl rfl rfl) ?_
      refine Eq.trans (x18 (h := 12) hT rfl) ?_
      exact rfl
/-! WordLinks$Rounder.weighCounts(LWordLinks$Corpus;II)V -/
set_option maxRecDepth 100000 in
theorem e_110 {P : zP} {d : zD P} {a0 : Nat} {a1 : Nat} {a2 : Int} {a3 : Int} (ha0 : zkd a0 = 6) (ha1 : zkd a1 = 0) : MM P 110 [(2, ((a0 : Nat) : Int)), (2, ((a1 : Nat) : Int)), (0, a2), (0, a3)] d = ((MM P 14 [(2, (((a0 + 1) : Nat) : Int))] d).bind fun q1 => zB P 110 5 [(2, ((a0 : Nat) : Int)), (2, ((a1 : Nat) : Int)), (0, a2), (0, a3), (0, 0)] [] q1.2) := by
  have hT := cT_110
  refine Eq.trans (MM_def sm_110 (Nat.le_of_ble_eq_true rfl)) ?_
  change zB P 110 0 [(2, ((a0 : Nat) : Int)), (2, ((a1 : Nat) : Int)), (0, a2), (0, a3), (3, 0)] [] d = _
  refine Eq.trans (x1 (h := 0) hT rfl rfl (by decide)) ?_
  refine Eq.trans (x21r (r := a0) (cl := 6) (o := 1) (h := 1) hT rfl ha0 (by decide) rfl) ?_
  refine Eq.trans (x31 (r := (a0 + 1)) (cl := 3) (as := []) (st' := []) (h := 2) hT rfl sm_14 rfl (kd_6_0 ha0)) ?_
  refine xbd (fun q1 => ?_)
  rw [rv_14]
  change zB P 110 3 [(2, ((a0 : Nat) : Int)), (2, ((a1 : Nat) : Int)), (0, a2), (0, a3), (3, 0)] [] q1.2 = _
  refine Eq.trans (x0 (h := 3) hT rfl) ?_
  refine Eq.trans (x2 (ls' := [(2, ((a0 : Nat) : Int)), (2, ((a1 : Nat) : Int)), (0, a2), (0, a3), (0, 0)]) (h := 4) hT rfl (Nat.le_of_ble_eq_true rfl) rfl) ?_
  exact rfl
set_option maxRecDepth 100000 in
theorem q_110_5 {P : zP} {d : zD P} {a0 : Nat} {a1 : Nat} {a2 : Int} {a3 : Int} {a4 : Int} (ha0 : zkd a0 = 6) (ha1 : zkd a1 = 0) : zB P 110 5 [(2, ((a0 : Nat) : Int)), (2, ((a1 : Nat) : Int)), (0, a2), (0, a3), (0, a4)] [] d = (if zin ((1 - a2)) 2 then (if wr ((d.m ((a1 + 1)) (zix ((1 - a2))))) ≤ wr a4 then some (0, d) else ((MM P 1 [(2, ((a1 : Nat) : Int)), (0, a2), (0, a3), (0, a4)] d).bind fun q3 => (if wr q3.1 = 0 then zB P 110 5 [(2, ((a0 : Nat) : Int)), (2, ((a1 : Nat) : Int)), (0, a2), (0, a3), (0, (a4 + 1))] [] q3.2 else (if zin (((a3 * 40) + a4)) 1600 then ((MM P 17 [(2, (((a0 + 1) : Nat) : Int)), (1, (wr ((q3.2.m ((a0 + 5)) (zix (((a3 * 40) + a4)))))))] q3.2).bind fun q5 => zB P 110 5 [(2, ((a0 : Nat) : Int)), (2, ((a1 : Nat) : Int)), (0, a2), (0, a3), (0, (a4 + 1))] [] q5.2) else none)))) else none) := by
  have hT := cT_110
  refine Eq.trans (x1 (h := 5) hT rfl rfl (by decide)) ?_
  refine Eq.trans (x1 (h := 6) hT rfl rfl (by decide)) ?_
  refine Eq.trans (x21r (r := a1) (cl := 0) (o := 1) (h := 7) hT rfl ha1 (by decide) rfl) ?_
  refine Eq.trans (x0 (h := 8) hT rfl) ?_
  refine Eq.trans (x1 (h := 9) hT rfl rfl (by decide)) ?_
  refine Eq.trans (x5_1 (h := 10) hT rfl) ?_
  refine Eq.trans (x24 (r := (a1 + 1)) (n := 2) (h := 11) hT rfl (Or.inl (kd_0_0 ha1)) (ln_0_0 ha1)) ?_
  refine xig (fun hz2 => ?_)
  refine Eq.trans (x17_3 (h := 12) hT rfl) ?_
  refine xit (fun _ => ?_) (fun _ => ?_)
  · exact x20 (h := 33) hT rfl
  · refine Eq.trans (x1 (h := 13) hT rfl rfl (by decide)) ?_
    refine Eq.trans (x1 (h := 14) hT rfl rfl (by decide)) ?_
    refine Eq.trans (x1 (h := 15) hT rfl rfl (by decide)) ?_
    refine Eq.trans (x1 (h := 16) hT rfl rfl (by decide)) ?_
    refine Eq.trans (x31 (r := a1) (cl := 0) (as := [(0, a2), (0, a3), (0, a4)]) (st' := []) (h := 17) hT rfl sm_1 rfl ha1) ?_
    refine xbd (fun q3 => ?_)
    rw [rv_1]
    change zB P 110 18 [(2, ((a0 : Nat) : Int)), (2, ((a1 : Nat) : Int)), (0, a2), (0, a3), (0, a4)] [(0, q3.1)] q3.2 = _
    refine Eq.trans (x16_0 (h := 18) hT rfl) ?_
    refine xit (fun _ => ?_) (fun _ => ?_)
    · refine Eq.trans (x4 (ls' := [(2, ((a0 : Nat) : Int)), (2, ((a1 : Nat) : Int)), (0, a2), (0, a3), (0, (a4 + 1))]) (h := 31) hT rfl rfl rfl) ?_
      refine Eq.trans (x18 (h := 32) hT rfl) ?_
      exact rfl
    · refine Eq.trans (x1 (h := 19) hT rfl rfl (by decide)) ?_
      refine Eq.trans (x21r (r := a0) (cl := 6) (o := 1) (h := 20) hT rfl ha0 (by decide) rfl) ?_
      refine Eq.trans (x1 (h := 21) hT rfl rfl (by decide)) ?_
      refine Eq.trans (x21r (r := a0) (cl := 6) (o := 5) (h := 22) hT rfl ha0 (by decide) rfl) ?_
      refine Eq.trans (x1 (h := 23) hT rfl rfl (by decide)) ?_
      refine Eq.trans (x0 (h := 24) hT rfl) ?_
      refine Eq.trans (x5_2 (h := 25) hT rfl) ?_
      refine Eq.trans (x1 (h := 26) hT rfl rfl (by decide)) ?_
      refine Eq.trans (x5_0 (h := 27) hT rfl) ?_
      refine Eq.trans (x24 (r := (a0 + 5)) (n := 1600) (h := 28) hT rfl (Or.inl (kd_6_1 ha0)) (ln_6_1 ha0)) ?_
      refine xig (fun hz4 => ?_)
      refine Eq.trans (x12 (h := 29) hT rfl) ?_
      refine Eq.trans (x31 (r := (a0 + 1)) (cl := 3) (as := [(1, (wr ((q3.2.m ((a0 + 5)) (zix (((a3 * 40) + a4)))))))]) (st' := []) (h := 30) hT rfl sm_17 rfl (kd_6_0 ha0)) ?_
      refine xbd (fun q5 => ?_)
      rw [rv_17]
      change zB P 110 31 [(2, ((a0 : Nat) : Int)), (2, ((a1 : Nat) : Int)), (0, a2), (0, a3), (0, a4)] [] q5.2 = _
      refine Eq.trans (x4 (ls' := [(2, ((a0 : Nat) : Int)), (2, ((a1 : Nat) : Int)), (0, a2), (0, a3), (0, (a4 + 1))]) (h := 31) hT rfl rfl rfl) ?_
      refine Eq.trans (x18 (h := 32) hT rfl) ?_
      exact rfl
/-! WordLinks$Rows.keyAt(II)J -/
set_option maxRecDepth 100000 in
theorem e_112 {P : zP} {d : zD P} {a0 : Nat} {a1 : Int} {a2 : Int} (ha0 : zkd a0 = 7) : MM P 112 [(2, ((a0 : Nat) : Int)), (0, a1), (0, a2)] d = (if wr a2 < 0 then some ((-1), d) else ((MM P 25 [(2, ((a0 : Nat) : Int)), (0, a1)] d).bind fun q1 => (if wr q1.1 ≤ wr a2 then some ((-1), q1.2) else (if zin (((a1 * 8) + a2)) 96 then some ((q1.2.m ((a0 + 2)) (zix (((a1 * 8) + a2)))), q1.2) else none)))) := by
  have hT := cT_112
  refine Eq.trans (MM_def sm_112 (Nat.le_of_ble_eq_true rfl)) ?_
  change zB P 112 0 [(2, ((a0 : Nat) : Int)), (0, a1), (0, a2)] [] d = _
  refine Eq.trans (x1 (h := 0) hT rfl rfl (by decide)) ?_
  refine Eq.trans (x16_2 (h := 1) hT rfl) ?_
  refine xit (fun _ => ?_) (fun _ => ?_)
  · refine Eq.trans (x0 (h := 16) hT rfl) ?_
    exact x202 (h := 17) hT rfl
  · refine Eq.trans (x1 (h := 2) hT rfl rfl (by decide)) ?_
    refine Eq.trans (x1 (h := 3) hT rfl rfl (by decide)) ?_
    refine Eq.trans (x1 (h := 4) hT rfl rfl (by decide)) ?_
    refine Eq.trans (x31 (r := a0) (cl := 7) (as := [(0, a1)]) (st' := [(0, a2)]) (h := 5) hT rfl sm_25 rfl ha0) ?_
    refine xbd (fun q1 => ?_)
    rw [rv_25]
    change zB P 112 6 [(2, ((a0 : Nat) : Int)), (0, a1), (0, a2)] [(0, q1.1), (0, a2)] q1.2 = _
    refine Eq.trans (x17_3 (h := 6) hT rfl) ?_
    refine xit (fun _ => ?_) (fun _ => ?_)
    · refine Eq.trans (x0 (h := 16) hT rfl) ?_
      exact x202 (h := 17) hT rfl
    · refine Eq.trans (x1 (h := 7) hT rfl rfl (by decide)) ?_
      refine Eq.trans (x21r (r := a0) (cl := 7) (o := 2) (h := 8) hT rfl ha0 (by decide) rfl) ?_
      refine Eq.trans (x1 (h := 9) hT rfl rfl (by decide)) ?_
      refine Eq.trans (x0 (h := 10) hT rfl) ?_
      refine Eq.trans (x5_2 (h := 11) hT rfl) ?_
      refine Eq.trans (x1 (h := 12) hT rfl rfl (by decide)) ?_
      refine Eq.trans (x5_0 (h := 13) hT rfl) ?_
      refine Eq.trans (x24 (r := (a0 + 2)) (n := 96) (h := 14) hT rfl (Or.inl (kd_7_1 ha0)) (ln_7_1 ha0)) ?_
      refine xig (fun hz2 => ?_)
      refine Eq.trans (x18 (h := 15) hT rfl) ?_
      exact x202 (h := 17) hT rfl
/-! WordLinks$Rows.takeAll(LWordLinks$Rows;)V -/
set_option maxRecDepth 100000 in
theorem e_113 {P : zP} {d : zD P} {a0 : Nat} {a1 : Nat} (ha0 : zkd a0 = 7) (ha1 : zkd a1 = 7) : MM P 113 [(2, ((a0 : Nat) : Int)), (2, ((a1 : Nat) : Int))] d = (if 0 ≤ wr 0 ∧ 0 ≤ wr 0 ∧ 0 ≤ wr 12 ∧ zix 0 + zix 12 ≤ 12 ∧ zix 0 + zix 12 ≤ 12 then (if 0 ≤ wr 0 ∧ 0 ≤ wr 0 ∧ 0 ≤ wr 96 ∧ zix 0 + zix 96 ≤ 96 ∧ zix 0 + zix 96 ≤ 96 then some (0, (((((d.up a0 2 ((d.m a1 2)))).cp ((a1 + 1)) ((a0 + 1)) (zix 0) (zix 0) (zix 12))).cp ((a1 + 2)) ((a0 + 2)) (zix 0) (zix 0) (zix 96))) else none) else none) := by
  have hT := cT_113
  refine Eq.trans (MM_def sm_113 (Nat.le_of_ble_eq_true rfl)) ?_
  change zB P 113 0 [(2, ((a0 : Nat) : Int)), (2, ((a1 : Nat) : Int))] [] d = _
  refine Eq.trans (x1 (h := 0) hT rfl rfl (by decide)) ?_
  refine Eq.trans (x1 (h := 1) hT rfl rfl (by decide)) ?_
  refine Eq.trans (x21 (r := a1) (cl := 7) (h := 2) hT rfl ha1) ?_
  refine Eq.trans (x22 (r := a0) (cl := 7) (h := 3) hT rfl ha0 (by decide) rfl (by decide)) ?_
  refine Eq.trans (x1 (h := 4) hT rfl rfl (by decide)) ?_
  refine Eq.trans (x21r (r := a1) (cl := 7) (o := 1) (h := 5) hT rfl ha1 (by decide) rfl) ?_
  refine Eq.trans (x0 (h := 6) hT rfl) ?_
  refine Eq.trans (x1 (h := 7) hT rfl rfl (by decide)) ?_
  refine Eq.trans (x21r (r := a0) (cl := 7) (o := 1) (h := 8) hT rfl ha0 (by decide) rfl) ?_
  refine Eq.trans (x0 (h := 9) hT rfl) ?_
  refine Eq.trans (x1 (h := 10) hT rfl rfl (by decide)) ?_
  refine Eq.trans (x21r (r := a0) (cl := 7) (o := 1) (h := 11) hT rfl ha0 (by decide) rfl) ?_
  refine Eq.trans (x26 (r := (a0 + 1)) (n := 12) (h := 12) hT rfl (by rw [(kd_7_0 ha0)]; decide) (ln_7_0 ha0)) ?_
  refine Eq.trans (x32 (r1 := (a1 + 1)) (r2 := (a0 + 1)) (n1 := 12) (n2 := 12) (h := 13) hT rfl (kd_7_0 ha1) (kd_7_0 ha0) (by decide) (ln_7_0 ha1) (ln_7_0 ha0) rfl) ?_
  refine xig (fun hz1 => ?_)
  refine Eq.trans (x1 (h := 14) hT rfl rfl (by decide)) ?_
  refine Eq.trans (x21r (r := a1) (cl := 7) (o := 2) (h := 15) hT rfl ha1 (by decide) rfl) ?_
  refine Eq.trans (x0 (h := 16) hT rfl) ?_
  refine Eq.trans (x1 (h := 17) hT rfl rfl (by decide)) ?_
  refine Eq.trans (x21r (r := a0) (cl := 7) (o := 2) (h := 18) hT rfl ha0 (by decide) rfl) ?_
  refine Eq.trans (x0 (h := 19) hT rfl) ?_
  refine Eq.trans (x1 (h := 20) hT rfl rfl (by decide)) ?_
  refine Eq.trans (x21r (r := a0) (cl := 7) (o := 2) (h := 21) hT rfl ha0 (by decide) rfl) ?_
  refine Eq.trans (x26 (r := (a0 + 2)) (n := 96) (h := 22) hT rfl (by rw [(kd_7_1 ha0)]; decide) (ln_7_1 ha0)) ?_
  refine Eq.trans (x32 (r1 := (a1 + 2)) (r2 := (a0 + 2)) (n1 := 96) (n2 := 96) (h := 23) hT rfl (kd_7_1 ha1) (kd_7_1 ha0) (by decide) (ln_7_1 ha1) (ln_7_1 ha0) rfl) ?_
  refine xig (fun hz2 => ?_)
  exact x20 (h := 24) hT rfl
/-! WordLinks$State.emptyShares(II)I -/
set_option maxRecDepth 100000 in
theorem e_115 {P : zP} {d : zD P} {a0 : Nat} {a1 : Int} {a2 : Int} (ha0 : zkd a0 = 9) : MM P 115 [(2, ((a0 : Nat) : Int)), (0, a1), (0, a2)] d = zB P 115 4 [(2, ((a0 : Nat) : Int)), (0, a1), (0, a2), (0, 0), (0, 0)] [] d := by
  have hT := cT_115
  refine Eq.trans (MM_def sm_115 (Nat.le_of_ble_eq_true rfl)) ?_
  change zB P 115 0 [(2, ((a0 : Nat) : Int)), (0, a1), (0, a2), (3, 0), (3, 0)] [] d = _
  refine Eq.trans (x0 (h := 0) hT rfl) ?_
  refine Eq.trans (x2 (ls' := [(2, ((a0 : Nat) : Int)), (0, a1), (0, a2), (0, 0), (3, 0)]) (h := 1) hT rfl (Nat.le_of_ble_eq_true rfl) rfl) ?_
  refine Eq.trans (x0 (h := 2) hT rfl) ?_
  refine Eq.trans (x2 (ls' := [(2, ((a0 : Nat) : Int)), (0, a1), (0, a2), (0, 0), (0, 0)]) (h := 3) hT rfl (Nat.le_of_ble_eq_true rfl) rfl) ?_
  exact rfl
set_option maxRecDepth 100000 in
theorem q_115_4 {P : zP} {d : zD P} {a0 : Nat} {a1 : Int} {a2 : Int} {a3 : Int} {a4 : Int} (ha0 : zkd a0 = 9) : zB P 115 4 [(2, ((a0 : Nat) : Int)), (0, a1), (0, a2), (0, a3), (0, a4)] [] d = (if zin ((1 - a1)) 2 then (if wr ((d.m (((a0 + 1) + 1)) (zix ((1 - a1))))) ≤ wr a4 then some (a3, d) else ((MM P 1 [(2, (((a0 + 1) : Nat) : Int)), (0, a1), (0, a2), (0, a4)] d).bind fun q2 => (if wr q2.1 = 0 then zB P 115 4 [(2, ((a0 : Nat) : Int)), (0, a1), (0, a2), (0, a3), (0, (a4 + 1))] [] q2.2 else ((MM P 32 [(2, ((a0 : Nat) : Int)), (0, a1), (0, a2), (0, a4)] q2.2).bind fun q3 => (if wr q3.1 ≠ 0 then zB P 115 4 [(2, ((a0 : Nat) : Int)), (0, a1), (0, a2), (0, a3), (0, (a4 + 1))] [] q3.2 else zB P 115 4 [(2, ((a0 : Nat) : Int)), (0, a1), (0, a2), (0, (a3 + 1)), (0, (a4 + 1))] [] q3.2))))) else none) := by
  have hT := cT_115
  refine Eq.trans (x1 (h := 4) hT rfl rfl (by decide)) ?_
  refine Eq.trans (x1 (h := 5) hT rfl rfl (by decide)) ?_
  refine Eq.trans (x21r (r := a0) (cl := 9) (o := 1) (h := 6) hT rfl ha0 (by decide) rfl) ?_
  refine Eq.trans (x21r (r := (a0 + 1)) (cl := 0) (o := 1) (h := 7) hT rfl (kd_9_0 ha0) (by decide) rfl) ?_
  refine Eq.trans (x0 (h := 8) hT rfl) ?_
  refine Eq.trans (x1 (h := 9) hT rfl rfl (by decide)) ?_
  refine Eq.trans (x5_1 (h := 10) hT rfl) ?_
  refine Eq.trans (x24 (r := ((a0 + 1) + 1)) (n := 2) (h := 11) hT rfl (Or.inl (kd_0_0 (kd_9_0 ha0))) (ln_0_0 (kd_9_0 ha0))) ?_
  refine xig (fun hz1 => ?_)
  refine Eq.trans (x17_3 (h := 12) hT rfl) ?_
  refine xit (fun _ => ?_) (fun _ => ?_)
  · refine Eq.trans (x1 (h := 29) hT rfl rfl (by decide)) ?_
    exact x201 (h := 30) hT rfl
  · refine Eq.trans (x1 (h := 13) hT rfl rfl (by decide)) ?_
    refine Eq.trans (x21r (r := a0) (cl := 9) (o := 1) (h := 14) hT rfl ha0 (by decide) rfl) ?_
    refine Eq.trans (x1 (h := 15) hT rfl rfl (by decide)) ?_
    refine Eq.trans (x1 (h := 16) hT rfl rfl (by decide)) ?_
    refine Eq.trans (x1 (h := 17) hT rfl rfl (by decide)) ?_
    refine Eq.trans (x31 (r := (a0 + 1)) (cl := 0) (as := [(0, a1), (0, a2), (0, a4)]) (st' := []) (h := 18) hT rfl sm_1 rfl (kd_9_0 ha0)) ?_
    refine xbd (fun q2 => ?_)
    rw [rv_1]
    change zB P 115 19 [(2, ((a0 : Nat) : Int)), (0, a1), (0, a2), (0, a3), (0, a4)] [(0, q2.1)] q2.2 = _
    refine Eq.trans (x16_0 (h := 19) hT rfl) ?_
    refine xit (fun _ => ?_) (fun _ => ?_)
    · refine Eq.trans (x4 (ls' := [(2, ((a0 : Nat) : Int)), (0, a1), (0, a2), (0, a3), (0, (a4 + 1))]) (h := 27) hT rfl rfl rfl) ?_
      refine Eq.trans (x18 (h := 28) hT rfl) ?_
      exact rfl
    · refine Eq.trans (x1 (h := 20) hT rfl rfl (by decide)) ?_
      refine Eq.trans (x1 (h := 21) hT rfl rfl (by decide)) ?_
      refine Eq.trans (x1 (h := 22) hT rfl rfl (by decide)) ?_
      refine Eq.trans (x1 (h := 23) hT rfl rfl (by decide)) ?_
      refine Eq.trans (x31 (r := a0) (cl := 9) (as := [(0, a1), (0, a2), (0, a4)]) (st' := []) (h := 24) hT rfl sm_32 rfl ha0) ?_
      refine xbd (fun q3 => ?_)
      rw [rv_32]
      change zB P 115 25 [(2, ((a0 : Nat) : Int)), (0, a1), (0, a2), (0, a3), (0, a4)] [(0, q3.1)] q3.2 = _
      refine Eq.trans (x16_1 (h := 25) hT rfl) ?_
      refine xit (fun _ => ?_) (fun _ => ?_)
      · refine Eq.trans (x4 (ls' := [(2, ((a0 : Nat) : Int)), (0, a1), (0, a2), (0, a3), (0, (a4 + 1))]) (h := 27) hT rfl rfl rfl) ?_
        refine Eq.trans (x18 (h := 28) hT rfl) ?_
        exact rfl
      · refine Eq.trans (x4 (ls' := [(2, ((a0 : Nat) : Int)), (0, a1), (0, a2), (0, (a3 + 1)), (0, a4)]) (h := 26) hT rfl rfl rfl) ?_
        refine Eq.trans (x4 (ls' := [(2, ((a0 : Nat) : Int)), (0, a1), (0, a2), (0, (a3 + 1)), (0, (a4 + 1))]) (h := 27) hT rfl rfl rfl) ?_
        refine Eq.trans (x18 (h := 28) hT rfl) ?_
        exact rfl
/-! WordLinks$State.nearness(IIII)I -/
set_option maxRecDepth 100000 in
theorem e_116 {P : zP} {d : zD P} {a0 : Nat} {a1 : Int} {a2 : Int} {a3 : Int} {a4 : Int} (ha0 : zkd a0 = 9) : MM P 116 [(2, ((a0 : Nat) : Int)), (0, a1), (0, a2), (0, a3), (0, a4)] d = (if zin 0 2 then (if zin a2 24 then (if zin 1 2 then (if zin a2 24 then (if 0 < wr (((d.m ((((a0 + 1) + 8) + (1 + zix 0))) (zix a2)) * (d.m ((((a0 + 1) + 8) + (1 + zix 1))) (zix a2)))) then ((MM P 33 [(2, ((a0 : Nat) : Int)), (0, a1), (0, a2), (0, a3), (0, a4)] d).bind fun q5 => (if wr (((d.m ((((a0 + 1) + 8) + (1 + zix 0))) (zix a2)) * (d.m ((((a0 + 1) + 8) + (1 + zix 1))) (zix a2)))) ≠ 0 then some ((if wr 7 < wr ((zdiv 0 ((q5.1 * 8)) (((d.m ((((a0 + 1) + 8) + (1 + zix 0))) (zix a2)) * (d.m ((((a0 + 1) + 8) + (1 + zix 1))) (zix a2)))))) then 7 else (zdiv 0 ((q5.1 * 8)) (((d.m ((((a0 + 1) + 8) + (1 + zix 0))) (zix a2)) * (d.m ((((a0 + 1) + 8) + (1 + zix 1))) (zix a2)))))), q5.2) else none)) else some (0, d)) else none) else none) else none) else none) := by
  have hT := cT_116
  refine Eq.trans (MM_def sm_116 (Nat.le_of_ble_eq_true rfl)) ?_
  change zB P 116 0 [(2, ((a0 : Nat) : Int)), (0, a1), (0, a2), (0, a3), (0, a4), (3, 0)] [] d = _
  refine Eq.trans (x1 (h := 0) hT rfl rfl (by decide)) ?_
  refine Eq.trans (x21r (r := a0) (cl := 9) (o := 1) (h := 1) hT rfl ha0 (by decide) rfl) ?_
  refine Eq.trans (x21r (r := (a0 + 1)) (cl := 0) (o := 8) (h := 2) hT rfl (kd_9_0 ha0) (by decide) rfl) ?_
  refine Eq.trans (x0 (h := 3) hT rfl) ?_
  refine Eq.trans (x24r (r := ((a0 + 1) + 8)) (n := 2) (h := 4) hT rfl (kd_0_3 (kd_9_0 ha0)) (ln_0_3 (kd_9_0 ha0)) (by decide)) ?_
  refine xig (fun hz1 => ?_)
  refine Eq.trans (x1 (h := 5) hT rfl rfl (by decide)) ?_
  refine Eq.trans (x24 (r := (((a0 + 1) + 8) + (1 + zix 0))) (n := 24) (h := 6) hT rfl (Or.inl (kq_0_3 (kd_9_0 ha0) (zix_lt hz1))) (lq_0_3 (kd_9_0 ha0) (zix_lt hz1))) ?_
  refine xig (fun hz2 => ?_)
  refine Eq.trans (x1 (h := 7) hT rfl rfl (by decide)) ?_
  refine Eq.trans (x21r (r := a0) (cl := 9) (o := 1) (h := 8) hT rfl ha0 (by decide) rfl) ?_
  refine Eq.trans (x21r (r := (a0 + 1)) (cl := 0) (o := 8) (h := 9) hT rfl (kd_9_0 ha0) (by decide) rfl) ?_
  refine Eq.trans (x0 (h := 10) hT rfl) ?_
  refine Eq.trans (x24r (r := ((a0 + 1) + 8)) (n := 2) (h := 11) hT rfl (kd_0_3 (kd_9_0 ha0)) (ln_0_3 (kd_9_0 ha0)) (by decide)) ?_
  refine xig (fun hz3 => ?_)
  refine Eq.trans (x1 (h := 12) hT rfl rfl (by decide)) ?_
  refine Eq.trans (x24 (r := (((a0 + 1) + 8) + (1 + zix 1))) (n := 24) (h := 13) hT rfl (Or.inl (kq_0_3 (kd_9_0 ha0) (zix_lt hz3))) (lq_0_3 (kd_9_0 ha0) (zix_lt hz3))) ?_
  refine xig (fun hz4 => ?_)
  refine Eq.trans (x5_2 (h := 14) hT rfl) ?_
  refine Eq.trans (x2 (ls' := [(2, ((a0 : Nat) : Int)), (0, a1), (0, a2), (0, a3), (0, a4), (0, ((d.m ((((a0 + 1) + 8) + (1 + zix 0))) (zix a2)) * (d.m ((((a0 + 1) + 8) + (1 + zix 1))) (zix a2))))]) (h := 15) hT rfl (Nat.le_of_ble_eq_true rfl) rfl) ?_
  refine Eq.trans (x1 (h := 16) hT rfl rfl (by decide)) ?_
  refine Eq.trans (x16_4 (h := 17) hT rfl) ?_
  refine xit (fun _ => ?_) (fun _ => ?_)
  · refine Eq.trans (x1 (h := 20) hT rfl rfl (by decide)) ?_
    refine Eq.trans (x1 (h := 21) hT rfl rfl (by decide)) ?_
    refine Eq.trans (x1 (h := 22) hT rfl rfl (by decide)) ?_
    refine Eq.trans (x1 (h := 23) hT rfl rfl (by decide)) ?_
    refine Eq.trans (x1 (h := 24) hT rfl rfl (by decide)) ?_
    refine Eq.trans (x31 (r := a0) (cl := 9) (as := [(0, a1), (0, a2), (0, a3), (0, a4)]) (st' := []) (h := 25) hT rfl sm_33 rfl ha0) ?_
    refine xbd (fun q5 => ?_)
    rw [rv_33]
    change zB P 116 26 [(2, ((a0 : Nat) : Int)), (0, a1), (0, a2), (0, a3), (0, a4), (0, ((d.m ((((a0 + 1) + 8) + (1 + zix 0))) (zix a2)) * (d.m ((((a0 + 1) + 8) + (1 + zix 1))) (zix a2))))] [(0, q5.1)] q5.2 = _
    refine Eq.trans (x0 (h := 26) hT rfl) ?_
    refine Eq.trans (x5_2 (h := 27) hT rfl) ?_
    refine Eq.trans (x1 (h := 28) hT rfl rfl (by decide)) ?_
    refine Eq.trans (x6 (h := 29) hT rfl) ?_
    refine xig (fun hz6 => ?_)
    refine Eq.trans (x0 (h := 30) hT rfl) ?_
    refine Eq.trans (x361 (h := 31) hT rfl rfl) ?_
    exact x201 (h := 32) hT rfl
  · refine Eq.trans (x0 (h := 18) hT rfl) ?_
    refine Eq.trans (x18 (h := 19) hT rfl) ?_
    exact x201 (h := 32) hT rfl
/-! WordLinks$State.partnersAhead(III)I -/
set_option maxRecDepth 100000 in
theorem e_117 {P : zP} {d : zD P} {a0 : Nat} {a1 : Int} {a2 : Int} {a3 : Int} (ha0 : zkd a0 = 9) : MM P 117 [(2, ((a0 : Nat) : Int)), (0, a1), (0, a2), (0, a3)] d = ((MM P 32 [(2, ((a0 : Nat) : Int)), (0, a1), (0, a2), (0, a3)] d).bind fun q1 => zB P 117 10 [(2, ((a0 : Nat) : Int)), (0, a1), (0, a2), (0, a3), (0, q1.1), (0, 0), (0, 0), (3, 0)] [] q1.2) := by
  have hT := cT_117
  refine Eq.trans (MM_def sm_117 (Nat.le_of_ble_eq_true rfl)) ?_
  change zB P 117 0 [(2, ((a0 : Nat) : Int)), (0, a1), (0, a2), (0, a3), (3, 0), (3, 0), (3, 0), (3, 0)] [] d = _
  refine Eq.trans (x1 (h := 0) hT rfl rfl (by decide)) ?_
  refine Eq.trans (x1 (h := 1) hT rfl rfl (by decide)) ?_
  refine Eq.trans (x1 (h := 2) hT rfl rfl (by decide)) ?_
  refine Eq.trans (x1 (h := 3) hT rfl rfl (by decide)) ?_
  refine Eq.trans (x31 (r := a0) (cl := 9) (as := [(0, a1), (0, a2), (0, a3)]) (st' := []) (h := 4) hT rfl sm_32 rfl ha0) ?_
  refine xbd (fun q1 => ?_)
  rw [rv_32]
  change zB P 117 5 [(2, ((a0 : Nat) : Int)), (0, a1), (0, a2), (0, a3), (3, 0), (3, 0), (3, 0), (3, 0)] [(0, q1.1)] q1.2 = _
  refine Eq.trans (x2 (ls' := [(2, ((a0 : Nat) : Int)), (0, a1), (0, a2), (0, a3), (0, q1.1), (3, 0), (3, 0), (3, 0)]) (h := 5) hT rfl (Nat.le_of_ble_eq_true rfl) rfl) ?_
  refine Eq.trans (x0 (h := 6) hT rfl) ?_
  refine Eq.trans (x2 (ls' := [(2, ((a0 : Nat) : Int)), (0, a1), (0, a2), (0, a3), (0, q1.1), (0, 0), (3, 0), (3, 0)]) (h := 7) hT rfl (Nat.le_of_ble_eq_true rfl) rfl) ?_
  refine Eq.trans (x0 (h := 8) hT rfl) ?_
  refine Eq.trans (x2 (ls' := [(2, ((a0 : Nat) : Int)), (0, a1), (0, a2), (0, a3), (0, q1.1), (0, 0), (0, 0), (3, 0)]) (h := 9) hT rfl (Nat.le_of_ble_eq_true rfl) rfl) ?_
  exact rfl
set_option maxRecDepth 100000 in
theorem q_117_10 {P : zP} {d : zD P} {a0 : Nat} {a1 : Int} {a2 : Int} {a3 : Int} {a4 : Int} {a5 : Int} {a6 : Int} {g7 : zV} (ha0 : zkd a0 = 9) : zB P 117 10 [(2, ((a0 : Nat) : Int)), (0, a1), (0, a2), (0, a3), (0, a4), (0, a5), (0, a6), g7] [] d = (if zin ((1 - a1)) 2 then (if wr ((d.m (((a0 + 1) + 1)) (zix ((1 - a1))))) ≤ wr a6 then some (a5, d) else ((MM P 32 [(2, ((a0 : Nat) : Int)), (0, a1), (0, a2), (0, a6)] d).bind fun q3 => ((MM P 1 [(2, (((a0 + 1) : Nat) : Int)), (0, a1), (0, a2), (0, a6)] q3.2).bind fun q4 => (if wr q4.1 = 0 then zB P 117 10 [(2, ((a0 : Nat) : Int)), (0, a1), (0, a2), (0, a3), (0, a4), (0, a5), (0, (a6 + 1)), (0, q3.1)] [] q4.2 else (if wr a4 < wr q3.1 then zB P 117 10 [(2, ((a0 : Nat) : Int)), (0, a1), (0, a2), (0, a3), (0, a4), (0, (a5 + 1)), (0, (a6 + 1)), (0, q3.1)] [] q4.2 else (if wr q3.1 ≠ wr a4 then zB P 117 10 [(2, ((a0 : Nat) : Int)), (0, a1), (0, a2), (0, a3), (0, a4), (0, a5), (0, (a6 + 1)), (0, q3.1)] [] q4.2 else (if wr a3 ≤ wr a6 then zB P 117 10 [(2, ((a0 : Nat) : Int)), (0, a1), (0, a2), (0, a3), (0, a4), (0, a5), (0, (a6 + 1)), (0, q3.1)] [] q4.2 else zB P 117 10 [(2, ((a0 : Nat) : Int)), (0, a1), (0, a2), (0, a3), (0, a4), (0, (a5 + 1)), (0, (a6 + 1)), (0, q3.1)] [] q4.2))))))) else none) := by
  have hT := cT_117
  refine Eq.trans (x1 (h := 10) hT rfl rfl (by decide)) ?_
  refine Eq.trans (x1 (h := 11) hT rfl rfl (by decide)) ?_
  refine Eq.trans (x21r (r := a0) (cl := 9) (o := 1) (h := 12) hT rfl ha0 (by decide) rfl) ?_
  refine Eq.trans (x21r (r := (a0 + 1)) (cl := 0) (o := 1) (h := 13) hT rfl (kd_9_0 ha0) (by decide) rfl) ?_
  refine Eq.trans (x0 (h := 14) hT rfl) ?_
  refine Eq.trans (x1 (h := 15) hT rfl rfl (by decide)) ?_
  refine Eq.trans (x5_1 (h := 16) hT rfl) ?_
  refine Eq.trans (x24 (r := ((a0 + 1) + 1)) (n := 2) (h := 17) hT rfl (Or.inl (kd_0_0 (kd_9_0 ha0))) (ln_0_0 (kd_9_0 ha0))) ?_
  refine xig (fun hz2 => ?_)
  refine Eq.trans (x17_3 (h := 18) hT rfl) ?_
  refine xit (fun _ => ?_) (fun _ => ?_)
  · refine Eq.trans (x1 (h := 44) hT rfl rfl (by decide)) ?_
    exact x201 (h := 45) hT rfl
  · refine Eq.trans (x1 (h := 19) hT rfl rfl (by decide)) ?_
    refine Eq.trans (x1 (h := 20) hT rfl rfl (by decide)) ?_
    refine Eq.trans (x1 (h := 21) hT rfl rfl (by decide)) ?_
    refine Eq.trans (x1 (h := 22) hT rfl rfl (by decide)) ?_
    refine Eq.trans (x31 (r := a0) (cl := 9) (as := [(0, a1), (0, a2), (0, a6)]) (st' := []) (h := 23) hT rfl sm_32 rfl ha0) ?_
    refine xbd (fun q3 => ?_)
    rw [rv_32]
    change zB P 117 24 [(2, ((a0 : Nat) : Int)), (0, a1), (0, a2), (0, a3), (0, a4), (0, a5), (0, a6), g7] [(0, q3.1)] q3.2 = _
    refine Eq.trans (x2 (ls' := [(2, ((a0 : Nat) : Int)), (0, a1), (0, a2), (0, a3), (0, a4), (0, a5), (0, a6), (0, q3.1)]) (h := 24) hT rfl (Nat.le_of_ble_eq_true rfl) rfl) ?_
    refine Eq.trans (x1 (h := 25) hT rfl rfl (by decide)) ?_
    refine Eq.trans (x21r (r := a0) (cl := 9) (o := 1) (h := 26) hT rfl ha0 (by decide) rfl) ?_
    refine Eq.trans (x1 (h := 27) hT rfl rfl (by decide)) ?_
    refine Eq.trans (x1 (h := 28) hT rfl rfl (by decide)) ?_
    refine Eq.trans (x1 (h := 29) hT rfl rfl (by decide)) ?_
    refine Eq.trans (x31 (r := (a0 + 1)) (cl := 0) (as := [(0, a1), (0, a2), (0, a6)]) (st' := []) (h := 30) hT rfl sm_1 rfl (kd_9_0 ha0)) ?_
    refine xbd (fun q4 => ?_)
    rw [rv_1]
    change zB P 117 31 [(2, ((a0 : Nat) : Int)), (0, a1), (0, a2), (0, a3), (0, a4), (0, a5), (0, a6), (0, q3.1)] [(0, q4.1)] q4.2 = _
    refine Eq.trans (x16_0 (h := 31) hT rfl) ?_
    refine xit (fun _ => ?_) (fun _ => ?_)
    · refine Eq.trans (x4 (ls' := [(2, ((a0 : Nat) : Int)), (0, a1), (0, a2), (0, a3), (0, a4), (0, a5), (0, (a6 + 1)), (0, q3.1)]) (h := 42) hT rfl rfl rfl) ?_
      refine Eq.trans (x18 (h := 43) hT rfl) ?_
      exact rfl
    · refine Eq.trans (x1 (h := 32) hT rfl rfl (by decide)) ?_
      refine Eq.trans (x1 (h := 33) hT rfl rfl (by decide)) ?_
      refine Eq.trans (x17_4 (h := 34) hT rfl) ?_
      refine xit (fun _ => ?_) (fun _ => ?_)
      · refine Eq.trans (x4 (ls' := [(2, ((a0 : Nat) : Int)), (0, a1), (0, a2), (0, a3), (0, a4), (0, (a5 + 1)), (0, a6), (0, q3.1)]) (h := 41) hT rfl rfl rfl) ?_
        refine Eq.trans (x4 (ls' := [(2, ((a0 : Nat) : Int)), (0, a1), (0, a2), (0, a3), (0, a4), (0, (a5 + 1)), (0, (a6 + 1)), (0, q3.1)]) (h := 42) hT rfl rfl rfl) ?_
        refine Eq.trans (x18 (h := 43) hT rfl) ?_
        exact rfl
      · refine Eq.trans (x1 (h := 35) hT rfl rfl (by decide)) ?_
        refine Eq.trans (x1 (h := 36) hT rfl rfl (by decide)) ?_
        refine Eq.trans (x17_1 (h := 37) hT rfl) ?_
        refine xit (fun _ => ?_) (fun _ => ?_)
        · refine Eq.trans (x4 (ls' := [(2, ((a0 : Nat) : Int)), (0, a1), (0, a2), (0, a3), (0, a4), (0, a5), (0, (a6 + 1)), (0, q3.1)]) (h := 42) hT rfl rfl rfl) ?_
          refine Eq.trans (x18 (h := 43) hT rfl) ?_
          exact rfl
        · refine Eq.trans (x1 (h := 38) hT rfl rfl (by decide)) ?_
          refine Eq.trans (x1 (h := 39) hT rfl rfl (by decide)) ?_
          refine Eq.trans (x17_3 (h := 40) hT rfl) ?_
          refine xit (fun _ => ?_) (fun _ => ?_)
          · refine Eq.trans (x4 (ls' := [(2, ((a0 : Nat) : Int)), (0, a1), (0, a2), (0, a3), (0, a4), (0, a5), (0, (a6 + 1)), (0, q3.1)]) (h := 42) hT rfl rfl rfl) ?_
            refine Eq.trans (x18 (h := 43) hT rfl) ?_
            exact rfl
          · refine Eq.trans (x4 (ls' := [(2, ((a0 : Nat) : Int)), (0, a1), (0, a2), (0, a3), (0, a4), (0, (a5 + 1)), (0, a6), (0, q3.1)]) (h := 41) hT rfl rfl rfl) ?_
            refine Eq.trans (x4 (ls' := [(2, ((a0 : Nat) : Int)), (0, a1), (0, a2), (0, a3), (0, a4), (0, (a5 + 1)), (0, (a6 + 1)), (0, q3.1)]) (h := 42) hT rfl rfl rfl) ?_
            refine Eq.trans (x18 (h := 43) hT rfl) ?_
            exact rfl
/-! WordLinks$State.placeShare(IIII)I -/
set_option maxRecDepth 100000 in
theorem e_118 {P : zP} {d : zD P} {a0 : Nat} {a1 : Int} {a2 : Int} {a3 : Int} {a4 : Int} (ha0 : zkd a0 = 9) : MM P 118 [(2, ((a0 : Nat) : Int)), (0, a1), (0, a2), (0, a3), (0, a4)] d = ((MM P 5 [(2, (((a0 + 1) : Nat) : Int)), (0, a1), (0, a2), (0, a3)] d).bind fun q1 => ((MM P 5 [(2, (((a0 + 1) : Nat) : Int)), (0, (1 - a1)), (0, a2), (0, a4)] q1.2).bind fun q2 => ((MM P 32 [(2, ((a0 : Nat) : Int)), (0, a1), (0, q1.1), (0, q2.1)] q2.2).bind fun q3 => some (q3.1, q3.2)))) := by
  have hT := cT_118
  refine Eq.trans (MM_def sm_118 (Nat.le_of_ble_eq_true rfl)) ?_
  change zB P 118 0 [(2, ((a0 : Nat) : Int)), (0, a1), (0, a2), (0, a3), (0, a4)] [] d = _
  refine Eq.trans (x1 (h := 0) hT rfl rfl (by decide)) ?_
  refine Eq.trans (x1 (h := 1) hT rfl rfl (by decide)) ?_
  refine Eq.trans (x1 (h := 2) hT rfl rfl (by decide)) ?_
  refine Eq.trans (x21r (r := a0) (cl := 9) (o := 1) (h := 3) hT rfl ha0 (by decide) rfl) ?_
  refine Eq.trans (x1 (h := 4) hT rfl rfl (by decide)) ?_
  refine Eq.trans (x1 (h := 5) hT rfl rfl (by decide)) ?_
  refine Eq.trans (x1 (h := 6) hT rfl rfl (by decide)) ?_
  refine Eq.trans (x31 (r := (a0 + 1)) (cl := 0) (as := [(0, a1), (0, a2), (0, a3)]) (st' := [(0, a1), (2, ((a0 : Nat) : Int))]) (h := 7) hT rfl sm_5 rfl (kd_9_0 ha0)) ?_
  refine xbd (fun q1 => ?_)
  rw [rv_5]
  change zB P 118 8 [(2, ((a0 : Nat) : Int)), (0, a1), (0, a2), (0, a3), (0, a4)] [(0, q1.1), (0, a1), (2, ((a0 : Nat) : Int))] q1.2 = _
  refine Eq.trans (x1 (h := 8) hT rfl rfl (by decide)) ?_
  refine Eq.trans (x21r (r := a0) (cl := 9) (o := 1) (h := 9) hT rfl ha0 (by decide) rfl) ?_
  refine Eq.trans (x0 (h := 10) hT rfl) ?_
  refine Eq.trans (x1 (h := 11) hT rfl rfl (by decide)) ?_
  refine Eq.trans (x5_1 (h := 12) hT rfl) ?_
  refine Eq.trans (x1 (h := 13) hT rfl rfl (by decide)) ?_
  refine Eq.trans (x1 (h := 14) hT rfl rfl (by decide)) ?_
  refine Eq.trans (x31 (r := (a0 + 1)) (cl := 0) (as := [(0, (1 - a1)), (0, a2), (0, a4)]) (st' := [(0, q1.1), (0, a1), (2, ((a0 : Nat) : Int))]) (h := 15) hT rfl sm_5 rfl (kd_9_0 ha0)) ?_
  refine xbd (fun q2 => ?_)
  rw [rv_5]
  change zB P 118 16 [(2, ((a0 : Nat) : Int)), (0, a1), (0, a2), (0, a3), (0, a4)] [(0, q2.1), (0, q1.1), (0, a1), (2, ((a0 : Nat) : Int))] q2.2 = _
  refine Eq.trans (x31 (r := a0) (cl := 9) (as := [(0, a1), (0, q1.1), (0, q2.1)]) (st' := []) (h := 16) hT rfl sm_32 rfl ha0) ?_
  refine xbd (fun q3 => ?_)
  rw [rv_32]
  change zB P 118 17 [(2, ((a0 : Nat) : Int)), (0, a1), (0, a2), (0, a3), (0, a4)] [(0, q3.1)] q3.2 = _
  exact x201 (h := 17) hT rfl
/-! WordLinks$State.takeShares(LWordLinks$State;)V -/
set_option maxRecDepth 100000 in
theorem e_119 {P : zP} {d : zD P} {a0 : Nat} {a1 : Nat} (ha0 : zkd a0 = 9) (ha1 : zkd a1 = 9) : MM P 119 [(2, ((a0 : Nat) : Int)), (2, ((a1 : Nat) : Int))] d = zB P 119 2 [(2, ((a0 : Nat) : Int)), (2, ((a1 : Nat) : Int)), (0, 0)] [] d := by
  have hT := cT_119
  refine Eq.trans (MM_def sm_119 (Nat.le_of_ble_eq_true rfl)) ?_
  change zB P 119 0 [(2, ((a0 : Nat) : Int)), (2, ((a1 : Nat) : Int)), (3, 0)] [] d = _
  refine Eq.trans (x0 (h := 0) hT rfl) ?_
  refine Eq.trans (x2 (ls' := [(2, ((a0 : Nat) : Int)), (2, ((a1 : Nat) : Int)), (0, 0)]) (h := 1) hT rfl (Nat.le_of_ble_eq_true rfl) rfl) ?_
  exact rfl
set_option maxRecDepth 100000 in
theorem q_119_2 {P : zP} {d : zD P} {a0 : Nat} {a1 : Nat} {a2 : Int} (ha0 : zkd a0 = 9) (ha1 : zkd a1 = 9) : zB P 119 2 [(2, ((a0 : Nat) : Int)), (2, ((a1 : Nat) : Int)), (0, a2)] [] d = (if wr 2 ≤ wr a2 then some (0, d) else (if zin a2 2 then (if zin a2 2 then (if 0 ≤ wr 0 ∧ 0 ≤ wr 0 ∧ 0 ≤ wr 1600 ∧ zix 0 + zix 1600 ≤ 1600 ∧ zix 0 + zix 1600 ≤ 1600 then (if zin a2 2 then (if zin a2 2 then (if 0 ≤ wr 0 ∧ 0 ≤ wr 0 ∧ 0 ≤ wr 8 ∧ zix 0 + zix 8 ≤ 8 ∧ zix 0 + zix 8 ≤ 8 then zB P 119 2 [(2, ((a0 : Nat) : Int)), (2, ((a1 : Nat) : Int)), (0, (a2 + 1))] [] ((((d.cp (((a1 + 22) + (1 + zix a2))) (((a0 + 22) + (1 + zix a2))) (zix 0) (zix 0) (zix 1600))).cp (((a1 + 25) + (1 + zix a2))) (((a0 + 25) + (1 + zix a2))) (zix 0) (zix 0) (zix 8))) else none) else none) else none) else none) else none) else none)) := by
  have hT := cT_119
  refine Eq.trans (x1 (h := 2) hT rfl rfl (by decide)) ?_
  refine Eq.trans (x0 (h := 3) hT rfl) ?_
  refine Eq.trans (x17_3 (h := 4) hT rfl) ?_
  refine xit (fun _ => ?_) (fun _ => ?_)
  · exact x20 (h := 31) hT rfl
  · refine Eq.trans (x1 (h := 5) hT rfl rfl (by decide)) ?_
    refine Eq.trans (x21r (r := a1) (cl := 9) (o := 22) (h := 6) hT rfl ha1 (by decide) rfl) ?_
    refine Eq.trans (x1 (h := 7) hT rfl rfl (by decide)) ?_
    refine Eq.trans (x24r (r := (a1 + 22)) (n := 2) (h := 8) hT rfl (kd_9_3 ha1) (ln_9_3 ha1) (by decide)) ?_
    refine xig (fun hz1 => ?_)
    refine Eq.trans (x0 (h := 9) hT rfl) ?_
    refine Eq.trans (x1 (h := 10) hT rfl rfl (by decide)) ?_
    refine Eq.trans (x21r (r := a0) (cl := 9) (o := 22) (h := 11) hT rfl ha0 (by decide) rfl) ?_
    refine Eq.trans (x1 (h := 12) hT rfl rfl (by decide)) ?_
    refine Eq.trans (x24r (r := (a0 + 22)) (n := 2) (h := 13) hT rfl (kd_9_3 ha0) (ln_9_3 ha0) (by decide)) ?_
    refine xig (fun hz2 => ?_)
    refine Eq.trans (x0 (h := 14) hT rfl) ?_
    refine Eq.trans (x0 (h := 15) hT rfl) ?_
    refine Eq.trans (x32 (r1 := ((a1 + 22) + (1 + zix a2))) (r2 := ((a0 + 22) + (1 + zix a2))) (n1 := 1600) (n2 := 1600) (h := 16) hT rfl (kq_9_3 ha1 (zix_lt hz1)) (kq_9_3 ha0 (zix_lt hz2)) (by decide) (lq_9_3 ha1 (zix_lt hz1)) (lq_9_3 ha0 (zix_lt hz2)) rfl) ?_
    refine xig (fun hz3 => ?_)
    refine Eq.trans (x1 (h := 17) hT rfl rfl (by decide)) ?_
    refine Eq.trans (x21r (r := a1) (cl := 9) (o := 25) (h := 18) hT rfl ha1 (by decide) rfl) ?_
    refine Eq.trans (x1 (h := 19) hT rfl rfl (by decide)) ?_
    refine Eq.trans (x24r (r := (a1 + 25)) (n := 2) (h := 20) hT rfl (kd_9_4 ha1) (ln_9_4 ha1) (by decide)) ?_
    refine xig (fun hz4 => ?_)
    refine Eq.trans (x0 (h := 21) hT rfl) ?_
    refine Eq.trans (x1 (h := 22) hT rfl rfl (by decide)) ?_
    refine Eq.trans (x21r (r := a0) (cl := 9) (o := 25) (h := 23) hT rfl ha0 (by decide) rfl) ?_
    refine Eq.trans (x1 (h := 24) hT rfl rfl (by decide)) ?_
    refine Eq.trans (x24r (r := (a0 + 25)) (n := 2) (h := 25) hT rfl (kd_9_4 ha0) (ln_9_4 ha0) (by decide)) ?_
    refine xig (fun hz5 => ?_)
    refine Eq.trans (x0 (h := 26) hT rfl) ?_
    refine Eq.trans (x0 (h := 27) hT rfl) ?_
    refine Eq.trans (x32 (r1 := ((a1 + 25) + (1 + zix a2))) (r2 := ((a0 + 25) + (1 + zix a2))) (n1 := 8) (n2 := 8) (h := 28) hT rfl (kq_9_4 ha1 (zix_lt hz4)) (kq_9_4 ha0 (zix_lt hz5)) (by decide) (lq_9_4 ha1 (zix_lt hz4)) (lq_9_4 ha0 (zix_lt hz5)) rfl) ?_
    refine xig (fun hz6 => ?_)
    refine Eq.trans (x4 (ls' := [(2, ((a0 : Nat) : Int)), (2, ((a1 : Nat) : Int)), (0, (a2 + 1))]) (h := 29) hT rfl rfl rfl) ?_
    refine Eq.trans (x18 (h := 30) hT rfl) ?_
    exact rfl
