/-! The methods from 0 on, block by block. -/
/-! WordLinks$Corpus.allPlaces(I)I -/
set_option maxRecDepth 100000 in
theorem e_0 {P : zP} {d : zD P} {a0 : Nat} {a1 : Int} (ha0 : zkd a0 = 0) : MM P 0 [(2, ((a0 : Nat) : Int)), (0, a1)] d = zB P 0 4 [(2, ((a0 : Nat) : Int)), (0, a1), (0, 0), (0, 0)] [] d := by
  have hT := cT_0
  refine Eq.trans (MM_def sm_0 (Nat.le_of_ble_eq_true rfl)) ?_
  change zB P 0 0 [(2, ((a0 : Nat) : Int)), (0, a1), (3, 0), (3, 0)] [] d = _
  refine Eq.trans (x0 (h := 0) hT rfl) ?_
  refine Eq.trans (x2 (ls' := [(2, ((a0 : Nat) : Int)), (0, a1), (0, 0), (3, 0)]) (h := 1) hT rfl (Nat.le_of_ble_eq_true rfl) rfl) ?_
  refine Eq.trans (x0 (h := 2) hT rfl) ?_
  refine Eq.trans (x2 (ls' := [(2, ((a0 : Nat) : Int)), (0, a1), (0, 0), (0, 0)]) (h := 3) hT rfl (Nat.le_of_ble_eq_true rfl) rfl) ?_
  exact rfl
set_option maxRecDepth 100000 in
theorem q_0_4 {P : zP} {d : zD P} {a0 : Nat} {a1 : Int} {a2 : Int} {a3 : Int} (ha0 : zkd a0 = 0) : zB P 0 4 [(2, ((a0 : Nat) : Int)), (0, a1), (0, a2), (0, a3)] [] d = (if wr ((d.m a0 6)) ≤ wr a3 then some (a2, d) else (if zin a1 2 then (if zin a3 24 then zB P 0 4 [(2, ((a0 : Nat) : Int)), (0, a1), (0, (a2 + (d.m (((a0 + 8) + (1 + zix a1))) (zix a3)))), (0, (a3 + 1))] [] d else none) else none)) := by
  have hT := cT_0
  refine Eq.trans (x1 (h := 4) hT rfl rfl (by decide)) ?_
  refine Eq.trans (x1 (h := 5) hT rfl rfl (by decide)) ?_
  refine Eq.trans (x21 (r := a0) (cl := 0) (h := 6) hT rfl ha0) ?_
  refine Eq.trans (x17_3 (h := 7) hT rfl) ?_
  refine xit (fun _ => ?_) (fun _ => ?_)
  · refine Eq.trans (x1 (h := 19) hT rfl rfl (by decide)) ?_
    exact x201 (h := 20) hT rfl
  · refine Eq.trans (x1 (h := 8) hT rfl rfl (by decide)) ?_
    refine Eq.trans (x1 (h := 9) hT rfl rfl (by decide)) ?_
    refine Eq.trans (x21r (r := a0) (cl := 0) (o := 8) (h := 10) hT rfl ha0 (by decide) rfl) ?_
    refine Eq.trans (x1 (h := 11) hT rfl rfl (by decide)) ?_
    refine Eq.trans (x24r (r := (a0 + 8)) (n := 2) (h := 12) hT rfl (kd_0_3 ha0) (ln_0_3 ha0) (by decide)) ?_
    refine xig (fun hz1 => ?_)
    refine Eq.trans (x1 (h := 13) hT rfl rfl (by decide)) ?_
    refine Eq.trans (x24 (r := ((a0 + 8) + (1 + zix a1))) (n := 24) (h := 14) hT rfl (Or.inl (kq_0_3 ha0 (zix_lt hz1))) (lq_0_3 ha0 (zix_lt hz1))) ?_
    refine xig (fun hz2 => ?_)
    refine Eq.trans (x5_0 (h := 15) hT rfl) ?_
    refine Eq.trans (x2 (ls' := [(2, ((a0 : Nat) : Int)), (0, a1), (0, (a2 + (d.m (((a0 + 8) + (1 + zix a1))) (zix a3)))), (0, a3)]) (h := 16) hT rfl (Nat.le_of_ble_eq_true rfl) rfl) ?_
    refine Eq.trans (x4 (ls' := [(2, ((a0 : Nat) : Int)), (0, a1), (0, (a2 + (d.m (((a0 + 8) + (1 + zix a1))) (zix a3)))), (0, (a3 + 1))]) (h := 17) hT rfl rfl rfl) ?_
    refine Eq.trans (x18 (h := 18) hT rfl) ?_
    exact rfl
/-! WordLinks$Corpus.arePartners(III)Z -/
set_option maxRecDepth 100000 in
theorem e_1 {P : zP} {d : zD P} {a0 : Nat} {a1 : Int} {a2 : Int} {a3 : Int} (ha0 : zkd a0 = 0) : MM P 1 [(2, ((a0 : Nat) : Int)), (0, a1), (0, a2), (0, a3)] d = (if wr a2 < 0 then some (0, d) else (if wr 40 ≤ wr a2 then some (0, d) else (if zin a1 2 then (if zin a2 40 then (if wrl ((zlbin 3 ((zlsh 1 ((d.m (((a0 + 5) + (1 + zix a1))) (zix a2))) a3)) 1)) = wrl 0 then some (0, d) else some (1, d)) else none) else none))) := by
  have hT := cT_1
  refine Eq.trans (MM_def sm_1 (Nat.le_of_ble_eq_true rfl)) ?_
  change zB P 1 0 [(2, ((a0 : Nat) : Int)), (0, a1), (0, a2), (0, a3)] [] d = _
  refine Eq.trans (x1 (h := 0) hT rfl rfl (by decide)) ?_
  refine Eq.trans (x16_2 (h := 1) hT rfl) ?_
  refine xit (fun _ => ?_) (fun _ => ?_)
  · refine Eq.trans (x0 (h := 20) hT rfl) ?_
    exact x203c (h := 21) hT rfl (by decide)
  · refine Eq.trans (x1 (h := 2) hT rfl rfl (by decide)) ?_
    refine Eq.trans (x0 (h := 3) hT rfl) ?_
    refine Eq.trans (x17_3 (h := 4) hT rfl) ?_
    refine xit (fun _ => ?_) (fun _ => ?_)
    · refine Eq.trans (x0 (h := 20) hT rfl) ?_
      exact x203c (h := 21) hT rfl (by decide)
    · refine Eq.trans (x1 (h := 5) hT rfl rfl (by decide)) ?_
      refine Eq.trans (x21r (r := a0) (cl := 0) (o := 5) (h := 6) hT rfl ha0 (by decide) rfl) ?_
      refine Eq.trans (x1 (h := 7) hT rfl rfl (by decide)) ?_
      refine Eq.trans (x24r (r := (a0 + 5)) (n := 2) (h := 8) hT rfl (kd_0_2 ha0) (ln_0_2 ha0) (by decide)) ?_
      refine xig (fun hz1 => ?_)
      refine Eq.trans (x1 (h := 9) hT rfl rfl (by decide)) ?_
      refine Eq.trans (x24 (r := ((a0 + 5) + (1 + zix a1))) (n := 40) (h := 10) hT rfl (Or.inl (kq_0_2 ha0 (zix_lt hz1))) (lq_0_2 ha0 (zix_lt hz1))) ?_
      refine xig (fun hz2 => ?_)
      refine Eq.trans (x1 (h := 11) hT rfl rfl (by decide)) ?_
      refine Eq.trans (x10 (h := 12) hT rfl) ?_
      refine Eq.trans (x0 (h := 13) hT rfl) ?_
      refine Eq.trans (x8n (h := 14) hT rfl) ?_
      refine Eq.trans (x0 (h := 15) hT rfl) ?_
      refine Eq.trans (x116_0 (h := 16) hT rfl rfl) ?_
      refine xit (fun _ => ?_) (fun _ => ?_)
      · refine Eq.trans (x0 (h := 20) hT rfl) ?_
        exact x203c (h := 21) hT rfl (by decide)
      · refine Eq.trans (x0 (h := 18) hT rfl) ?_
        refine Eq.trans (x18 (h := 19) hT rfl) ?_
        exact x203c (h := 21) hT rfl (by decide)
/-! WordLinks$Corpus.dictionaryPlace(II)I -/
set_option maxRecDepth 100000 in
theorem e_2 {P : zP} {d : zD P} {a0 : Nat} {a1 : Int} {a2 : Int} (ha0 : zkd a0 = 0) : MM P 2 [(2, ((a0 : Nat) : Int)), (0, a1), (0, a2)] d = zB P 2 4 [(2, ((a0 : Nat) : Int)), (0, a1), (0, a2), (0, 0), (0, 0)] [] d := by
  have hT := cT_2
  refine Eq.trans (MM_def sm_2 (Nat.le_of_ble_eq_true rfl)) ?_
  change zB P 2 0 [(2, ((a0 : Nat) : Int)), (0, a1), (0, a2), (3, 0), (3, 0)] [] d = _
  refine Eq.trans (x0 (h := 0) hT rfl) ?_
  refine Eq.trans (x2 (ls' := [(2, ((a0 : Nat) : Int)), (0, a1), (0, a2), (0, 0), (3, 0)]) (h := 1) hT rfl (Nat.le_of_ble_eq_true rfl) rfl) ?_
  refine Eq.trans (x0 (h := 2) hT rfl) ?_
  refine Eq.trans (x2 (ls' := [(2, ((a0 : Nat) : Int)), (0, a1), (0, a2), (0, 0), (0, 0)]) (h := 3) hT rfl (Nat.le_of_ble_eq_true rfl) rfl) ?_
  exact rfl
set_option maxRecDepth 100000 in
theorem q_2_4 {P : zP} {d : zD P} {a0 : Nat} {a1 : Int} {a2 : Int} {a3 : Int} {a4 : Int} (ha0 : zkd a0 = 0) : zB P 2 4 [(2, ((a0 : Nat) : Int)), (0, a1), (0, a2), (0, a3), (0, a4)] [] d = (if zin a1 2 then (if wr ((d.m ((a0 + 1)) (zix a1))) ≤ wr a4 then some (a3, d) else (if zin a1 2 then (if zin a4 40 then (if zin a1 2 then (if zin a2 40 then (if wrl ((d.m (((a0 + 2) + (1 + zix a1))) (zix a2))) ≤ wrl ((d.m (((a0 + 2) + (1 + zix a1))) (zix a4))) then zB P 2 4 [(2, ((a0 : Nat) : Int)), (0, a1), (0, a2), (0, a3), (0, (a4 + 1))] [] d else zB P 2 4 [(2, ((a0 : Nat) : Int)), (0, a1), (0, a2), (0, (a3 + 1)), (0, (a4 + 1))] [] d) else none) else none) else none) else none)) else none) := by
  have hT := cT_2
  refine Eq.trans (x1 (h := 4) hT rfl rfl (by decide)) ?_
  refine Eq.trans (x1 (h := 5) hT rfl rfl (by decide)) ?_
  refine Eq.trans (x21r (r := a0) (cl := 0) (o := 1) (h := 6) hT rfl ha0 (by decide) rfl) ?_
  refine Eq.trans (x1 (h := 7) hT rfl rfl (by decide)) ?_
  refine Eq.trans (x24 (r := (a0 + 1)) (n := 2) (h := 8) hT rfl (Or.inl (kd_0_0 ha0)) (ln_0_0 ha0)) ?_
  refine xig (fun hz1 => ?_)
  refine Eq.trans (x17_3 (h := 9) hT rfl) ?_
  refine xit (fun _ => ?_) (fun _ => ?_)
  · refine Eq.trans (x1 (h := 27) hT rfl rfl (by decide)) ?_
    exact x201 (h := 28) hT rfl
  · refine Eq.trans (x1 (h := 10) hT rfl rfl (by decide)) ?_
    refine Eq.trans (x21r (r := a0) (cl := 0) (o := 2) (h := 11) hT rfl ha0 (by decide) rfl) ?_
    refine Eq.trans (x1 (h := 12) hT rfl rfl (by decide)) ?_
    refine Eq.trans (x24r (r := (a0 + 2)) (n := 2) (h := 13) hT rfl (kd_0_1 ha0) (ln_0_1 ha0) (by decide)) ?_
    refine xig (fun hz2 => ?_)
    refine Eq.trans (x1 (h := 14) hT rfl rfl (by decide)) ?_
    refine Eq.trans (x24 (r := ((a0 + 2) + (1 + zix a1))) (n := 40) (h := 15) hT rfl (Or.inl (kq_0_1 ha0 (zix_lt hz2))) (lq_0_1 ha0 (zix_lt hz2))) ?_
    refine xig (fun hz3 => ?_)
    refine Eq.trans (x1 (h := 16) hT rfl rfl (by decide)) ?_
    refine Eq.trans (x21r (r := a0) (cl := 0) (o := 2) (h := 17) hT rfl ha0 (by decide) rfl) ?_
    refine Eq.trans (x1 (h := 18) hT rfl rfl (by decide)) ?_
    refine Eq.trans (x24r (r := (a0 + 2)) (n := 2) (h := 19) hT rfl (kd_0_1 ha0) (ln_0_1 ha0) (by decide)) ?_
    refine xig (fun hz4 => ?_)
    refine Eq.trans (x1 (h := 20) hT rfl rfl (by decide)) ?_
    refine Eq.trans (x24 (r := ((a0 + 2) + (1 + zix a1))) (n := 40) (h := 21) hT rfl (Or.inl (kq_0_1 ha0 (zix_lt hz4))) (lq_0_1 ha0 (zix_lt hz4))) ?_
    refine xig (fun hz5 => ?_)
    refine Eq.trans (x116_3 (h := 22) hT rfl rfl) ?_
    refine xit (fun _ => ?_) (fun _ => ?_)
    · refine Eq.trans (x4 (ls' := [(2, ((a0 : Nat) : Int)), (0, a1), (0, a2), (0, a3), (0, (a4 + 1))]) (h := 25) hT rfl rfl rfl) ?_
      refine Eq.trans (x18 (h := 26) hT rfl) ?_
      exact rfl
    · refine Eq.trans (x4 (ls' := [(2, ((a0 : Nat) : Int)), (0, a1), (0, a2), (0, (a3 + 1)), (0, a4)]) (h := 24) hT rfl rfl rfl) ?_
      refine Eq.trans (x4 (ls' := [(2, ((a0 : Nat) : Int)), (0, a1), (0, a2), (0, (a3 + 1)), (0, (a4 + 1))]) (h := 25) hT rfl rfl rfl) ?_
      refine Eq.trans (x18 (h := 26) hT rfl) ?_
      exact rfl
/-! WordLinks$Corpus.numberOf(IJI)I -/
set_option maxRecDepth 100000 in
theorem e_3 {P : zP} {d : zD P} {a0 : Nat} {a1 : Int} {a2 : Int} {a4 : Int} (ha0 : zkd a0 = 0) : MM P 3 [(2, ((a0 : Nat) : Int)), (0, a1), (1, a2), (0, a4)] d = zB P 3 2 [(2, ((a0 : Nat) : Int)), (0, a1), (1, a2), (3, 0), (0, a4), (0, 0)] [] d := by
  have hT := cT_3
  refine Eq.trans (MM_def sm_3 (Nat.le_of_ble_eq_true rfl)) ?_
  change zB P 3 0 [(2, ((a0 : Nat) : Int)), (0, a1), (1, a2), (3, 0), (0, a4), (3, 0)] [] d = _
  refine Eq.trans (x0 (h := 0) hT rfl) ?_
  refine Eq.trans (x2 (ls' := [(2, ((a0 : Nat) : Int)), (0, a1), (1, a2), (3, 0), (0, a4), (0, 0)]) (h := 1) hT rfl (Nat.le_of_ble_eq_true rfl) rfl) ?_
  exact rfl
set_option maxRecDepth 100000 in
theorem q_3_2 {P : zP} {d : zD P} {a0 : Nat} {a1 : Int} {a2 : Int} {g3 : zV} {a4 : Int} {a5 : Int} (ha0 : zkd a0 = 0) : zB P 3 2 [(2, ((a0 : Nat) : Int)), (0, a1), (1, a2), g3, (0, a4), (0, a5)] [] d = (if wr a4 ≤ wr a5 then some ((-1), d) else (if wr 40 ≤ wr a5 then some ((-1), d) else (if zin a1 2 then (if zin a5 40 then (if wrl ((d.m (((a0 + 2) + (1 + zix a1))) (zix a5))) ≠ wrl a2 then zB P 3 2 [(2, ((a0 : Nat) : Int)), (0, a1), (1, a2), g3, (0, a4), (0, (a5 + 1))] [] d else some (a5, d)) else none) else none))) := by
  have hT := cT_3
  refine Eq.trans (x1 (h := 2) hT rfl rfl (by decide)) ?_
  refine Eq.trans (x1 (h := 3) hT rfl rfl (by decide)) ?_
  refine Eq.trans (x17_3 (h := 4) hT rfl) ?_
  refine xit (fun _ => ?_) (fun _ => ?_)
  · refine Eq.trans (x0 (h := 21) hT rfl) ?_
    exact x201 (h := 22) hT rfl
  · refine Eq.trans (x1 (h := 5) hT rfl rfl (by decide)) ?_
    refine Eq.trans (x0 (h := 6) hT rfl) ?_
    refine Eq.trans (x17_3 (h := 7) hT rfl) ?_
    refine xit (fun _ => ?_) (fun _ => ?_)
    · refine Eq.trans (x0 (h := 21) hT rfl) ?_
      exact x201 (h := 22) hT rfl
    · refine Eq.trans (x1 (h := 8) hT rfl rfl (by decide)) ?_
      refine Eq.trans (x21r (r := a0) (cl := 0) (o := 2) (h := 9) hT rfl ha0 (by decide) rfl) ?_
      refine Eq.trans (x1 (h := 10) hT rfl rfl (by decide)) ?_
      refine Eq.trans (x24r (r := (a0 + 2)) (n := 2) (h := 11) hT rfl (kd_0_1 ha0) (ln_0_1 ha0) (by decide)) ?_
      refine xig (fun hz1 => ?_)
      refine Eq.trans (x1 (h := 12) hT rfl rfl (by decide)) ?_
      refine Eq.trans (x24 (r := ((a0 + 2) + (1 + zix a1))) (n := 40) (h := 13) hT rfl (Or.inl (kq_0_1 ha0 (zix_lt hz1))) (lq_0_1 ha0 (zix_lt hz1))) ?_
      refine xig (fun hz2 => ?_)
      refine Eq.trans (x1 (h := 14) hT rfl rfl (by decide)) ?_
      refine Eq.trans (x116_1 (h := 15) hT rfl rfl) ?_
      refine xit (fun _ => ?_) (fun _ => ?_)
      · refine Eq.trans (x4 (ls' := [(2, ((a0 : Nat) : Int)), (0, a1), (1, a2), g3, (0, a4), (0, (a5 + 1))]) (h := 19) hT rfl rfl rfl) ?_
        refine Eq.trans (x18 (h := 20) hT rfl) ?_
        exact rfl
      · refine Eq.trans (x1 (h := 17) hT rfl rfl (by decide)) ?_
        exact x201 (h := 18) hT rfl
/-! WordLinks$Corpus.setTold(IIIZ)Z -/
set_option maxRecDepth 100000 in
theorem e_4 {P : zP} {d : zD P} {a0 : Nat} {a1 : Int} {a2 : Int} {a3 : Int} {a4 : Int} (ha0 : zkd a0 = 0) : MM P 4 [(2, ((a0 : Nat) : Int)), (0, a1), (0, a2), (0, a3), (0, a4)] d = (if zin (((a1 * 6) + a2)) 144 then (if wr a4 = 0 then (if wr ((zbin 3 ((zbin 8 ((d.m ((a0 + 14)) (zix (((a1 * 6) + a2))))) a3)) 1)) ≠ wr 0 then (if zin (((a1 * 6) + a2)) 144 then (if zin (((a1 * 6) + a2)) 144 then some (1, (d.up ((a0 + 14)) (zix (((a1 * 6) + a2))) ((zbin 5 ((d.m ((a0 + 14)) (zix (((a1 * 6) + a2))))) ((zbin 6 1 a3)))))) else none) else none) else some (0, d)) else (if wr ((zbin 3 ((zbin 8 ((d.m ((a0 + 14)) (zix (((a1 * 6) + a2))))) a3)) 1)) ≠ wr 1 then (if zin (((a1 * 6) + a2)) 144 then (if zin (((a1 * 6) + a2)) 144 then some (1, (d.up ((a0 + 14)) (zix (((a1 * 6) + a2))) ((zbin 5 ((d.m ((a0 + 14)) (zix (((a1 * 6) + a2))))) ((zbin 6 1 a3)))))) else none) else none) else some (0, d))) else none) := by
  have hT := cT_4
  refine Eq.trans (MM_def sm_4 (Nat.le_of_ble_eq_true rfl)) ?_
  change zB P 4 0 [(2, ((a0 : Nat) : Int)), (0, a1), (0, a2), (0, a3), (0, a4), (3, 0)] [] d = _
  refine Eq.trans (x1 (h := 0) hT rfl rfl (by decide)) ?_
  refine Eq.trans (x0 (h := 1) hT rfl) ?_
  refine Eq.trans (x5_2 (h := 2) hT rfl) ?_
  refine Eq.trans (x1 (h := 3) hT rfl rfl (by decide)) ?_
  refine Eq.trans (x5_0 (h := 4) hT rfl) ?_
  refine Eq.trans (x2 (ls' := [(2, ((a0 : Nat) : Int)), (0, a1), (0, a2), (0, a3), (0, a4), (0, ((a1 * 6) + a2))]) (h := 5) hT rfl (Nat.le_of_ble_eq_true rfl) rfl) ?_
  refine Eq.trans (x1 (h := 6) hT rfl rfl (by decide)) ?_
  refine Eq.trans (x21r (r := a0) (cl := 0) (o := 14) (h := 7) hT rfl ha0 (by decide) rfl) ?_
  refine Eq.trans (x1 (h := 8) hT rfl rfl (by decide)) ?_
  refine Eq.trans (x24 (r := (a0 + 14)) (n := 144) (h := 9) hT rfl (Or.inl (kd_0_5 ha0)) (ln_0_5 ha0)) ?_
  refine xig (fun hz1 => ?_)
  refine Eq.trans (x1 (h := 10) hT rfl rfl (by decide)) ?_
  refine Eq.trans (x5n (h := 11) hT rfl) ?_
  refine Eq.trans (x0 (h := 12) hT rfl) ?_
  refine Eq.trans (x5n (h := 13) hT rfl) ?_
  refine Eq.trans (x1 (h := 14) hT rfl rfl (by decide)) ?_
  refine Eq.trans (x16_0 (h := 15) hT rfl) ?_
  refine xit (fun _ => ?_) (fun _ => ?_)
  · refine Eq.trans (x0 (h := 18) hT rfl) ?_
    refine Eq.trans (x17_1 (h := 19) hT rfl) ?_
    refine xit (fun _ => ?_) (fun _ => ?_)
    · refine Eq.trans (x1 (h := 22) hT rfl rfl (by decide)) ?_
      refine Eq.trans (x21r (r := a0) (cl := 0) (o := 14) (h := 23) hT rfl ha0 (by decide) rfl) ?_
      refine Eq.trans (x1 (h := 24) hT rfl rfl (by decide)) ?_
      refine Eq.trans (x14 (h := 25) hT rfl (by decide)) ?_
      refine Eq.trans (x24 (r := (a0 + 14)) (n := 144) (h := 26) hT rfl (Or.inl (kd_0_5 ha0)) (ln_0_5 ha0)) ?_
      refine xig (fun hz2 => ?_)
      refine Eq.trans (x0 (h := 27) hT rfl) ?_
      refine Eq.trans (x1 (h := 28) hT rfl rfl (by decide)) ?_
      refine Eq.trans (x5n (h := 29) hT rfl) ?_
      refine Eq.trans (x5n (h := 30) hT rfl) ?_
      refine Eq.trans (x25a (r := (a0 + 14)) (n := 144) (h := 31) hT rfl (kd_0_5 ha0) (ln_0_5 ha0) (by decide) rfl) ?_
      refine xig (fun hz3 => ?_)
      refine Eq.trans (x0 (h := 32) hT rfl) ?_
      exact x203c (h := 33) hT rfl (by decide)
    · refine Eq.trans (x0 (h := 20) hT rfl) ?_
      exact x203c (h := 21) hT rfl (by decide)
  · refine Eq.trans (x0 (h := 16) hT rfl) ?_
    refine Eq.trans (x18 (h := 17) hT rfl) ?_
    refine Eq.trans (x17_1 (h := 19) hT rfl) ?_
    refine xit (fun _ => ?_) (fun _ => ?_)
    · refine Eq.trans (x1 (h := 22) hT rfl rfl (by decide)) ?_
      refine Eq.trans (x21r (r := a0) (cl := 0) (o := 14) (h := 23) hT rfl ha0 (by decide) rfl) ?_
      refine Eq.trans (x1 (h := 24) hT rfl rfl (by decide)) ?_
      refine Eq.trans (x14 (h := 25) hT rfl (by decide)) ?_
      refine Eq.trans (x24 (r := (a0 + 14)) (n := 144) (h := 26) hT rfl (Or.inl (kd_0_5 ha0)) (ln_0_5 ha0)) ?_
      refine xig (fun hz4 => ?_)
      refine Eq.trans (x0 (h := 27) hT rfl) ?_
      refine Eq.trans (x1 (h := 28) hT rfl rfl (by decide)) ?_
      refine Eq.trans (x5n (h := 29) hT rfl) ?_
      refine Eq.trans (x5n (h := 30) hT rfl) ?_
      refine Eq.trans (x25a (r := (a0 + 14)) (n := 144) (h := 31) hT rfl (kd_0_5 ha0) (ln_0_5 ha0) (by decide) rfl) ?_
      refine xig (fun hz5 => ?_)
      refine Eq.trans (x0 (h := 32) hT rfl) ?_
      exact x203c (h := 33) hT rfl (by decide)
    · refine Eq.trans (x0 (h := 20) hT rfl) ?_
      exact x203c (h := 21) hT rfl (by decide)
/-! WordLinks$Corpus.wordAt(III)I -/
set_option maxRecDepth 100000 in
theorem e_5 {P : zP} {d : zD P} {a0 : Nat} {a1 : Int} {a2 : Int} {a3 : Int} (ha0 : zkd a0 = 0) : MM P 5 [(2, ((a0 : Nat) : Int)), (0, a1), (0, a2), (0, a3)] d = (if wr (((a2 * 6) + a3)) < 0 then some (0, d) else (if wr 144 ≤ wr (((a2 * 6) + a3)) then some (0, d) else (if zin a1 2 then (if zin (((a2 * 6) + a3)) 144 then some ((d.m (((a0 + 11) + (1 + zix a1))) (zix (((a2 * 6) + a3)))), d) else none) else none))) := by
  have hT := cT_5
  refine Eq.trans (MM_def sm_5 (Nat.le_of_ble_eq_true rfl)) ?_
  change zB P 5 0 [(2, ((a0 : Nat) : Int)), (0, a1), (0, a2), (0, a3), (3, 0)] [] d = _
  refine Eq.trans (x1 (h := 0) hT rfl rfl (by decide)) ?_
  refine Eq.trans (x0 (h := 1) hT rfl) ?_
  refine Eq.trans (x5_2 (h := 2) hT rfl) ?_
  refine Eq.trans (x1 (h := 3) hT rfl rfl (by decide)) ?_
  refine Eq.trans (x5_0 (h := 4) hT rfl) ?_
  refine Eq.trans (x2 (ls' := [(2, ((a0 : Nat) : Int)), (0, a1), (0, a2), (0, a3), (0, ((a2 * 6) + a3))]) (h := 5) hT rfl (Nat.le_of_ble_eq_true rfl) rfl) ?_
  refine Eq.trans (x1 (h := 6) hT rfl rfl (by decide)) ?_
  refine Eq.trans (x16_2 (h := 7) hT rfl) ?_
  refine xit (fun _ => ?_) (fun _ => ?_)
  · refine Eq.trans (x0 (h := 18) hT rfl) ?_
    exact x201 (h := 19) hT rfl
  · refine Eq.trans (x1 (h := 8) hT rfl rfl (by decide)) ?_
    refine Eq.trans (x0 (h := 9) hT rfl) ?_
    refine Eq.trans (x17_3 (h := 10) hT rfl) ?_
    refine xit (fun _ => ?_) (fun _ => ?_)
    · refine Eq.trans (x0 (h := 18) hT rfl) ?_
      exact x201 (h := 19) hT rfl
    · refine Eq.trans (x1 (h := 11) hT rfl rfl (by decide)) ?_
      refine Eq.trans (x21r (r := a0) (cl := 0) (o := 11) (h := 12) hT rfl ha0 (by decide) rfl) ?_
      refine Eq.trans (x1 (h := 13) hT rfl rfl (by decide)) ?_
      refine Eq.trans (x24r (r := (a0 + 11)) (n := 2) (h := 14) hT rfl (kd_0_4 ha0) (ln_0_4 ha0) (by decide)) ?_
      refine xig (fun hz1 => ?_)
      refine Eq.trans (x1 (h := 15) hT rfl rfl (by decide)) ?_
      refine Eq.trans (x24 (r := ((a0 + 11) + (1 + zix a1))) (n := 144) (h := 16) hT rfl (Or.inl (kq_0_4 ha0 (zix_lt hz1))) (lq_0_4 ha0 (zix_lt hz1))) ?_
      refine xig (fun hz2 => ?_)
      refine Eq.trans (x18 (h := 17) hT rfl) ?_
      exact x201 (h := 19) hT rfl
