/-! The methods from 0 on, block by block. -/
/-! WordLinks$Corpus.allPlaces(I)I -/
set_option maxRecDepth 100000 in
theorem e_0 {P : zP} {d : zD P} {a0 : Nat} {a1 : Int} (ha0 : zkd a0 = 0) : MM P 0 [(2, ((a0 : Nat) : Int)), (0, a1)] d = zB P 0 4 [(2, ((a0 : Nat) : Int)), (0, a1), (0, 0), (0, 0)] [] d := by
  have hT := cT_0
  refine Eq.trans (MM_def sm_0 (Nat.le_of_ble_eq_true rfl)) ?_
  change zB P 0 0 [(2, ((a0 : Nat) : Int)), (0, a1), (3, 0), (3, 0)] [] d = _
  refine Eq.trans (x0 (h := 0) hT rfl) ?_
  refine Eq.trans (x2 (ls' := [(2, ((a0 : Nat) : Int)), (0, a1), (0, 0), (3, 0)]) (h := 1) hT rfl (Nat.le_of_ble_eq_true rfl) rfl) ?_
  refine Eq.trans (x0 (h := 2) hT rfl) ?_
  refine Eq.trans (x2 (ls' := [(2, ((a0 : Nat) : Int)), (0, a1), (0, 0), (0, 0)]) (h := 3) hT rfl (Nat.le_of_ble_eq_true rfl) rfl) ?_
  exact rfl
set_option maxRecDepth 100000 in
theorem q_0_4 {P : zP} {d : zD P} {a0 : Nat} {a1 : Int} {a2 : Int} {a3 : Int} (ha0 : zkd a0 = 0) : zB P 0 4 [(2, ((a0 : Nat) : Int)), (0, a1), (0, a2), (0, a3)] [] d = (if wr ((d.m a0 6)) ≤ wr a3 then some (a2, d) else (if zin a1 2 then (if zin a3 24 then zB P 0 4 [(2, ((a0 : Nat) : Int)), (0, a1), (0, (a2 + (d.m (((a0 + 8) + (1 + zix a1))) (zix a3)))), (0, (a3 + 1))] [] d else none) else none)) := by
  have hT := cT_0
  refine Eq.trans (x1 (h := 4) hT rfl rfl (by decide)) ?_
  refine Eq.trans (x1 (h := 5) hT rfl rfl (by decide)) ?_
  refine Eq.trans (x21 (r := a0) (cl := 0) (h := 6) hT rfl ha0) ?_
  refine Eq.trans (x17_3 (h := 7) hT rfl) ?_
  refine xit (fun _ => ?_) (fun _ => ?_)
  · refine Eq.trans (x1 (h := 19) hT rfl rfl (by decide)) ?_
    exact x201 (h := 20) hT rfl
  · refine Eq.trans (x1 (h := 8) hT rfl rfl (by decide)) ?_
    refine Eq.trans (x1 (h := 9) hT rfl rfl (by decide)) ?_
    refine Eq.trans (x21r (r := a0) (cl := 0) (o := 8) (h := 10) hT rfl ha0 (by decide) rfl) ?_
    refine Eq.trans (x1 (h := 11) hT rfl rfl (by decide)) ?_
    refine Eq.trans (x24r (r := (a0 + 8)) (n := 2) (h := 12) hT rfl (kd_0_3 ha0) (ln_0_3 ha0) (by decide)) ?_
    refine xig (fun hz1 => ?_)
    refine Eq.trans (x1 (h := 13) hT rfl rfl (by decide)) ?_
    refine Eq.trans (x24 (r := ((a0 + 8) + (1 + zix a1))) (n := 24) (h := 14) hT rfl (Or.inl (kq_0_3 ha0 (zix_lt hz1))) (lq_0_3 ha0 (zix_lt hz1))) ?_
    refine xig (fun hz2 => ?_)
    refine Eq.trans (x5_0 (h := 15) hT rfl) ?_
    refine Eq.trans (x2 (ls' := [(2, ((a0 : Nat) : Int)), (0, a1), (0, (a2 + (d.m (((a0 + 8) + (1 + zix a1))) (zix a3)))), (0, a3)]) (h := 16) hT rfl (Nat.le_of_ble_eq_true rfl) rfl) ?_
    refine Eq.trans (x4 (ls' := [(2, ((a0 : Nat) : Int)), (0, a1), (0, (a2 + (d.m (((a0 + 8) + (1 + zix a1))) (zix a3)))), (0, (a3 + 1))]) (h := 17) hT rfl rfl rfl) ?_
    refine Eq.trans (x18 (h := 18) hT rfl) ?_
    exact rfl
/-! WordLinks$Corpus.arePartners(III)Z -/
set_option maxRecDepth 100000 in
theorem e_1 {P : zP} {d : zD P} {a0 : Nat} {a1 : Int} {a2 : Int} {a3 : Int} (ha0 : zkd a0 = 0) : MM P 1 [(2, ((a0 : Nat) : Int)), (0, a1), (0, a2), (0, a3)] d = (if wr a2 < 0 then some (0, d) else (if wr 40 ≤ wr a2 then some (0, d) else (if zin a1 2 then (if zin a2 40 then (if wrl ((zlbin 3 ((zlsh 1 ((d.m (((a0 + 5) + (1 + zix a1))) (zix a2))) a3)) 1)) = wrl 0 then some (0, d) else some (1, d)) else none) else none))) := by
  have hT := cT_1
  refine Eq.trans (MM_def sm_1 (Nat.le_of_ble_eq_true rfl)) ?_
  change zB P 1 0 [(2, ((a0 : Nat) : Int)), (0, a1), (0, a2), (0, a3)] [] d = _
  refine Eq.trans (x1 (h := 0) hT rfl rfl (by decide)) ?_
  refine Eq.trans (x16_2 (h := 1) hT rfl) ?_
  refine xit (fun _ => ?_) (fun _ => ?_)
  · refine Eq.trans (x0 (h := 20) hT rfl) ?_
    exact x203c (h := 21) hT rfl (by decide)
  · refine Eq.trans (x1 (h := 2) hT rfl rfl (by decide)) ?_
    refine Eq.trans (x0 (h := 3) hT rfl) ?_
    refine Eq.trans (x17_3 (h := 4) hT rfl) ?_
    refine xit (fun _ => ?_) (fun _ => ?_)
    · refine Eq.trans (x0 (h := 20) hT rfl) ?_
      exact x203c (h := 21) hT rfl (by decide)
    · refine Eq.trans (x1 (h := 5) hT rfl rfl (by decide)) ?_
      refine Eq.trans (x21r (r := a0) (cl := 0) (o := 5) (h := 6) hT rfl ha0 (by decide) rfl) ?_
      refine Eq.trans (x1 (h := 7) hT rfl rfl (by decide)) ?_
      refine Eq.trans (x24r (r := (a0 + 5)) (n := 2) (h := 8) hT rfl (kd_0_2 ha0) (ln_0_2 ha0) (by decide)) ?_
      refine xig (fun hz1 => ?_)
      refine Eq.trans (x1 (h := 9) hT rfl rfl (by decide)) ?_
      refine Eq.trans (x24 (r := ((a0 + 5) + (1 + zix a1))) (n := 40) (h := 10) hT rfl (Or.inl (kq_0_2 ha0 (zix_lt hz1))) (lq_0_2 ha0 (zix_lt hz1))) ?_
      refine xig (fun hz2 => ?_)
      refine Eq.trans (x1 (h := 11) hT rfl rfl (by decide)) ?_
      refine Eq.trans (x10 (h := 12) hT rfl) ?_
      refine Eq.trans (x0 (h := 13) hT rfl) ?_
      refine Eq.trans (x8n (h := 14) hT rfl) ?_
      refine Eq.trans (x0 (h := 15) hT rfl) ?_
      refine Eq.trans (x116_0 (h := 16) hT rfl rfl) ?_
      refine xit (fun _ => ?_) (fun _ => ?_)
      · refine Eq.trans (x0 (h := 20) hT rfl) ?_
        exact x203c (h := 21) hT rfl (by decide)
      · refine Eq.trans (x0 (h := 18) hT rfl) ?_
        refine Eq.trans (x18 (h := 19) hT rfl) ?_
        exact x203c (h := 21) hT rfl (by decide)
/-! WordLinks$Corpus.dictionaryPlace(II)I -/
set_option maxRecDepth 100000 in
theorem e_2 {P : zP} {d : zD P} {a0 : Nat} {a1 : Int} {a2 : Int} (ha0 : zkd a0 = 0) : MM P 2 [(2, ((a0 : Nat) : Int)), (0, a1), (0, a2)] d = zB P 2 4 [(2, ((a0 : Nat) : Int)), (0, a1), (0, a2), (0, 0), (0, 0)] [] d := by
  have hT := cT_2
  refine Eq.trans (MM_def sm_2 (Nat.le_of_ble_eq_true rfl)) ?_
  change zB P 2 0 [(2, ((a0 : Nat) : Int)), (0, a1), (0, a2), (3, 0), (3, 0)] [] d = _
  refine Eq.trans (x0 (h := 0) hT rfl) ?_
  refine Eq.trans (x2 (ls' := [(2, ((a0 : Nat) : Int)), (0, a1), (0, a2), (0, 0), (3, 0)]) (h := 1) hT rfl (Nat.le_of_ble_eq_true rfl) rfl) ?_
  refine Eq.trans (x0 (h := 2) hT rfl) ?_
  refine Eq.trans (x2 (ls' := [(2, ((a0 : Nat) : Int)), (0, a1), (0, a2), (0, 0), (0, 0)]) (h := 3) hT rfl (Nat.le_of_ble_eq_true rfl) rfl) ?_
  exact rfl
set_option maxRecDepth 100000 in
theorem q_2_4 {P : zP} {d : zD P} {a0 : Nat} {a1 : Int} {a2 : Int} {a3 : Int} {a4 : Int} (ha0 : zkd a0 = 0) : zB P 2 4 [(2, ((a0 : Nat) : Int)), (0, a1), (0, a2), (0, a3), (0, a4)] [] d = (if zin a1 2 then (if wr ((d.m ((a0 + 1)) (zix a1))) ≤ wr a4 then some (a3, d) else (if zin a1 2 then (if zin a4 40 then (if zin a1 2 then (if zin a2 40 then (if wrl ((d.m (((a0 + 2) + (1 + zix a1))) (zix a2))) ≤ wrl ((d.m (((a0 + 2) + (1 + zix a1))) (zix a4))) then zB P 2 4 [(2, ((a0 : Nat) : Int)), (0, a1), (0, a2), (0, a3), (0, (a4 + 1))] [] d else zB P 2 4 [(2, ((a0 : Nat) : Int)), (0, a1), (0, a2), (0, (a3 + 1)), (0, (a4 + 1))] [] d) else none) else none) else none) else none)) else none) := by
  have hT := cT_2
  refine Eq.trans (x1 (h := 4) hT rfl rfl (by decide)) ?_
  refine Eq.trans (x1 (h := 5) hT rfl rfl (by decide)) ?_
  refine Eq.trans (x21r (r := a0) (cl := 0) (o := 1) (h := 6) hT rfl ha0 (by decide) rfl) ?_
  refine Eq.trans (x1 (h := 7) hT rfl rfl (by decide)) ?_
  refine Eq.trans (x24 (r := (a0 + 1)) (n := 2) (h := 8) hT rfl (Or.inl (kd_0_0 ha0)) (ln_0_0 ha0)) ?_
  refine xig (fun hz1 => ?_)
  refine Eq.trans (x17_3 (h := 9) hT rfl) ?_
  refine xit (fun _ => ?_) (fun _ => ?_)
  · refine Eq.trans (x1 (h := 27) hT rfl rfl (by decide)) ?_
    exact x201 (h := 28) hT rfl
  · refine Eq.trans (x1 (h := 10) hT rfl rfl (by decide)) ?_
    refine Eq.trans (x21r (r := a0) (cl := 0) (o := 2) (h := 11) hT rfl ha0 (by decide) rfl) ?_
    refine Eq.trans (x1 (h := 12) hT rfl rfl (by decide)) ?_
    refine Eq.trans (x24r (r := (a0 + 2)) (n := 2) (h := 13) hT rfl (kd_0_1 ha0) (ln_0_1 ha0) (by decide)) ?_
    refine xig (fun hz2 => ?_)
    refine Eq.trans (x1 (h := 14) hT rfl rfl (by decide)) ?_
    refine Eq.trans (x24 (r := ((a0 + 2) + (1 + zix a1))) (n := 40) (h := 15) hT rfl (Or.inl (kq_0_1 ha0 (zix_lt hz2))) (lq_0_1 ha0 (zix_lt hz2))) ?_
    refine xig (fun hz3 => ?_)
    refine Eq.trans (x1 (h := 16) hT rfl rfl (by decide)) ?_
    refine Eq.trans (x21r (r := a0) (cl := 0) (o := 2) (h := 17) hT rfl ha0 (by decide) rfl) ?_
    refine Eq.trans (x1 (h := 18) hT rfl rfl (by decide)) ?_
    refine Eq.trans (x24r (r := (a0 + 2)) (n := 2) (h := 19) hT rfl (kd_0_1 ha0) (ln_0_1 ha0) (by decide)) ?_
    refine xig (fun hz4 => ?_)
    refine Eq.trans (x1 (h := 20) hT rfl rfl (by decide)) ?_
    refine Eq.trans (x24 (r := ((a0 + 2) + (1 + zix a1))) (n := 40) (h := 21) hT rfl (Or.inl (kq_0_1 ha0 (zix_lt hz4))) (lq_0_1 ha0 (zix_lt hz4))) ?_
    refine xig (fun hz5 => ?_)
    refine Eq.trans (x116_3 (h := 22) hT rfl rfl) ?_
    refine xit (fun _ => ?_) (fun _ => ?_)
    · refine Eq.trans (x4 (ls' := [(2, ((a0 : Nat) : Int)), (0, a1), (0, a2), (0, a3), (0, (a4 + 1))]) (h := 25) hT rfl rfl rfl) ?_
      refine Eq.trans (x18 (h := 26) hT rfl) ?_
      exact rfl
    · refine Eq.trans (x4 (ls' := [(2, ((a0 : Nat) : Int)), (0, a1), (0, a2), (0, (a3 + 1)), (0, a4)]) (h := 24) hT rfl rfl rfl) ?_
      refine Eq.trans (x4 (ls' := [(2, ((a0 : Nat) : Int)), (0, a1), (0, a2), (0, (a3 + 1)), (0, (a4 + 1))]) (h := 25) hT rfl rfl rfl) ?_
      refine Eq.trans (x18 (h := 26) hT rfl) ?_
      exact rfl
/-! WordLinks$Corpus.numberOf(IJI)I -/
set_option maxRecDepth 100000 in
theorem e_3 {P : zP} {d : zD P} {a0 : Nat} {a1 : Int} {a2 : Int} {a4 : Int} (ha0 : zkd a0 = 0) : MM P 3 [(2, ((a0 : Nat) : Int)), (0, a1), (1, a2), (0, a4)] d = zB P 3 2 [(2, ((a0 : Nat) : Int)), (0, a1), (1, a2), (3, 0), (0, a4), (0, 0)] [] d := by
  have hT := cT_3
  refine Eq.trans (MM_def sm_3 (Nat.le_of_ble_eq_true rfl)) ?_
  change zB P 3 0 [(2, ((a0 : Nat) : Int)), (0, a1), (1, a2), (3, 0), (0, a4), (3, 0)] [] d = _
  refine Eq.trans (x0 (h := 0) hT rfl) ?_
  refine Eq.trans (x2 (ls' := [(2, ((a0 : Nat) : Int)), (0, a1), (1, a2), (3, 0), (0, a4), (0, 0)]) (h := 1) hT rfl (Nat.le_of_ble_eq_true rfl) rfl) ?_
  exact rfl
set_option maxRecDepth 100000 in
theorem q_3_2 {P : zP} {d : zD P} {a0 : Nat} {a1 : Int} {a2 : Int} {g3 : zV} {a4 : Int} {a5 : Int} (ha0 : zkd a0 = 0) : zB P 3 2 [(2, ((a0 : Nat) : Int)), (0, a1), (1, a2), g3, (0, a4), (0, a5)] [] d = (if wr a4 ≤ wr a5 then some ((-1), d) else (if wr 40 ≤ wr a5 then some ((-1), d) else (if zin a1 2 then (if zin a5 40 then (if wrl ((d.m (((a0 + 2) + (1 + zix a1))) (zix a5))) ≠ wrl a2 then zB P 3 2 [(2, ((a0 : Nat) : Int)), (0, a1), (1, a2), g3, (0, a4), (0, (a5 + 1))] [] d else some (a5, d)) else none) else none))) := by
  have hT := cT_3
  refine Eq.trans (x1 (h := 2) hT rfl rfl (by decide)) ?_
  refine Eq.trans (x1 (h := 3) hT rfl rfl (by decide)) ?_
  refine Eq.trans (x17_3 (h := 4) hT rfl) ?_
  refine xit (fun _ => ?_) (fun _ => ?_)
  · refine Eq.trans (x0 (h := 21) hT rfl) ?_
    exact x201 (h := 22) hT rfl
  · refine Eq.trans (x1 (h := 5) hT rfl rfl (by decide)) ?_
    refine Eq.trans (x0 (h := 6) hT rfl) ?_
    refine Eq.trans (x17_3 (h := 7) hT rfl) ?_
    refine xit (fun _ => ?_) (fun _ => ?_)
    · refine Eq.trans (x0 (h := 21) hT rfl) ?_
      exact x201 (h := 22) hT rfl
    · refine Eq.trans (x1 (h := 8) hT rfl rfl (by decide)) ?_
      refine Eq.trans (x21r (r := a0) (cl := 0) (o := 2) (h := 9) hT rfl ha0 (by decide) rfl) ?_
      refine Eq.trans (x1 (h := 10) hT rfl rfl (by decide)) ?_
      refine Eq.trans (x24r (r := (a0 + 2)) (n := 2) (h := 11) hT rfl (kd_0_1 ha0) (ln_0_1 ha0) (by decide)) ?_
      refine xig (fun hz1 => ?_)
      refine Eq.trans (x1 (h := 12) hT rfl rfl (by decide)) ?_
      refine Eq.trans (x24 (r := ((a0 + 2) + (1 + zix a1))) (n := 40) (h := 13) hT rfl (Or.inl (kq_0_1 ha0 (zix_lt hz1))) (lq_0_1 ha0 (zix_lt hz1))) ?_
      refine xig (fun hz2 => ?_)
      refine Eq.trans (x1 (h := 14) hT rfl rfl (by decide)) ?_
      refine Eq.trans (x116_1 (h := 15) hT rfl rfl) ?_
      refine xit (fun _ => ?_) (fun _ => ?_)
      · refine Eq.trans (x4 (ls' := [(2, ((a0 : Nat) : Int)), (0, a1), (1, a2), g3, (0, a4), (0, (a5 + 1))]) (h := 19) hT rfl rfl rfl) ?_
        refine Eq.trans (x18 (h := 20) hT rfl) ?_
        exact rfl
      · refine Eq.trans (x1 (h := 17) hT rfl rfl (by decide)) ?_
        exact x201 (h := 18) hT rfl
/-! WordLinks$Corpus.setTold(IIIZ)Z -/
set_option maxRecDepth 100000 in
theorem e_4 {P : zP} {d : zD P} {a0 : Nat} {a1 : Int} {a2 : Int} {a3 : Int} {a4 : Int} (ha0 : zkd a0 = 0) : MM P 4 [(2, ((a0 : Nat) : Int)), (0, a1), (0, a2), (0, a3), (0, a4)] d = (if zin (((a1 * 6) + a2)) 144 then (if wr a4 = 0 then (if wr ((zbin 3 ((zbin 8 ((d.m ((a0 + 14)) (zix (((a1 * 6) + a2))))) a3)) 1)) ≠ wr 0 then (if zin (((a1 * 6) + a2)) 144 then (if zin (((a1 * 6) + a2)) 144 then some (1, (d.up ((a0 + 14)) (zix (((a1 * 6) + a2))) ((zbin 5 ((d.m ((a0 + 14)) (zix (((a1 * 6) + a2))))) ((zbin 6 1 a3)))))) else none) else none) else some (0, d)) else (if wr ((zbin 3 ((zbin 8 ((d.m ((a0 + 14)) (zix (((a1 * 6) + a2))))) a3)) 1)) ≠ wr 1 then (if zin (((a1 * 6) + a2)) 144 then (if zin (((a1 * 6) + a2)) 144 then some (1, (d.up ((a0 + 14)) (zix (((a1 * 6) + a2))) ((zbin 5 ((d.m ((a0 + 14)) (zix (((a1 * 6) + a2))))) ((zbin 6 1 a3)))))) else none) else none) else some (0, d))) else none) := by
  have hT := cT_4
  refine Eq.trans (MM_def sm_4 (Nat.le_of_ble_eq_true rfl)) ?_
  change zB P 4 0 [(2, ((a0 : Nat) : Int)), (0, a1), (0, a2), (0, a3), (0, a4), (3, 0)] [] d = _
  refine Eq.trans (x1 (h := 0) hT rfl rfl (by decide)) ?_
  refine Eq.trans (x0 (h := 1) hT rfl) ?_
  refine Eq.trans (x5_2 (h := 2) hT rfl) ?_
  refine Eq.trans (x1 (h := 3) hT rfl rfl (by decide)) ?_
  refine Eq.trans (x5_0 (h := 4) hT rfl) ?_
  refine Eq.trans (x2 (ls' := [(2, ((a0 : Nat) : Int)), (0, a1), (0, a2), (0, a3), (0, a4), (0, ((a1 * 6) + a2))]) (h := 5) hT rfl (Nat.le_of_ble_eq_true rfl) rfl) ?_
  refine Eq.trans (x1 (h := 6) hT rfl rfl (by decide)) ?_
  refine Eq.trans (x21r (r := a0) (cl := 0) (o := 14) (h := 7) hT rfl ha0 (by decide) rfl) ?_
  refine Eq.trans (x1 (h := 8) hT rfl rfl (by decide)) ?_
  refine Eq.trans (x24 (r := (a0 + 14)) (n := 144) (h := 9) hT rfl (Or.inl (kd_0_5 ha0)) (ln_0_5 ha0)) ?_
  refine xig (fun hz1 => ?_)
  refine Eq.trans (x1 (h := 10) hT rfl rfl (by decide)) ?_
  refine Eq.trans (x5n (h := 11) hT rfl) ?_
  refine Eq.trans (x0 (h := 12) hT rfl) ?_
  refine Eq.trans (x5n (h := 13) hT rfl) ?_
  refine Eq.trans (x1 (h := 14) hT rfl rfl (by decide)) ?_
  refine Eq.trans (x16_0 (h := 15) hT rfl) ?_
  refine xit (fun _ => ?_) (fun _ => ?_)
  · refine Eq.trans (x0 (h := 18) hT rfl) ?_
    refine Eq.trans (x17_1 (h := 19) hT rfl) ?_
    refine xit (fun _ => ?_) (fun _ => ?_)
    · refine Eq.trans (x1 (h := 22) hT rfl rfl (by decide)) ?_
      refine Eq.trans (x21r (r := a0) (cl := 0) (o := 14) (h := 23) hT rfl ha0 (by decide) rfl) ?_
      refine Eq.trans (x1 (h := 24) hT rfl rfl (by decide)) ?_
      refine Eq.trans (x14 (h := 25) hT rfl (by decide)) ?_
      refine Eq.trans (x24 (r := (a0 + 14)) (n := 144) (h := 26) hT rfl (Or.inl (kd_0_5 ha0)) (ln_0_5 ha0)) ?_
      refine xig (fun hz2 => ?_)
      refine Eq.trans (x0 (h := 27) hT rfl) ?_
      refine Eq.trans (x1 (h := 28) hT rfl rfl (by decide)) ?_
      refine Eq.trans (x5n (h := 29) hT rfl) ?_
      refine Eq.trans (x5n (h := 30) hT rfl) ?_
      refine Eq.trans (x25a (r := (a0 + 14)) (n := 144) (h := 31) hT rfl (kd_0_5 ha0) (ln_0_5 ha0) (by decide) rfl) ?_
      refine xig (fun hz3 => ?_)
      refine Eq.trans (x0 (h := 32) hT rfl) ?_
      exact x203c (h := 33) hT rfl (by decide)
    · refine Eq.trans (x0 (h := 20) hT rfl) ?_
      exact x203c (h := 21) hT rfl (by decide)
  · refine Eq.trans (x0 (h := 16) hT rfl) ?_
    refine Eq.trans (x18 (h := 17) hT rfl) ?_
    refine Eq.trans (x17_1 (h := 19) hT rfl) ?_
    refine xit (fun _ => ?_) (fun _ => ?_)
    · refine Eq.trans (x1 (h := 22) hT rfl rfl (by decide)) ?_
      refine Eq.trans (x21r (r := a0) (cl := 0) (o := 14) (h := 23) hT rfl ha0 (by decide) rfl) ?_
      refine Eq.trans (x1 (h := 24) hT rfl rfl (by decide)) ?_
      refine Eq.trans (x14 (h := 25) hT rfl (by decide)) ?_
      refine Eq.trans (x24 (r := (a0 + 14)) (n := 144) (h := 26) hT rfl (Or.inl (kd_0_5 ha0)) (ln_0_5 ha0)) ?_
      refine xig (fun hz4 => ?_)
      refine Eq.trans (x0 (h := 27) hT rfl) ?_
      refine Eq.trans (x1 (h := 28) hT rfl rfl (by decide)) ?_
      refine Eq.trans (x5n (h := 29) hT rfl) ?_
      refine Eq.trans (x5n (h := 30) hT rfl) ?_
      refine Eq.trans (x25a (r := (a0 + 14)) (n := 144) (h := 31) hT rfl (kd_0_5 ha0) (ln_0_5 ha0) (by decide) rfl) ?_
      refine xig (fun hz5 => ?_)
      refine Eq.trans (x0 (h := 32) hT rfl) ?_
      exact x203c (h := 33) hT rfl (by decide)
    · refine Eq.trans (x0 (h := 20) hT rfl) ?_
      exact x203c (h := 21) hT rfl (by decide)
/-! WordLinks$Corpus.wordAt(III)I -/
set_option maxRecDepth 100000 in
theorem e_5 {P : zP} {d : zD P} {a0 : Nat} {a1 : Int} {a2 : Int} {a3 : Int} (ha0 : zkd a0 = 0) : MM P 5 [(2, ((a0 : Nat) : Int)), (0, a1), (0, a2), (0, a3)] d = (if wr (((a2 * 6) + a3)) < 0 then some (0, d) else (if wr 144 ≤ wr (((a2 * 6) + a3)) then some (0, d) else (if zin a1 2 then (if zin (((a2 * 6) + a3)) 144 then some ((d.m (((a0 + 11) + (1 + zix a1))) (zix (((a2 * 6) + a3)))), d) else none) else none))) := by
  have hT := cT_5
  refine Eq.trans (MM_def sm_5 (Nat.le_of_ble_eq_true rfl)) ?_
  change zB P 5 0 [(2, ((a0 : Nat) : Int)), (0, a1), (0, a2), (0, a3), (3, 0)] [] d = _
  refine Eq.trans (x1 (h := 0) hT rfl rfl (by decide)) ?_
  refine Eq.trans (x0 (h := 1) hT rfl) ?_
  refine Eq.trans (x5_2 (h := 2) hT rfl) ?_
  refine Eq.trans (x1 (h := 3) hT rfl rfl (by decide)) ?_
  refine Eq.trans (x5_0 (h := 4) hT rfl) ?_
  refine Eq.trans (x2 (ls' := [(2, ((a0 : Nat) : Int)), (0, a1), (0, a2), (0, a3), (0, ((a2 * 6) + a3))]) (h := 5) hT rfl (Nat.le_of_ble_eq_true rfl) rfl) ?_
  refine Eq.trans (x1 (h := 6) hT rfl rfl (by decide)) ?_
  refine Eq.trans (x16_2 (h := 7) hT rfl) ?_
  refine xit (fun _ => ?_) (fun _ => ?_)
  · refine Eq.trans (x0 (h := 18) hT rfl) ?_
    exact x201 (h := 19) hT rfl
  · refine Eq.trans (x1 (h := 8) hT rfl rfl (by decide)) ?_
    refine Eq.trans (x0 (h := 9) hT rfl) ?_
    refine Eq.trans (x17_3 (h := 10) hT rfl) ?_
    refine xit (fun _ => ?_) (fun _ => ?_)
    · refine Eq.trans (x0 (h := 18) hT rfl) ?_
      exact x201 (h := 19) hT rfl
    · refine Eq.trans (x1 (h := 11) hT rfl rfl (by decide)) ?_
      refine Eq.trans (x21r (r := a0) (cl := 0) (o := 11) (h := 12) hT rfl ha0 (by decide) rfl) ?_
      refine Eq.trans (x1 (h := 13) hT rfl rfl (by decide)) ?_
      refine Eq.trans (x24r (r := (a0 + 11)) (n := 2) (h := 14) hT rfl (kd_0_4 ha0) (ln_0_4 ha0) (by decide)) ?_
      refine xig (fun hz1 => ?_)
      refine Eq.trans (x1 (h := 15) hT rfl rfl (by decide)) ?_
      refine Eq.trans (x24 (r := ((a0 + 11) + (1 + zix a1))) (n := 144) (h := 16) hT rfl (Or.inl (kq_0_4 ha0 (zix_lt hz1))) (lq_0_4 ha0 (zix_lt hz1))) ?_
      refine xig (fun hz2 => ?_)
      refine Eq.trans (x18 (h := 17) hT rfl) ?_
      exact x201 (h := 19) hT rfl
/-! WordLinks$Linker.bareRows()I -/
set_option maxRecDepth 100000 in
theorem e_6 {P : zP} {d : zD P} {a0 : Nat} (ha0 : zkd a0 = 1) : MM P 6 [(2, ((a0 : Nat) : Int))] d = zB P 6 4 [(2, ((a0 : Nat) : Int)), (0, 0), (0, 0)] [] d := by
  have hT := cT_6
  refine Eq.trans (MM_def sm_6 (Nat.le_of_ble_eq_true rfl)) ?_
  change zB P 6 0 [(2, ((a0 : Nat) : Int)), (3, 0), (3, 0)] [] d = _
  refine Eq.trans (x0 (h := 0) hT rfl) ?_
  refine Eq.trans (x2 (ls' := [(2, ((a0 : Nat) : Int)), (0, 0), (3, 0)]) (h := 1) hT rfl (Nat.le_of_ble_eq_true rfl) rfl) ?_
  refine Eq.trans (x0 (h := 2) hT rfl) ?_
  refine Eq.trans (x2 (ls' := [(2, ((a0 : Nat) : Int)), (0, 0), (0, 0)]) (h := 3) hT rfl (Nat.le_of_ble_eq_true rfl) rfl) ?_
  exact rfl
set_option maxRecDepth 100000 in
theorem q_6_4 {P : zP} {d : zD P} {a0 : Nat} {a1 : Int} {a2 : Int} (ha0 : zkd a0 = 1) : zB P 6 4 [(2, ((a0 : Nat) : Int)), (0, a1), (0, a2)] [] d = (if wr ((d.m a0 4)) ≤ wr a2 then some (a1, d) else (if zin a2 6 then (if wr ((d.m ((a0 + 4)) (zix a2))) ≠ 0 then zB P 6 4 [(2, ((a0 : Nat) : Int)), (0, a1), (0, (a2 + 1))] [] d else zB P 6 4 [(2, ((a0 : Nat) : Int)), (0, (zbin 4 a1 ((zbin 6 1 a2)))), (0, (a2 + 1))] [] d) else none)) := by
  have hT := cT_6
  refine Eq.trans (x1 (h := 4) hT rfl rfl (by decide)) ?_
  refine Eq.trans (x1 (h := 5) hT rfl rfl (by decide)) ?_
  refine Eq.trans (x21 (r := a0) (cl := 1) (h := 6) hT rfl ha0) ?_
  refine Eq.trans (x17_3 (h := 7) hT rfl) ?_
  refine xit (fun _ => ?_) (fun _ => ?_)
  · refine Eq.trans (x1 (h := 21) hT rfl rfl (by decide)) ?_
    exact x201 (h := 22) hT rfl
  · refine Eq.trans (x1 (h := 8) hT rfl rfl (by decide)) ?_
    refine Eq.trans (x21r (r := a0) (cl := 1) (o := 4) (h := 9) hT rfl ha0 (by decide) rfl) ?_
    refine Eq.trans (x1 (h := 10) hT rfl rfl (by decide)) ?_
    refine Eq.trans (x24 (r := (a0 + 4)) (n := 6) (h := 11) hT rfl (Or.inl (kd_1_3 ha0)) (ln_1_3 ha0)) ?_
    refine xig (fun hz1 => ?_)
    refine Eq.trans (x16_1 (h := 12) hT rfl) ?_
    refine xit (fun _ => ?_) (fun _ => ?_)
    · refine Eq.trans (x4 (ls' := [(2, ((a0 : Nat) : Int)), (0, a1), (0, (a2 + 1))]) (h := 19) hT rfl rfl rfl) ?_
      refine Eq.trans (x18 (h := 20) hT rfl) ?_
      exact rfl
    · refine Eq.trans (x1 (h := 13) hT rfl rfl (by decide)) ?_
      refine Eq.trans (x0 (h := 14) hT rfl) ?_
      refine Eq.trans (x1 (h := 15) hT rfl rfl (by decide)) ?_
      refine Eq.trans (x5n (h := 16) hT rfl) ?_
      refine Eq.trans (x5n (h := 17) hT rfl) ?_
      refine Eq.trans (x2 (ls' := [(2, ((a0 : Nat) : Int)), (0, (zbin 4 a1 ((zbin 6 1 a2)))), (0, a2)]) (h := 18) hT rfl (Nat.le_of_ble_eq_true rfl) rfl) ?_
      refine Eq.trans (x4 (ls' := [(2, ((a0 : Nat) : Int)), (0, (zbin 4 a1 ((zbin 6 1 a2)))), (0, (a2 + 1))]) (h := 19) hT rfl rfl rfl) ?_
      refine Eq.trans (x18 (h := 20) hT rfl) ?_
      exact rfl
/-! WordLinks$Linker.columnsWithLinks()I -/
set_option maxRecDepth 100000 in
theorem e_7 {P : zP} {d : zD P} {a0 : Nat} (ha0 : zkd a0 = 1) : MM P 7 [(2, ((a0 : Nat) : Int))] d = zB P 7 4 [(2, ((a0 : Nat) : Int)), (0, 0), (0, 0)] [] d := by
  have hT := cT_7
  refine Eq.trans (MM_def sm_7 (Nat.le_of_ble_eq_true rfl)) ?_
  change zB P 7 0 [(2, ((a0 : Nat) : Int)), (3, 0), (3, 0)] [] d = _
  refine Eq.trans (x0 (h := 0) hT rfl) ?_
  refine Eq.trans (x2 (ls' := [(2, ((a0 : Nat) : Int)), (0, 0), (3, 0)]) (h := 1) hT rfl (Nat.le_of_ble_eq_true rfl) rfl) ?_
  refine Eq.trans (x0 (h := 2) hT rfl) ?_
  refine Eq.trans (x2 (ls' := [(2, ((a0 : Nat) : Int)), (0, 0), (0, 0)]) (h := 3) hT rfl (Nat.le_of_ble_eq_true rfl) rfl) ?_
  exact rfl
set_option maxRecDepth 100000 in
theorem q_7_4 {P : zP} {d : zD P} {a0 : Nat} {a1 : Int} {a2 : Int} (ha0 : zkd a0 = 1) : zB P 7 4 [(2, ((a0 : Nat) : Int)), (0, a1), (0, a2)] [] d = (if wr ((d.m a0 4)) ≤ wr a2 then some (a1, d) else (if zin a2 6 then zB P 7 4 [(2, ((a0 : Nat) : Int)), (0, (zbin 4 a1 ((d.m ((a0 + 4)) (zix a2))))), (0, (a2 + 1))] [] d else none)) := by
  have hT := cT_7
  refine Eq.trans (x1 (h := 4) hT rfl rfl (by decide)) ?_
  refine Eq.trans (x1 (h := 5) hT rfl rfl (by decide)) ?_
  refine Eq.trans (x21 (r := a0) (cl := 1) (h := 6) hT rfl ha0) ?_
  refine Eq.trans (x17_3 (h := 7) hT rfl) ?_
  refine xit (fun _ => ?_) (fun _ => ?_)
  · refine Eq.trans (x1 (h := 17) hT rfl rfl (by decide)) ?_
    exact x201 (h := 18) hT rfl
  · refine Eq.trans (x1 (h := 8) hT rfl rfl (by decide)) ?_
    refine Eq.trans (x1 (h := 9) hT rfl rfl (by decide)) ?_
    refine Eq.trans (x21r (r := a0) (cl := 1) (o := 4) (h := 10) hT rfl ha0 (by decide) rfl) ?_
    refine Eq.trans (x1 (h := 11) hT rfl rfl (by decide)) ?_
    refine Eq.trans (x24 (r := (a0 + 4)) (n := 6) (h := 12) hT rfl (Or.inl (kd_1_3 ha0)) (ln_1_3 ha0)) ?_
    refine xig (fun hz1 => ?_)
    refine Eq.trans (x5n (h := 13) hT rfl) ?_
    refine Eq.trans (x2 (ls' := [(2, ((a0 : Nat) : Int)), (0, (zbin 4 a1 ((d.m ((a0 + 4)) (zix a2))))), (0, a2)]) (h := 14) hT rfl (Nat.le_of_ble_eq_true rfl) rfl) ?_
    refine Eq.trans (x4 (ls' := [(2, ((a0 : Nat) : Int)), (0, (zbin 4 a1 ((d.m ((a0 + 4)) (zix a2))))), (0, (a2 + 1))]) (h := 15) hT rfl rfl rfl) ?_
    refine Eq.trans (x18 (h := 16) hT rfl) ?_
    exact rfl
/-! WordLinks$Linker.firstLinks(II)I -/
set_option maxRecDepth 100000 in
theorem e_8 {P : zP} {d : zD P} {a0 : Nat} {a1 : Int} {a2 : Int} (ha0 : zkd a0 = 1) : MM P 8 [(2, ((a0 : Nat) : Int)), (0, a1), (0, a2)] d = (if wr a1 = 0 then (if zin a2 6 then some ((d.m ((a0 + 1)) (zix a2)), d) else none) else (if wr a1 = 1 then (if zin a2 6 then some ((d.m ((a0 + 2)) (zix a2)), d) else none) else (if wr a1 = 2 then (if zin a2 6 then (if zin a2 6 then some ((zbin 3 ((d.m ((a0 + 1)) (zix a2))) ((d.m ((a0 + 2)) (zix a2)))), d) else none) else none) else (if wr a1 = 3 then (if zin a2 6 then some ((d.m ((a0 + 3)) (zix a2)), d) else none) else (if zin a2 6 then (if zin a2 6 then some ((zbin 3 ((d.m ((a0 + 1)) (zix a2))) ((d.m ((a0 + 2)) (zix a2)))), d) else none) else none))))) := by
  have hT := cT_8
  refine Eq.trans (MM_def sm_8 (Nat.le_of_ble_eq_true rfl)) ?_
  change zB P 8 0 [(2, ((a0 : Nat) : Int)), (0, a1), (0, a2)] [] d = _
  refine Eq.trans (x1 (h := 0) hT rfl rfl (by decide)) ?_
  refine Eq.trans (x19 (h := 1) hT rfl) ?_
  refine Eq.trans x19c ?_
  refine xit (fun _ => ?_) (fun _ => ?_)
  · refine Eq.trans (x1 (h := 2) hT rfl rfl (by decide)) ?_
    refine Eq.trans (x21r (r := a0) (cl := 1) (o := 1) (h := 3) hT rfl ha0 (by decide) rfl) ?_
    refine Eq.trans (x1 (h := 4) hT rfl rfl (by decide)) ?_
    refine Eq.trans (x24 (r := (a0 + 1)) (n := 6) (h := 5) hT rfl (Or.inl (kd_1_0 ha0)) (ln_1_0 ha0)) ?_
    refine xig (fun hz1 => ?_)
    exact x201 (h := 6) hT rfl
  refine Eq.trans x19c ?_
  refine xit (fun _ => ?_) (fun _ => ?_)
  · refine Eq.trans (x1 (h := 7) hT rfl rfl (by decide)) ?_
    refine Eq.trans (x21r (r := a0) (cl := 1) (o := 2) (h := 8) hT rfl ha0 (by decide) rfl) ?_
    refine Eq.trans (x1 (h := 9) hT rfl rfl (by decide)) ?_
    refine Eq.trans (x24 (r := (a0 + 2)) (n := 6) (h := 10) hT rfl (Or.inl (kd_1_1 ha0)) (ln_1_1 ha0)) ?_
    refine xig (fun hz2 => ?_)
    exact x201 (h := 11) hT rfl
  refine Eq.trans x19c ?_
  refine xit (fun _ => ?_) (fun _ => ?_)
  · refine Eq.trans (x1 (h := 17) hT rfl rfl (by decide)) ?_
    refine Eq.trans (x21r (r := a0) (cl := 1) (o := 1) (h := 18) hT rfl ha0 (by decide) rfl) ?_
    refine Eq.trans (x1 (h := 19) hT rfl rfl (by decide)) ?_
    refine Eq.trans (x24 (r := (a0 + 1)) (n := 6) (h := 20) hT rfl (Or.inl (kd_1_0 ha0)) (ln_1_0 ha0)) ?_
    refine xig (fun hz3 => ?_)
    refine Eq.trans (x1 (h := 21) hT rfl rfl (by decide)) ?_
    refine Eq.trans (x21r (r := a0) (cl := 1) (o := 2) (h := 22) hT rfl ha0 (by decide) rfl) ?_
    refine Eq.trans (x1 (h := 23) hT rfl rfl (by decide)) ?_
    refine Eq.trans (x24 (r := (a0 + 2)) (n := 6) (h := 24) hT rfl (Or.inl (kd_1_1 ha0)) (ln_1_1 ha0)) ?_
    refine xig (fun hz4 => ?_)
    refine Eq.trans (x5n (h := 25) hT rfl) ?_
    exact x201 (h := 26) hT rfl
  refine Eq.trans x19c ?_
  refine xit (fun _ => ?_) (fun _ => ?_)
  · refine Eq.trans (x1 (h := 12) hT rfl rfl (by decide)) ?_
    refine Eq.trans (x21r (r := a0) (cl := 1) (o := 3) (h := 13) hT rfl ha0 (by decide) rfl) ?_
    refine Eq.trans (x1 (h := 14) hT rfl rfl (by decide)) ?_
    refine Eq.trans (x24 (r := (a0 + 3)) (n := 6) (h := 15) hT rfl (Or.inl (kd_1_2 ha0)) (ln_1_2 ha0)) ?_
    refine xig (fun hz5 => ?_)
    exact x201 (h := 16) hT rfl
  refine Eq.trans (x1 (h := 17) hT rfl rfl (by decide)) ?_
  refine Eq.trans (x21r (r := a0) (cl := 1) (o := 1) (h := 18) hT rfl ha0 (by decide) rfl) ?_
  refine Eq.trans (x1 (h := 19) hT rfl rfl (by decide)) ?_
  refine Eq.trans (x24 (r := (a0 + 1)) (n := 6) (h := 20) hT rfl (Or.inl (kd_1_0 ha0)) (ln_1_0 ha0)) ?_
  refine xig (fun hz6 => ?_)
  refine Eq.trans (x1 (h := 21) hT rfl rfl (by decide)) ?_
  refine Eq.trans (x21r (r := a0) (cl := 1) (o := 2) (h := 22) hT rfl ha0 (by decide) rfl) ?_
  refine Eq.trans (x1 (h := 23) hT rfl rfl (by decide)) ?_
  refine Eq.trans (x24 (r := (a0 + 2)) (n := 6) (h := 24) hT rfl (Or.inl (kd_1_1 ha0)) (ln_1_1 ha0)) ?_
  refine xig (fun hz7 => ?_)
  refine Eq.trans (x5n (h := 25) hT rfl) ?_
  exact x201 (h := 26) hT rfl
/-! WordLinks$Linker.mayCome(II)Z -/
set_option maxRecDepth 100000 in
theorem e_9 {P : zP} {d : zD P} {a0 : Nat} {a1 : Int} {a2 : Int} (ha0 : zkd a0 = 1) : MM P 9 [(2, ((a0 : Nat) : Int)), (0, a1), (0, a2)] d = (if zin a1 6 then (if zin a1 6 then (if wr ((zbin 3 ((zbin 3 ((d.m ((a0 + 3)) (zix a1))) ((zbin 5 ((d.m ((a0 + 4)) (zix a1))) ((-1)))))) ((zbin 6 1 a2)))) = 0 then some (0, d) else some (1, d)) else none) else none) := by
  have hT := cT_9
  refine Eq.trans (MM_def sm_9 (Nat.le_of_ble_eq_true rfl)) ?_
  change zB P 9 0 [(2, ((a0 : Nat) : Int)), (0, a1), (0, a2)] [] d = _
  refine Eq.trans (x1 (h := 0) hT rfl rfl (by decide)) ?_
  refine Eq.trans (x21r (r := a0) (cl := 1) (o := 3) (h := 1) hT rfl ha0 (by decide) rfl) ?_
  refine Eq.trans (x1 (h := 2) hT rfl rfl (by decide)) ?_
  refine Eq.trans (x24 (r := (a0 + 3)) (n := 6) (h := 3) hT rfl (Or.inl (kd_1_2 ha0)) (ln_1_2 ha0)) ?_
  refine xig (fun hz1 => ?_)
  refine Eq.trans (x1 (h := 4) hT rfl rfl (by decide)) ?_
  refine Eq.trans (x21r (r := a0) (cl := 1) (o := 4) (h := 5) hT rfl ha0 (by decide) rfl) ?_
  refine Eq.trans (x1 (h := 6) hT rfl rfl (by decide)) ?_
  refine Eq.trans (x24 (r := (a0 + 4)) (n := 6) (h := 7) hT rfl (Or.inl (kd_1_3 ha0)) (ln_1_3 ha0)) ?_
  refine xig (fun hz2 => ?_)
  refine Eq.trans (x0 (h := 8) hT rfl) ?_
  refine Eq.trans (x5n (h := 9) hT rfl) ?_
  refine Eq.trans (x5n (h := 10) hT rfl) ?_
  refine Eq.trans (x0 (h := 11) hT rfl) ?_
  refine Eq.trans (x1 (h := 12) hT rfl rfl (by decide)) ?_
  refine Eq.trans (x5n (h := 13) hT rfl) ?_
  refine Eq.trans (x5n (h := 14) hT rfl) ?_
  refine Eq.trans (x16_0 (h := 15) hT rfl) ?_
  refine xit (fun _ => ?_) (fun _ => ?_)
  · refine Eq.trans (x0 (h := 18) hT rfl) ?_
    exact x203c (h := 19) hT rfl (by decide)
  · refine Eq.trans (x0 (h := 16) hT rfl) ?_
    refine Eq.trans (x18 (h := 17) hT rfl) ?_
    exact x203c (h := 19) hT rfl (by decide)
/-! WordLinks$Linker.spanEnd(I)I -/
set_option maxRecDepth 100000 in
theorem e_10 {P : zP} {d : zD P} {a0 : Int} : MM P 10 [(0, a0)] d = some ((((zdiv 0 a0 3) + (zdiv 1 a0 3)) + 1), d) := by
  have hT := cT_10
  refine Eq.trans (MM_def sm_10 (Nat.le_of_ble_eq_true rfl)) ?_
  change zB P 10 0 [(0, a0)] [] d = _
  refine Eq.trans (x1 (h := 0) hT rfl rfl (by decide)) ?_
  refine Eq.trans (x0 (h := 1) hT rfl) ?_
  refine Eq.trans (x6c (h := 2) hT rfl (by decide)) ?_
  refine Eq.trans (x1 (h := 3) hT rfl rfl (by decide)) ?_
  refine Eq.trans (x0 (h := 4) hT rfl) ?_
  refine Eq.trans (x6c (h := 5) hT rfl (by decide)) ?_
  refine Eq.trans (x5_0 (h := 6) hT rfl) ?_
  refine Eq.trans (x0 (h := 7) hT rfl) ?_
  refine Eq.trans (x5_0 (h := 8) hT rfl) ?_
  exact x201 (h := 9) hT rfl
/-! WordLinks$Linker.spanStart(I)I -/
set_option maxRecDepth 100000 in
theorem e_11 {P : zP} {d : zD P} {a0 : Int} : MM P 11 [(0, a0)] d = some ((zdiv 0 a0 3), d) := by
  have hT := cT_11
  refine Eq.trans (MM_def sm_11 (Nat.le_of_ble_eq_true rfl)) ?_
  change zB P 11 0 [(0, a0)] [] d = _
  refine Eq.trans (x1 (h := 0) hT rfl rfl (by decide)) ?_
  refine Eq.trans (x0 (h := 1) hT rfl) ?_
  refine Eq.trans (x6c (h := 2) hT rfl (by decide)) ?_
  exact x201 (h := 3) hT rfl
/-! WordLinks$Matcher.wholeCost()I -/
set_option maxRecDepth 100000 in
theorem e_12 {P : zP} {d : zD P} {a0 : Nat} (ha0 : zkd a0 = 2) : MM P 12 [(2, ((a0 : Nat) : Int))] d = (if zin 0 81 then some ((d.m ((a0 + 1)) (zix 0)), d) else none) := by
  have hT := cT_12
  refine Eq.trans (MM_def sm_12 (Nat.le_of_ble_eq_true rfl)) ?_
  change zB P 12 0 [(2, ((a0 : Nat) : Int))] [] d = _
  refine Eq.trans (x1 (h := 0) hT rfl rfl (by decide)) ?_
  refine Eq.trans (x21r (r := a0) (cl := 2) (o := 1) (h := 1) hT rfl ha0 (by decide) rfl) ?_
  refine Eq.trans (x0 (h := 2) hT rfl) ?_
  refine Eq.trans (x24 (r := (a0 + 1)) (n := 81) (h := 3) hT rfl (Or.inl (kd_2_0 ha0)) (ln_2_0 ha0)) ?_
  refine xig (fun hz1 => ?_)
  exact x201 (h := 4) hT rfl
/-! WordLinks$Parted.allWeights()J -/
set_option maxRecDepth 100000 in
theorem e_13 {P : zP} {d : zD P} {a0 : Nat} (ha0 : zkd a0 = 3) : MM P 13 [(2, ((a0 : Nat) : Int))] d = zB P 13 4 [(2, ((a0 : Nat) : Int)), (1, 0), (3, 0), (0, 0)] [] d := by
  have hT := cT_13
  refine Eq.trans (MM_def sm_13 (Nat.le_of_ble_eq_true rfl)) ?_
  change zB P 13 0 [(2, ((a0 : Nat) : Int)), (3, 0), (3, 0), (3, 0)] [] d = _
  refine Eq.trans (x0 (h := 0) hT rfl) ?_
  refine Eq.trans (x3 (ls' := [(2, ((a0 : Nat) : Int)), (1, 0), (3, 0), (3, 0)]) (h := 1) hT rfl (Nat.le_of_ble_eq_true rfl) rfl) ?_
  refine Eq.trans (x0 (h := 2) hT rfl) ?_
  refine Eq.trans (x2 (ls' := [(2, ((a0 : Nat) : Int)), (1, 0), (3, 0), (0, 0)]) (h := 3) hT rfl (Nat.le_of_ble_eq_true rfl) rfl) ?_
  exact rfl
set_option maxRecDepth 100000 in
theorem q_13_4 {P : zP} {d : zD P} {a0 : Nat} {a1 : Int} {g2 : zV} {a3 : Int} (ha0 : zkd a0 = 3) : zB P 13 4 [(2, ((a0 : Nat) : Int)), (1, a1), g2, (0, a3)] [] d = (if wr ((d.m a0 3)) ≤ wr a3 then some (a1, d) else (if zin a3 40 then zB P 13 4 [(2, ((a0 : Nat) : Int)), (1, (a1 + (d.m ((a0 + 1)) (zix a3)))), (3, 0), (0, (a3 + 1))] [] d else none)) := by
  have hT := cT_13
  refine Eq.trans (x1 (h := 4) hT rfl rfl (by decide)) ?_
  refine Eq.trans (x1 (h := 5) hT rfl rfl (by decide)) ?_
  refine Eq.trans (x21 (r := a0) (cl := 3) (h := 6) hT rfl ha0) ?_
  refine Eq.trans (x17_3 (h := 7) hT rfl) ?_
  refine xit (fun _ => ?_) (fun _ => ?_)
  · refine Eq.trans (x1 (h := 17) hT rfl rfl (by decide)) ?_
    exact x202 (h := 18) hT rfl
  · refine Eq.trans (x1 (h := 8) hT rfl rfl (by decide)) ?_
    refine Eq.trans (x1 (h := 9) hT rfl rfl (by decide)) ?_
    refine Eq.trans (x21r (r := a0) (cl := 3) (o := 1) (h := 10) hT rfl ha0 (by decide) rfl) ?_
    refine Eq.trans (x1 (h := 11) hT rfl rfl (by decide)) ?_
    refine Eq.trans (x24 (r := (a0 + 1)) (n := 40) (h := 12) hT rfl (Or.inl (kd_3_0 ha0)) (ln_3_0 ha0)) ?_
    refine xig (fun hz1 => ?_)
    refine Eq.trans (x8_0 (h := 13) hT rfl) ?_
    refine Eq.trans (x3 (ls' := [(2, ((a0 : Nat) : Int)), (1, (a1 + (d.m ((a0 + 1)) (zix a3)))), (3, 0), (0, a3)]) (h := 14) hT rfl (Nat.le_of_ble_eq_true rfl) rfl) ?_
    refine Eq.trans (x4 (ls' := [(2, ((a0 : Nat) : Int)), (1, (a1 + (d.m ((a0 + 1)) (zix a3)))), (3, 0), (0, (a3 + 1))]) (h := 15) hT rfl rfl rfl) ?_
    refine Eq.trans (x18 (h := 16) hT rfl) ?_
    exact rfl
/-! WordLinks$Parted.clear()V -/
set_option maxRecDepth 100000 in
theorem e_14 {P : zP} {d : zD P} {a0 : Nat} (ha0 : zkd a0 = 3) : MM P 14 [(2, ((a0 : Nat) : Int))] d = some (0, (d.up a0 3 0)) := by
  have hT := cT_14
  refine Eq.trans (MM_def sm_14 (Nat.le_of_ble_eq_true rfl)) ?_
  change zB P 14 0 [(2, ((a0 : Nat) : Int))] [] d = _
  refine Eq.trans (x1 (h := 0) hT rfl rfl (by decide)) ?_
  refine Eq.trans (x0 (h := 1) hT rfl) ?_
  refine Eq.trans (x22 (r := a0) (cl := 3) (h := 2) hT rfl ha0 (by decide) rfl (by decide)) ?_
  exact x20 (h := 3) hT rfl
/-! WordLinks$Parted.dealOneMore()V -/
set_option maxRecDepth 100000 in
theorem e_15 {P : zP} {d : zD P} {a0 : Nat} (ha0 : zkd a0 = 3) : MM P 15 [(2, ((a0 : Nat) : Int))] d = zB P 15 4 [(2, ((a0 : Nat) : Int)), (0, 0), (0, 1)] [] d := by
  have hT := cT_15
  refine Eq.trans (MM_def sm_15 (Nat.le_of_ble_eq_true rfl)) ?_
  change zB P 15 0 [(2, ((a0 : Nat) : Int)), (3, 0), (3, 0)] [] d = _
  refine Eq.trans (x0 (h := 0) hT rfl) ?_
  refine Eq.trans (x2 (ls' := [(2, ((a0 : Nat) : Int)), (0, 0), (3, 0)]) (h := 1) hT rfl (Nat.le_of_ble_eq_true rfl) rfl) ?_
  refine Eq.trans (x0 (h := 2) hT rfl) ?_
  refine Eq.trans (x2 (ls' := [(2, ((a0 : Nat) : Int)), (0, 0), (0, 1)]) (h := 3) hT rfl (Nat.le_of_ble_eq_true rfl) rfl) ?_
  exact rfl
set_option maxRecDepth 100000 in
theorem q_15_4 {P : zP} {d : zD P} {a0 : Nat} {a1 : Int} {a2 : Int} (ha0 : zkd a0 = 3) : zB P 15 4 [(2, ((a0 : Nat) : Int)), (0, a1), (0, a2)] [] d = (if wr ((d.m a0 3)) ≤ wr a2 then (if zin a1 40 then (if zin a1 40 then (if zin a1 40 then some (0, (((d.up ((a0 + 3)) (zix a1) (((d.m ((a0 + 3)) (zix a1)) + 1)))).up ((a0 + 2)) (zix a1) ((-1)))) else none) else none) else none) else (if zin a2 40 then (if zin a1 40 then (if wrl ((d.m ((a0 + 2)) (zix a2))) ≤ wrl ((d.m ((a0 + 2)) (zix a1))) then zB P 15 4 [(2, ((a0 : Nat) : Int)), (0, a1), (0, (a2 + 1))] [] d else zB P 15 4 [(2, ((a0 : Nat) : Int)), (0, a2), (0, (a2 + 1))] [] d) else none) else none)) := by
  have hT := cT_15
  refine Eq.trans (x1 (h := 4) hT rfl rfl (by decide)) ?_
  refine Eq.trans (x1 (h := 5) hT rfl rfl (by decide)) ?_
  refine Eq.trans (x21 (r := a0) (cl := 3) (h := 6) hT rfl ha0) ?_
  refine Eq.trans (x17_3 (h := 7) hT rfl) ?_
  refine xit (fun _ => ?_) (fun _ => ?_)
  · refine Eq.trans (x1 (h := 22) hT rfl rfl (by decide)) ?_
    refine Eq.trans (x21r (r := a0) (cl := 3) (o := 3) (h := 23) hT rfl ha0 (by decide) rfl) ?_
    refine Eq.trans (x1 (h := 24) hT rfl rfl (by decide)) ?_
    refine Eq.trans (x14 (h := 25) hT rfl (by decide)) ?_
    refine Eq.trans (x24 (r := (a0 + 3)) (n := 40) (h := 26) hT rfl (Or.inl (kd_3_2 ha0)) (ln_3_2 ha0)) ?_
    refine xig (fun hz1 => ?_)
    refine Eq.trans (x0 (h := 27) hT rfl) ?_
    refine Eq.trans (x5_0 (h := 28) hT rfl) ?_
    refine Eq.trans (x25a (r := (a0 + 3)) (n := 40) (h := 29) hT rfl (kd_3_2 ha0) (ln_3_2 ha0) (by decide) rfl) ?_
    refine xig (fun hz2 => ?_)
    refine Eq.trans (x1 (h := 30) hT rfl rfl (by decide)) ?_
    refine Eq.trans (x21r (r := a0) (cl := 3) (o := 2) (h := 31) hT rfl ha0 (by decide) rfl) ?_
    refine Eq.trans (x1 (h := 32) hT rfl rfl (by decide)) ?_
    refine Eq.trans (x0 (h := 33) hT rfl) ?_
    refine Eq.trans (x25a (r := (a0 + 2)) (n := 40) (h := 34) hT rfl (kd_3_1 ha0) (ln_3_1 ha0) (by decide) rfl) ?_
    refine xig (fun hz3 => ?_)
    exact x20 (h := 35) hT rfl
  · refine Eq.trans (x1 (h := 8) hT rfl rfl (by decide)) ?_
    refine Eq.trans (x21r (r := a0) (cl := 3) (o := 2) (h := 9) hT rfl ha0 (by decide) rfl) ?_
    refine Eq.trans (x1 (h := 10) hT rfl rfl (by decide)) ?_
    refine Eq.trans (x24 (r := (a0 + 2)) (n := 40) (h := 11) hT rfl (Or.inl (kd_3_1 ha0)) (ln_3_1 ha0)) ?_
    refine xig (fun hz4 => ?_)
    refine Eq.trans (x1 (h := 12) hT rfl rfl (by decide)) ?_
    refine Eq.trans (x21r (r := a0) (cl := 3) (o := 2) (h := 13) hT rfl ha0 (by decide) rfl) ?_
    refine Eq.trans (x1 (h := 14) hT rfl rfl (by decide)) ?_
    refine Eq.trans (x24 (r := (a0 + 2)) (n := 40) (h := 15) hT rfl (Or.inl (kd_3_1 ha0)) (ln_3_1 ha0)) ?_
    refine xig (fun hz5 => ?_)
    refine Eq.trans (x116_5 (h := 16) hT rfl rfl) ?_
    refine xit (fun _ => ?_) (fun _ => ?_)
    · refine Eq.trans (x4 (ls' := [(2, ((a0 : Nat) : Int)), (0, a1), (0, (a2 + 1))]) (h := 20) hT rfl rfl rfl) ?_
      refine Eq.trans (x18 (h := 21) hT rfl) ?_
      exact rfl
    · refine Eq.trans (x1 (h := 18) hT rfl rfl (by decide)) ?_
      refine Eq.trans (x2 (ls' := [(2, ((a0 : Nat) : Int)), (0, a2), (0, a2)]) (h := 19) hT rfl (Nat.le_of_ble_eq_true rfl) rfl) ?_
      refine Eq.trans (x4 (ls' := [(2, ((a0 : Nat) : Int)), (0, a2), (0, (a2 + 1))]) (h := 20) hT rfl rfl rfl) ?_
      refine Eq.trans (x18 (h := 21) hT rfl) ?_
      exact rfl
/-! WordLinks$Parted.got(I)I -/
set_option maxRecDepth 100000 in
theorem e_16 {P : zP} {d : zD P} {a0 : Nat} {a1 : Int} (ha0 : zkd a0 = 3) : MM P 16 [(2, ((a0 : Nat) : Int)), (0, a1)] d = (if wr a1 < 0 then some (0, d) else (if wr ((d.m a0 3)) ≤ wr a1 then some (0, d) else (if zin a1 40 then some ((d.m ((a0 + 3)) (zix a1)), d) else none))) := by
  have hT := cT_16
  refine Eq.trans (MM_def sm_16 (Nat.le_of_ble_eq_true rfl)) ?_
  change zB P 16 0 [(2, ((a0 : Nat) : Int)), (0, a1)] [] d = _
  refine Eq.trans (x1 (h := 0) hT rfl rfl (by decide)) ?_
  refine Eq.trans (x16_2 (h := 1) hT rfl) ?_
  refine xit (fun _ => ?_) (fun _ => ?_)
  · refine Eq.trans (x0 (h := 11) hT rfl) ?_
    exact x201 (h := 12) hT rfl
  · refine Eq.trans (x1 (h := 2) hT rfl rfl (by decide)) ?_
    refine Eq.trans (x1 (h := 3) hT rfl rfl (by decide)) ?_
    refine Eq.trans (x21 (r := a0) (cl := 3) (h := 4) hT rfl ha0) ?_
    refine Eq.trans (x17_3 (h := 5) hT rfl) ?_
    refine xit (fun _ => ?_) (fun _ => ?_)
    · refine Eq.trans (x0 (h := 11) hT rfl) ?_
      exact x201 (h := 12) hT rfl
    · refine Eq.trans (x1 (h := 6) hT rfl rfl (by decide)) ?_
      refine Eq.trans (x21r (r := a0) (cl := 3) (o := 3) (h := 7) hT rfl ha0 (by decide) rfl) ?_
      refine Eq.trans (x1 (h := 8) hT rfl rfl (by decide)) ?_
      refine Eq.trans (x24 (r := (a0 + 3)) (n := 40) (h := 9) hT rfl (Or.inl (kd_3_2 ha0)) (ln_3_2 ha0)) ?_
      refine xig (fun hz1 => ?_)
      refine Eq.trans (x18 (h := 10) hT rfl) ?_
      exact x201 (h := 12) hT rfl
/-! WordLinks$Parted.weigh(J)V -/
set_option maxRecDepth 100000 in
theorem e_17 {P : zP} {d : zD P} {a0 : Nat} {a1 : Int} (ha0 : zkd a0 = 3) : MM P 17 [(2, ((a0 : Nat) : Int)), (1, a1)] d = (if wr 40 ≤ wr ((d.m a0 3)) then some (0, d) else (if zin ((d.m a0 3)) 40 then some (0, (((d.up ((a0 + 1)) (zix ((d.m a0 3))) a1)).up a0 3 (((((d.up ((a0 + 1)) (zix ((d.m a0 3))) a1)).m a0 3) + 1)))) else none)) := by
  have hT := cT_17
  refine Eq.trans (MM_def sm_17 (Nat.le_of_ble_eq_true rfl)) ?_
  change zB P 17 0 [(2, ((a0 : Nat) : Int)), (1, a1), (3, 0)] [] d = _
  refine Eq.trans (x1 (h := 0) hT rfl rfl (by decide)) ?_
  refine Eq.trans (x21 (r := a0) (cl := 3) (h := 1) hT rfl ha0) ?_
  refine Eq.trans (x0 (h := 2) hT rfl) ?_
  refine Eq.trans (x17_3 (h := 3) hT rfl) ?_
  refine xit (fun _ => ?_) (fun _ => ?_)
  · exact x20 (h := 16) hT rfl
  · refine Eq.trans (x1 (h := 4) hT rfl rfl (by decide)) ?_
    refine Eq.trans (x21r (r := a0) (cl := 3) (o := 1) (h := 5) hT rfl ha0 (by decide) rfl) ?_
    refine Eq.trans (x1 (h := 6) hT rfl rfl (by decide)) ?_
    refine Eq.trans (x21 (r := a0) (cl := 3) (h := 7) hT rfl ha0) ?_
    refine Eq.trans (x1 (h := 8) hT rfl rfl (by decide)) ?_
    refine Eq.trans (x25a (r := (a0 + 1)) (n := 40) (h := 9) hT rfl (kd_3_0 ha0) (ln_3_0 ha0) (by decide) rfl) ?_
    refine xig (fun hz1 => ?_)
    refine Eq.trans (x1 (h := 10) hT rfl rfl (by decide)) ?_
    refine Eq.trans (x13 (h := 11) hT rfl (by decide)) ?_
    refine Eq.trans (x21 (r := a0) (cl := 3) (h := 12) hT rfl ha0) ?_
    refine Eq.trans (x0 (h := 13) hT rfl) ?_
    refine Eq.trans (x5_0 (h := 14) hT rfl) ?_
    refine Eq.trans (x22 (r := a0) (cl := 3) (h := 15) hT rfl ha0 (by decide) rfl (by decide)) ?_
    exact x20 (h := 16) hT rfl
/-! WordLinks$Phrases.placeFor(J)I -/
set_option maxRecDepth 100000 in
theorem e_18 {P : zP} {d : zD P} {a0 : Nat} {a1 : Int} (ha0 : zkd a0 = 4) : MM P 18 [(2, ((a0 : Nat) : Int)), (1, a1)] d = zB P 18 7 [(2, ((a0 : Nat) : Int)), (1, a1), (3, 0), (0, 0), (0, (d.m a0 2)), (0, 0), (3, 0)] [] d := by
  have hT := cT_18
  refine Eq.trans (MM_def sm_18 (Nat.le_of_ble_eq_true rfl)) ?_
  change zB P 18 0 [(2, ((a0 : Nat) : Int)), (1, a1), (3, 0), (3, 0), (3, 0), (3, 0), (3, 0)] [] d = _
  refine Eq.trans (x0 (h := 0) hT rfl) ?_
  refine Eq.trans (x2 (ls' := [(2, ((a0 : Nat) : Int)), (1, a1), (3, 0), (0, 0), (3, 0), (3, 0), (3, 0)]) (h := 1) hT rfl (Nat.le_of_ble_eq_true rfl) rfl) ?_
  refine Eq.trans (x1 (h := 2) hT rfl rfl (by decide)) ?_
  refine Eq.trans (x21 (r := a0) (cl := 4) (h := 3) hT rfl ha0) ?_
  refine Eq.trans (x2 (ls' := [(2, ((a0 : Nat) : Int)), (1, a1), (3, 0), (0, 0), (0, (d.m a0 2)), (3, 0), (3, 0)]) (h := 4) hT rfl (Nat.le_of_ble_eq_true rfl) rfl) ?_
  refine Eq.trans (x0 (h := 5) hT rfl) ?_
  refine Eq.trans (x2 (ls' := [(2, ((a0 : Nat) : Int)), (1, a1), (3, 0), (0, 0), (0, (d.m a0 2)), (0, 0), (3, 0)]) (h := 6) hT rfl (Nat.le_of_ble_eq_true rfl) rfl) ?_
  exact rfl
set_option maxRecDepth 100000 in
theorem q_18_7 {P : zP} {d : zD P} {a0 : Nat} {a1 : Int} {g2 : zV} {a3 : Int} {a4 : Int} {a5 : Int} {g6 : zV} (ha0 : zkd a0 = 4) : zB P 18 7 [(2, ((a0 : Nat) : Int)), (1, a1), g2, (0, a3), (0, a4), (0, a5), g6] [] d = (if wr a4 ≤ wr a3 then some (a3, d) else (if wr 32 ≤ wr a5 then some (a3, d) else (if zin ((zdiv 0 ((a3 + a4)) 2)) 5400 then (if wrl a1 ≤ wrl ((d.m ((a0 + 1)) (zix ((zdiv 0 ((a3 + a4)) 2))))) then zB P 18 7 [(2, ((a0 : Nat) : Int)), (1, a1), g2, (0, a3), (0, (zdiv 0 ((a3 + a4)) 2)), (0, (a5 + 1)), (0, (zdiv 0 ((a3 + a4)) 2))] [] d else zB P 18 7 [(2, ((a0 : Nat) : Int)), (1, a1), (if (g2).1 = 1 then (3, 0) else g2), (0, ((zdiv 0 ((a3 + a4)) 2) + 1)), (0, a4), (0, (a5 + 1)), (0, (zdiv 0 ((a3 + a4)) 2))] [] d) else none))) := by
  have hT := cT_18
  refine Eq.trans (x1 (h := 7) hT rfl rfl (by decide)) ?_
  refine Eq.trans (x1 (h := 8) hT rfl rfl (by decide)) ?_
  refine Eq.trans (x17_3 (h := 9) hT rfl) ?_
  refine xit (fun _ => ?_) (fun _ => ?_)
  · refine Eq.trans (x1 (h := 35) hT rfl rfl (by decide)) ?_
    exact x201 (h := 36) hT rfl
  · refine Eq.trans (x1 (h := 10) hT rfl rfl (by decide)) ?_
    refine Eq.trans (x0 (h := 11) hT rfl) ?_
    refine Eq.trans (x17_3 (h := 12) hT rfl) ?_
    refine xit (fun _ => ?_) (fun _ => ?_)
    · refine Eq.trans (x1 (h := 35) hT rfl rfl (by decide)) ?_
      exact x201 (h := 36) hT rfl
    · refine Eq.trans (x1 (h := 13) hT rfl rfl (by decide)) ?_
      refine Eq.trans (x1 (h := 14) hT rfl rfl (by decide)) ?_
      refine Eq.trans (x5_0 (h := 15) hT rfl) ?_
      refine Eq.trans (x0 (h := 16) hT rfl) ?_
      refine Eq.trans (x6c (h := 17) hT rfl (by decide)) ?_
      refine Eq.trans (x2 (ls' := [(2, ((a0 : Nat) : Int)), (1, a1), g2, (0, a3), (0, a4), (0, a5), (0, (zdiv 0 ((a3 + a4)) 2))]) (h := 18) hT rfl (Nat.le_of_ble_eq_true rfl) rfl) ?_
      refine Eq.trans (x1 (h := 19) hT rfl rfl (by decide)) ?_
      refine Eq.trans (x21r (r := a0) (cl := 4) (o := 1) (h := 20) hT rfl ha0 (by decide) rfl) ?_
      refine Eq.trans (x1 (h := 21) hT rfl rfl (by decide)) ?_
      refine Eq.trans (x24 (r := (a0 + 1)) (n := 5400) (h := 22) hT rfl (Or.inl (kd_4_0 ha0)) (ln_4_0 ha0)) ?_
      refine xig (fun hz1 => ?_)
      refine Eq.trans (x1 (h := 23) hT rfl rfl (by decide)) ?_
      refine Eq.trans (x116_3 (h := 24) hT rfl rfl) ?_
      refine xit (fun _ => ?_) (fun _ => ?_)
      · refine Eq.trans (x1 (h := 31) hT rfl rfl (by decide)) ?_
        refine Eq.trans (x2 (ls' := [(2, ((a0 : Nat) : Int)), (1, a1), g2, (0, a3), (0, (zdiv 0 ((a3 + a4)) 2)), (0, a5), (0, (zdiv 0 ((a3 + a4)) 2))]) (h := 32) hT rfl (Nat.le_of_ble_eq_true rfl) rfl) ?_
        refine Eq.trans (x4 (ls' := [(2, ((a0 : Nat) : Int)), (1, a1), g2, (0, a3), (0, (zdiv 0 ((a3 + a4)) 2)), (0, (a5 + 1)), (0, (zdiv 0 ((a3 + a4)) 2))]) (h := 33) hT rfl rfl rfl) ?_
        refine Eq.trans (x18 (h := 34) hT rfl) ?_
        exact rfl
      · refine Eq.trans (x1 (h := 26) hT rfl rfl (by decide)) ?_
        refine Eq.trans (x0 (h := 27) hT rfl) ?_
        refine Eq.trans (x5_0 (h := 28) hT rfl) ?_
        refine Eq.trans (x2 (ls' := [(2, ((a0 : Nat) : Int)), (1, a1), (if (g2).1 = 1 then (3, 0) else g2), (0, ((zdiv 0 ((a3 + a4)) 2) + 1)), (0, a4), (0, a5), (0, (zdiv 0 ((a3 + a4)) 2))]) (h := 29) hT rfl (Nat.le_of_ble_eq_true rfl) rfl) ?_
        refine Eq.trans (x18 (h := 30) hT rfl) ?_
        refine Eq.trans (x4 (ls' := [(2, ((a0 : Nat) : Int)), (1, a1), (if (g2).1 = 1 then (3, 0) else g2), (0, ((zdiv 0 ((a3 + a4)) 2) + 1)), (0, a4), (0, (a5 + 1)), (0, (zdiv 0 ((a3 + a4)) 2))]) (h := 33) hT rfl rfl rfl) ?_
        refine Eq.trans (x18 (h := 34) hT rfl) ?_
        exact rfl
/-! WordLinks$Phrases.rowBoxes(I)I -/
set_option maxRecDepth 100000 in
theorem e_19 {P : zP} {d : zD P} {a0 : Nat} {a1 : Int} (ha0 : zkd a0 = 4) : MM P 19 [(2, ((a0 : Nat) : Int)), (0, a1)] d = (if zin a1 5400 then zB P 19 11 [(2, ((a0 : Nat) : Int)), (0, a1), (1, (zlsh 1 ((d.m ((a0 + 1)) (zix a1))) 18)), (3, 0), (0, 0), (0, 0)] [] d else none) := by
  have hT := cT_19
  refine Eq.trans (MM_def sm_19 (Nat.le_of_ble_eq_true rfl)) ?_
  change zB P 19 0 [(2, ((a0 : Nat) : Int)), (0, a1), (3, 0), (3, 0), (3, 0), (3, 0)] [] d = _
  refine Eq.trans (x1 (h := 0) hT rfl rfl (by decide)) ?_
  refine Eq.trans (x21r (r := a0) (cl := 4) (o := 1) (h := 1) hT rfl ha0 (by decide) rfl) ?_
  refine Eq.trans (x1 (h := 2) hT rfl rfl (by decide)) ?_
  refine Eq.trans (x24 (r := (a0 + 1)) (n := 5400) (h := 3) hT rfl (Or.inl (kd_4_0 ha0)) (ln_4_0 ha0)) ?_
  refine xig (fun hz1 => ?_)
  refine Eq.trans (x0 (h := 4) hT rfl) ?_
  refine Eq.trans (x10 (h := 5) hT rfl) ?_
  refine Eq.trans (x3 (ls' := [(2, ((a0 : Nat) : Int)), (0, a1), (1, (zlsh 1 ((d.m ((a0 + 1)) (zix a1))) 18)), (3, 0), (3, 0), (3, 0)]) (h := 6) hT rfl (Nat.le_of_ble_eq_true rfl) rfl) ?_
  refine Eq.trans (x0 (h := 7) hT rfl) ?_
  refine Eq.trans (x2 (ls' := [(2, ((a0 : Nat) : Int)), (0, a1), (1, (zlsh 1 ((d.m ((a0 + 1)) (zix a1))) 18)), (3, 0), (0, 0), (3, 0)]) (h := 8) hT rfl (Nat.le_of_ble_eq_true rfl) rfl) ?_
  refine Eq.trans (x0 (h := 9) hT rfl) ?_
  refine Eq.trans (x2 (ls' := [(2, ((a0 : Nat) : Int)), (0, a1), (1, (zlsh 1 ((d.m ((a0 + 1)) (zix a1))) 18)), (3, 0), (0, 0), (0, 0)]) (h := 10) hT rfl (Nat.le_of_ble_eq_true rfl) rfl) ?_
  exact rfl
set_option maxRecDepth 100000 in
theorem q_19_11 {P : zP} {d : zD P} {a0 : Nat} {g1 : zV} {a2 : Int} {g3 : zV} {a4 : Int} {a5 : Int} (ha0 : zkd a0 = 4) : zB P 19 11 [(2, ((a0 : Nat) : Int)), g1, (1, a2), g3, (0, a4), (0, a5)] [] d = (if wr ((d.m a0 2)) ≤ wr a5 then some (a4, d) else (if zin a5 5400 then (if wrl ((zlsh 1 ((d.m ((a0 + 1)) (zix a5))) 18)) ≠ wrl a2 then zB P 19 11 [(2, ((a0 : Nat) : Int)), g1, (1, a2), g3, (0, a4), (0, (a5 + 1))] [] d else (if zin a5 5400 then zB P 19 11 [(2, ((a0 : Nat) : Int)), g1, (1, a2), (if (g3).1 = 1 then (3, 0) else g3), (0, (a4 + (d.m ((a0 + 2)) (zix a5)))), (0, (a5 + 1))] [] d else none)) else none)) := by
  have hT := cT_19
  refine Eq.trans (x1 (h := 11) hT rfl rfl (by decide)) ?_
  refine Eq.trans (x1 (h := 12) hT rfl rfl (by decide)) ?_
  refine Eq.trans (x21 (r := a0) (cl := 4) (h := 13) hT rfl ha0) ?_
  refine Eq.trans (x17_3 (h := 14) hT rfl) ?_
  refine xit (fun _ => ?_) (fun _ => ?_)
  · refine Eq.trans (x1 (h := 33) hT rfl rfl (by decide)) ?_
    exact x201 (h := 34) hT rfl
  · refine Eq.trans (x1 (h := 15) hT rfl rfl (by decide)) ?_
    refine Eq.trans (x21r (r := a0) (cl := 4) (o := 1) (h := 16) hT rfl ha0 (by decide) rfl) ?_
    refine Eq.trans (x1 (h := 17) hT rfl rfl (by decide)) ?_
    refine Eq.trans (x24 (r := (a0 + 1)) (n := 5400) (h := 18) hT rfl (Or.inl (kd_4_0 ha0)) (ln_4_0 ha0)) ?_
    refine xig (fun hz2 => ?_)
    refine Eq.trans (x0 (h := 19) hT rfl) ?_
    refine Eq.trans (x10 (h := 20) hT rfl) ?_
    refine Eq.trans (x1 (h := 21) hT rfl rfl (by decide)) ?_
    refine Eq.trans (x116_1 (h := 22) hT rfl rfl) ?_
    refine xit (fun _ => ?_) (fun _ => ?_)
    · refine Eq.trans (x4 (ls' := [(2, ((a0 : Nat) : Int)), g1, (1, a2), g3, (0, a4), (0, (a5 + 1))]) (h := 31) hT rfl rfl rfl) ?_
      refine Eq.trans (x18 (h := 32) hT rfl) ?_
      exact rfl
    · refine Eq.trans (x1 (h := 24) hT rfl rfl (by decide)) ?_
      refine Eq.trans (x1 (h := 25) hT rfl rfl (by decide)) ?_
      refine Eq.trans (x21r (r := a0) (cl := 4) (o := 2) (h := 26) hT rfl ha0 (by decide) rfl) ?_
      refine Eq.trans (x1 (h := 27) hT rfl rfl (by decide)) ?_
      refine Eq.trans (x24 (r := (a0 + 2)) (n := 5400) (h := 28) hT rfl (Or.inl (kd_4_1 ha0)) (ln_4_1 ha0)) ?_
      refine xig (fun hz3 => ?_)
      refine Eq.trans (x5_0 (h := 29) hT rfl) ?_
      refine Eq.trans (x2 (ls' := [(2, ((a0 : Nat) : Int)), g1, (1, a2), (if (g3).1 = 1 then (3, 0) else g3), (0, (a4 + (d.m ((a0 + 2)) (zix a5)))), (0, a5)]) (h := 30) hT rfl (Nat.le_of_ble_eq_true rfl) rfl) ?_
      refine Eq.trans (x4 (ls' := [(2, ((a0 : Nat) : Int)), g1, (1, a2), (if (g3).1 = 1 then (3, 0) else g3), (0, (a4 + (d.m ((a0 + 2)) (zix a5)))), (0, (a5 + 1))]) (h := 31) hT rfl rfl rfl) ?_
      refine Eq.trans (x18 (h := 32) hT rfl) ?_
      exact rfl
/-! WordLinks$Phrases.wordOf(III)I -/
set_option maxRecDepth 100000 in
theorem e_20 {P : zP} {d : zD P} {a0 : Nat} {a1 : Int} {a2 : Int} {a3 : Int} (ha0 : zkd a0 = 4) : MM P 20 [(2, ((a0 : Nat) : Int)), (0, a1), (0, a2), (0, a3)] d = (if wr a2 ≠ 0 then (if zin a1 5400 then some (((zbin 3 ((zlsh 1 ((d.m ((a0 + 1)) (zix a1))) ((6 * (2 - a3))))) 63) - 1), d) else none) else (if zin a1 5400 then some (((zbin 3 ((zlsh 1 ((zlsh 1 ((d.m ((a0 + 1)) (zix a1))) 18)) ((6 * (2 - a3))))) 63) - 1), d) else none)) := by
  have hT := cT_20
  refine Eq.trans (MM_def sm_20 (Nat.le_of_ble_eq_true rfl)) ?_
  change zB P 20 0 [(2, ((a0 : Nat) : Int)), (0, a1), (0, a2), (0, a3), (3, 0), (3, 0)] [] d = _
  refine Eq.trans (x1 (h := 0) hT rfl rfl (by decide)) ?_
  refine Eq.trans (x16_1 (h := 1) hT rfl) ?_
  refine xit (fun _ => ?_) (fun _ => ?_)
  · refine Eq.trans (x1 (h := 9) hT rfl rfl (by decide)) ?_
    refine Eq.trans (x21r (r := a0) (cl := 4) (o := 1) (h := 10) hT rfl ha0 (by decide) rfl) ?_
    refine Eq.trans (x1 (h := 11) hT rfl rfl (by decide)) ?_
    refine Eq.trans (x24 (r := (a0 + 1)) (n := 5400) (h := 12) hT rfl (Or.inl (kd_4_0 ha0)) (ln_4_0 ha0)) ?_
    refine xig (fun hz1 => ?_)
    refine Eq.trans (x3 (ls' := [(2, ((a0 : Nat) : Int)), (0, a1), (0, a2), (0, a3), (1, (d.m ((a0 + 1)) (zix a1))), (3, 0)]) (h := 13) hT rfl (Nat.le_of_ble_eq_true rfl) rfl) ?_
    refine Eq.trans (x1 (h := 14) hT rfl rfl (by decide)) ?_
    refine Eq.trans (x0 (h := 15) hT rfl) ?_
    refine Eq.trans (x0 (h := 16) hT rfl) ?_
    refine Eq.trans (x1 (h := 17) hT rfl rfl (by decide)) ?_
    refine Eq.trans (x5_1 (h := 18) hT rfl) ?_
    refine Eq.trans (x5_2 (h := 19) hT rfl) ?_
    refine Eq.trans (x10 (h := 20) hT rfl) ?_
    refine Eq.trans (x121 (h := 21) hT rfl) ?_
    refine Eq.trans (x0 (h := 22) hT rfl) ?_
    refine Eq.trans (x5n (h := 23) hT rfl) ?_
    refine Eq.trans (x0 (h := 24) hT rfl) ?_
    refine Eq.trans (x5_1 (h := 25) hT rfl) ?_
    exact x201 (h := 26) hT rfl
  · refine Eq.trans (x1 (h := 2) hT rfl rfl (by decide)) ?_
    refine Eq.trans (x21r (r := a0) (cl := 4) (o := 1) (h := 3) hT rfl ha0 (by decide) rfl) ?_
    refine Eq.trans (x1 (h := 4) hT rfl rfl (by decide)) ?_
    refine Eq.trans (x24 (r := (a0 + 1)) (n := 5400) (h := 5) hT rfl (Or.inl (kd_4_0 ha0)) (ln_4_0 ha0)) ?_
    refine xig (fun hz2 => ?_)
    refine Eq.trans (x0 (h := 6) hT rfl) ?_
    refine Eq.trans (x10 (h := 7) hT rfl) ?_
    refine Eq.trans (x18 (h := 8) hT rfl) ?_
    refine Eq.trans (x3 (ls' := [(2, ((a0 : Nat) : Int)), (0, a1), (0, a2), (0, a3), (1, (zlsh 1 ((d.m ((a0 + 1)) (zix a1))) 18)), (3, 0)]) (h := 13) hT rfl (Nat.le_of_ble_eq_true rfl) rfl) ?_
    refine Eq.trans (x1 (h := 14) hT rfl rfl (by decide)) ?_
    refine Eq.trans (x0 (h := 15) hT rfl) ?_
    refine Eq.trans (x0 (h := 16) hT rfl) ?_
    refine Eq.trans (x1 (h := 17) hT rfl rfl (by decide)) ?_
    refine Eq.trans (x5_1 (h := 18) hT rfl) ?_
    refine Eq.trans (x5_2 (h := 19) hT rfl) ?_
    refine Eq.trans (x10 (h := 20) hT rfl) ?_
    refine Eq.trans (x121 (h := 21) hT rfl) ?_
    refine Eq.trans (x0 (h := 22) hT rfl) ?_
    refine Eq.trans (x5n (h := 23) hT rfl) ?_
    refine Eq.trans (x0 (h := 24) hT rfl) ?_
    refine Eq.trans (x5_1 (h := 25) hT rfl) ?_
    exact x201 (h := 26) hT rfl
/-! WordLinks$Putter.bring(I)V -/
set_option maxRecDepth 100000 in
theorem e_21 {P : zP} {d : zD P} {a0 : Nat} {a1 : Int} (ha0 : zkd a0 = 5) : MM P 21 [(2, ((a0 : Nat) : Int)), (0, a1)] d = (if wr 24 ≤ wr ((d.m a0 8)) then some (0, d) else (if zin ((d.m a0 8)) 24 then some (0, (((d.up ((a0 + 6)) (zix ((d.m a0 8))) a1)).up a0 8 (((((d.up ((a0 + 6)) (zix ((d.m a0 8))) a1)).m a0 8) + 1)))) else none)) := by
  have hT := cT_21
  refine Eq.trans (MM_def sm_21 (Nat.le_of_ble_eq_true rfl)) ?_
  change zB P 21 0 [(2, ((a0 : Nat) : Int)), (0, a1)] [] d = _
  refine Eq.trans (x1 (h := 0) hT rfl rfl (by decide)) ?_
  refine Eq.trans (x21 (r := a0) (cl := 5) (h := 1) hT rfl ha0) ?_
  refine Eq.trans (x1 (h := 2) hT rfl rfl (by decide)) ?_
  refine Eq.trans (x21r (r := a0) (cl := 5) (o := 6) (h := 3) hT rfl ha0 (by decide) rfl) ?_
  refine Eq.trans (x26 (r := (a0 + 6)) (n := 24) (h := 4) hT rfl (by rw [(kd_5_5 ha0)]; decide) (ln_5_5 ha0)) ?_
  refine Eq.trans (x17_3 (h := 5) hT rfl) ?_
  refine xit (fun _ => ?_) (fun _ => ?_)
  · exact x20 (h := 18) hT rfl
  · refine Eq.trans (x1 (h := 6) hT rfl rfl (by decide)) ?_
    refine Eq.trans (x21r (r := a0) (cl := 5) (o := 6) (h := 7) hT rfl ha0 (by decide) rfl) ?_
    refine Eq.trans (x1 (h := 8) hT rfl rfl (by decide)) ?_
    refine Eq.trans (x21 (r := a0) (cl := 5) (h := 9) hT rfl ha0) ?_
    refine Eq.trans (x1 (h := 10) hT rfl rfl (by decide)) ?_
    refine Eq.trans (x25a (r := (a0 + 6)) (n := 24) (h := 11) hT rfl (kd_5_5 ha0) (ln_5_5 ha0) (by decide) rfl) ?_
    refine xig (fun hz1 => ?_)
    refine Eq.trans (x1 (h := 12) hT rfl rfl (by decide)) ?_
    refine Eq.trans (x13 (h := 13) hT rfl (by decide)) ?_
    refine Eq.trans (x21 (r := a0) (cl := 5) (h := 14) hT rfl ha0) ?_
    refine Eq.trans (x0 (h := 15) hT rfl) ?_
    refine Eq.trans (x5_0 (h := 16) hT rfl) ?_
    refine Eq.trans (x22 (r := a0) (cl := 5) (h := 17) hT rfl ha0 (by decide) rfl (by decide)) ?_
    exact x20 (h := 18) hT rfl
/-! WordLinks$Putter.offer(IIII)V -/
set_option maxRecDepth 100000 in
theorem e_22 {P : zP} {d : zD P} {a0 : Nat} {a1 : Int} {a2 : Int} {a3 : Int} {a4 : Int} (ha0 : zkd a0 = 5) : MM P 22 [(2, ((a0 : Nat) : Int)), (0, a1), (0, a2), (0, a3), (0, a4)] d = (if zin ((a1 + a4)) 9 then (if zin ((a1 + a4)) 9 then (if zin a1 8 then (if wr ((d.m ((a0 + 4)) (zix a1))) = wr ((-1)) then (if zin a1 8 then (if zin a1 9 then (if zin a1 9 then some (0, (((((d.up ((a0 + 4)) (zix a1) a2)).up ((a0 + 2)) (zix a1) ((a3 + (d.m ((a0 + 2)) (zix ((a1 + a4)))))))).up ((a0 + 3)) (zix a1) ((1 + (d.m ((a0 + 3)) (zix ((a1 + a4)))))))) else none) else none) else none) else (if zin a1 9 then (if wr ((a3 + (d.m ((a0 + 2)) (zix ((a1 + a4)))))) < wr ((d.m ((a0 + 2)) (zix a1))) then (if zin a1 8 then (if zin a1 9 then (if zin a1 9 then some (0, (((((d.up ((a0 + 4)) (zix a1) a2)).up ((a0 + 2)) (zix a1) ((a3 + (d.m ((a0 + 2)) (zix ((a1 + a4)))))))).up ((a0 + 3)) (zix a1) ((1 + (d.m ((a0 + 3)) (zix ((a1 + a4)))))))) else none) else none) else none) else (if zin a1 9 then (if wr ((a3 + (d.m ((a0 + 2)) (zix ((a1 + a4)))))) ≠ wr ((d.m ((a0 + 2)) (zix a1))) then some (0, d) else (if zin a1 9 then (if wr ((d.m ((a0 + 3)) (zix a1))) ≤ wr ((1 + (d.m ((a0 + 3)) (zix ((a1 + a4)))))) then some (0, d) else (if zin a1 8 then (if zin a1 9 then (if zin a1 9 then some (0, (((((d.up ((a0 + 4)) (zix a1) a2)).up ((a0 + 2)) (zix a1) ((a3 + (d.m ((a0 + 2)) (zix ((a1 + a4)))))))).up ((a0 + 3)) (zix a1) ((1 + (d.m ((a0 + 3)) (zix ((a1 + a4)))))))) else none) else none) else none)) else none)) else none)) else none)) else none) else none) else none) := by
  have hT := cT_22
  refine Eq.trans (MM_def sm_22 (Nat.le_of_ble_eq_true rfl)) ?_
  change zB P 22 0 [(2, ((a0 : Nat) : Int)), (0, a1), (0, a2), (0, a3), (0, a4), (3, 0), (3, 0)] [] d = _
  refine Eq.trans (x1 (h := 0) hT rfl rfl (by decide)) ?_
  refine Eq.trans (x1 (h := 1) hT rfl rfl (by decide)) ?_
  refine Eq.trans (x21r (r := a0) (cl := 5) (o := 2) (h := 2) hT rfl ha0 (by decide) rfl) ?_
  refine Eq.trans (x1 (h := 3) hT rfl rfl (by decide)) ?_
  refine Eq.trans (x1 (h := 4) hT rfl rfl (by decide)) ?_
  refine Eq.trans (x5_0 (h := 5) hT rfl) ?_
  refine Eq.trans (x24 (r := (a0 + 2)) (n := 9) (h := 6) hT rfl (Or.inl (kd_5_1 ha0)) (ln_5_1 ha0)) ?_
  refine xig (fun hz1 => ?_)
  refine Eq.trans (x5_0 (h := 7) hT rfl) ?_
  refine Eq.trans (x2 (ls' := [(2, ((a0 : Nat) : Int)), (0, a1), (0, a2), (0, a3), (0, a4), (0, (a3 + (d.m ((a0 + 2)) (zix ((a1 + a4)))))), (3, 0)]) (h := 8) hT rfl (Nat.le_of_ble_eq_true rfl) rfl) ?_
  refine Eq.trans (x0 (h := 9) hT rfl) ?_
  refine Eq.trans (x1 (h := 10) hT rfl rfl (by decide)) ?_
  refine Eq.trans (x21r (r := a0) (cl := 5) (o := 3) (h := 11) hT rfl ha0 (by decide) rfl) ?_
  refine Eq.trans (x1 (h := 12) hT rfl rfl (by decide)) ?_
  refine Eq.trans (x1 (h := 13) hT rfl rfl (by decide)) ?_
  refine Eq.trans (x5_0 (h := 14) hT rfl) ?_
  refine Eq.trans (x24 (r := (a0 + 3)) (n := 9) (h := 15) hT rfl (Or.inl (kd_5_2 ha0)) (ln_5_2 ha0)) ?_
  refine xig (fun hz2 => ?_)
  refine Eq.trans (x5_0 (h := 16) hT rfl) ?_
  refine Eq.trans (x2 (ls' := [(2, ((a0 : Nat) : Int)), (0, a1), (0, a2), (0, a3), (0, a4), (0, (a3 + (d.m ((a0 + 2)) (zix ((a1 + a4)))))), (0, (1 + (d.m ((a0 + 3)) (zix ((a1 + a4))))))]) (h := 17) hT rfl (Nat.le_of_ble_eq_true rfl) rfl) ?_
  refine Eq.trans (x1 (h := 18) hT rfl rfl (by decide)) ?_
  refine Eq.trans (x21r (r := a0) (cl := 5) (o := 4) (h := 19) hT rfl ha0 (by decide) rfl) ?_
  refine Eq.trans (x1 (h := 20) hT rfl rfl (by decide)) ?_
  refine Eq.trans (x24 (r := (a0 + 4)) (n := 8) (h := 21) hT rfl (Or.inl (kd_5_3 ha0)) (ln_5_3 ha0)) ?_
  refine xig (fun hz3 => ?_)
  refine Eq.trans (x0 (h := 22) hT rfl) ?_
  refine Eq.trans (x17_0 (h := 23) hT rfl) ?_
  refine xit (fun _ => ?_) (fun _ => ?_)
  · refine Eq.trans (x1 (h := 42) hT rfl rfl (by decide)) ?_
    refine Eq.trans (x21r (r := a0) (cl := 5) (o := 4) (h := 43) hT rfl ha0 (by decide) rfl) ?_
    refine Eq.trans (x1 (h := 44) hT rfl rfl (by decide)) ?_
    refine Eq.trans (x1 (h := 45) hT rfl rfl (by decide)) ?_
    refine Eq.trans (x25a (r := (a0 + 4)) (n := 8) (h := 46) hT rfl (kd_5_3 ha0) (ln_5_3 ha0) (by decide) rfl) ?_
    refine xig (fun hz4 => ?_)
    refine Eq.trans (x1 (h := 47) hT rfl rfl (by decide)) ?_
    refine Eq.trans (x21r (r := a0) (cl := 5) (o := 2) (h := 48) hT rfl ha0 (by decide) rfl) ?_
    refine Eq.trans (x1 (h := 49) hT rfl rfl (by decide)) ?_
    refine Eq.trans (x1 (h := 50) hT rfl rfl (by decide)) ?_
    refine Eq.trans (x25a (r := (a0 + 2)) (n := 9) (h := 51) hT rfl (kd_5_1 ha0) (ln_5_1 ha0) (by decide) rfl) ?_
    refine xig (fun hz5 => ?_)
    refine Eq.trans (x1 (h := 52) hT rfl rfl (by decide)) ?_
    refine Eq.trans (x21r (r := a0) (cl := 5) (o := 3) (h := 53) hT rfl ha0 (by decide) rfl) ?_
    refine Eq.trans (x1 (h := 54) hT rfl rfl (by decide)) ?_
    refine Eq.trans (x1 (h := 55) hT rfl rfl (by decide)) ?_
    refine Eq.trans (x25a (r := (a0 + 3)) (n := 9) (h := 56) hT rfl (kd_5_2 ha0) (ln_5_2 ha0) (by decide) rfl) ?_
    refine xig (fun hz6 => ?_)
    exact x20 (h := 57) hT rfl
  · refine Eq.trans (x1 (h := 24) hT rfl rfl (by decide)) ?_
    refine Eq.trans (x1 (h := 25) hT rfl rfl (by decide)) ?_
    refine Eq.trans (x21r (r := a0) (cl := 5) (o := 2) (h := 26) hT rfl ha0 (by decide) rfl) ?_
    refine Eq.trans (x1 (h := 27) hT rfl rfl (by decide)) ?_
    refine Eq.trans (x24 (r := (a0 + 2)) (n := 9) (h := 28) hT rfl (Or.inl (kd_5_1 ha0)) (ln_5_1 ha0)) ?_
    refine xig (fun hz7 => ?_)
    refine Eq.trans (x17_2 (h := 29) hT rfl) ?_
    refine xit (fun _ => ?_) (fun _ => ?_)
    · refine Eq.trans (x1 (h := 42) hT rfl rfl (by decide)) ?_
      refine Eq.trans (x21r (r := a0) (cl := 5) (o := 4) (h := 43) hT rfl ha0 (by decide) rfl) ?_
      refine Eq.trans (x1 (h := 44) hT rfl rfl (by decide)) ?_
      refine Eq.trans (x1 (h := 45) hT rfl rfl (by decide)) ?_
      refine Eq.trans (x25a (r := (a0 + 4)) (n := 8) (h := 46) hT rfl (kd_5_3 ha0) (ln_5_3 ha0) (by decide) rfl) ?_
      refine xig (fun hz8 => ?_)
      refine Eq.trans (x1 (h := 47) hT rfl rfl (by decide)) ?_
      refine Eq.trans (x21r (r := a0) (cl := 5) (o := 2) (h := 48) hT rfl ha0 (by decide) rfl) ?_
      refine Eq.trans (x1 (h := 49) hT rfl rfl (by decide)) ?_
      refine Eq.trans (x1 (h := 50) hT rfl rfl (by decide)) ?_
      refine Eq.trans (x25a (r := (a0 + 2)) (n := 9) (h := 51) hT rfl (kd_5_1 ha0) (ln_5_1 ha0) (by decide) rfl) ?_
      refine xig (fun hz9 => ?_)
      refine Eq.trans (x1 (h := 52) hT rfl rfl (by decide)) ?_
      refine Eq.trans (x21r (r := a0) (cl := 5) (o := 3) (h := 53) hT rfl ha0 (by decide) rfl) ?_
      refine Eq.trans (x1 (h := 54) hT rfl rfl (by decide)) ?_
      refine Eq.trans (x1 (h := 55) hT rfl rfl (by decide)) ?_
      refine Eq.trans (x25a (r := (a0 + 3)) (n := 9) (h := 56) hT rfl (kd_5_2 ha0) (ln_5_2 ha0) (by decide) rfl) ?_
      refine xig (fun hz10 => ?_)
      exact x20 (h := 57) hT rfl
    · refine Eq.trans (x1 (h := 30) hT rfl rfl (by decide)) ?_
      refine Eq.trans (x1 (h := 31) hT rfl rfl (by decide)) ?_
      refine Eq.trans (x21r (r := a0) (cl := 5) (o := 2) (h := 32) hT rfl ha0 (by decide) rfl) ?_
      refine Eq.trans (x1 (h := 33) hT rfl rfl (by decide)) ?_
      refine Eq.trans (x24 (r := (a0 + 2)) (n := 9) (h := 34) hT rfl (Or.inl (kd_5_1 ha0)) (ln_5_1 ha0)) ?_
      refine xig (fun hz11 => ?_)
      refine Eq.trans (x17_1 (h := 35) hT rfl) ?_
      refine xit (fun _ => ?_) (fun _ => ?_)
      · exact x20 (h := 57) hT rfl
      · refine Eq.trans (x1 (h := 36) hT rfl rfl (by decide)) ?_
        refine Eq.trans (x1 (h := 37) hT rfl rfl (by decide)) ?_
        refine Eq.trans (x21r (r := a0) (cl := 5) (o := 3) (h := 38) hT rfl ha0 (by decide) rfl) ?_
        refine Eq.trans (x1 (h := 39) hT rfl rfl (by decide)) ?_
        refine Eq.trans (x24 (r := (a0 + 3)) (n := 9) (h := 40) hT rfl (Or.inl (kd_5_2 ha0)) (ln_5_2 ha0)) ?_
        refine xig (fun hz12 => ?_)
        refine Eq.trans (x17_3 (h := 41) hT rfl) ?_
        refine xit (fun _ => ?_) (fun _ => ?_)
        · exact x20 (h := 57) hT rfl
        · refine Eq.trans (x1 (h := 42) hT rfl rfl (by decide)) ?_
          refine Eq.trans (x21r (r := a0) (cl := 5) (o := 4) (h := 43) hT rfl ha0 (by decide) rfl) ?_
          refine Eq.trans (x1 (h := 44) hT rfl rfl (by decide)) ?_
          refine Eq.trans (x1 (h := 45) hT rfl rfl (by decide)) ?_
          refine Eq.trans (x25a (r := (a0 + 4)) (n := 8) (h := 46) hT rfl (kd_5_3 ha0) (ln_5_3 ha0) (by decide) rfl) ?_
          refine xig (fun hz13 => ?_)
          refine Eq.trans (x1 (h := 47) hT rfl rfl (by decide)) ?_
          refine Eq.trans (x21r (r := a0) (cl := 5) (o := 2) (h := 48) hT rfl ha0 (by decide) rfl) ?_
          refine Eq.trans (x1 (h := 49) hT rfl rfl (by decide)) ?_
          refine Eq.trans (x1 (h := 50) hT rfl rfl (by decide)) ?_
          refine Eq.trans (x25a (r := (a0 + 2)) (n := 9) (h := 51) hT rfl (kd_5_1 ha0) (ln_5_1 ha0) (by decide) rfl) ?_
          refine xig (fun hz14 => ?_)
          refine Eq.trans (x1 (h := 52) hT rfl rfl (by decide)) ?_
          refine Eq.trans (x21r (r := a0) (cl := 5) (o := 3) (h := 53) hT rfl ha0 (by decide) rfl) ?_
          refine Eq.trans (x1 (h := 54) hT rfl rfl (by decide)) ?_
          refine Eq.trans (x1 (h := 55) hT rfl rfl (by decide)) ?_
          refine Eq.trans (x25a (r := (a0 + 3)) (n := 9) (h := 56) hT rfl (kd_5_2 ha0) (ln_5_2 ha0) (by decide) rfl) ?_
          refine xig (fun hz15 => ?_)
          exact x20 (h := 57) hT rfl
/-! WordLinks$Putter.wholeCost()I -/
set_option maxRecDepth 100000 in
theorem e_23 {P : zP} {d : zD P} {a0 : Nat} (ha0 : zkd a0 = 5) : MM P 23 [(2, ((a0 : Nat) : Int))] d = (if zin 0 9 then some ((d.m ((a0 + 2)) (zix 0)), d) else none) := by
  have hT := cT_23
  refine Eq.trans (MM_def sm_23 (Nat.le_of_ble_eq_true rfl)) ?_
  change zB P 23 0 [(2, ((a0 : Nat) : Int))] [] d = _
  refine Eq.trans (x1 (h := 0) hT rfl rfl (by decide)) ?_
  refine Eq.trans (x21r (r := a0) (cl := 5) (o := 2) (h := 1) hT rfl ha0 (by decide) rfl) ?_
  refine Eq.trans (x0 (h := 2) hT rfl) ?_
  refine Eq.trans (x24 (r := (a0 + 2)) (n := 9) (h := 3) hT rfl (Or.inl (kd_5_1 ha0)) (ln_5_1 ha0)) ?_
  refine xig (fun hz1 => ?_)
  exact x201 (h := 4) hT rfl
/-! WordLinks$Rows.clear()V -/
set_option maxRecDepth 100000 in
theorem e_24 {P : zP} {d : zD P} {a0 : Nat} (ha0 : zkd a0 = 7) : MM P 24 [(2, ((a0 : Nat) : Int))] d = some (0, (d.up a0 2 0)) := by
  have hT := cT_24
  refine Eq.trans (MM_def sm_24 (Nat.le_of_ble_eq_true rfl)) ?_
  change zB P 24 0 [(2, ((a0 : Nat) : Int))] [] d = _
  refine Eq.trans (x1 (h := 0) hT rfl rfl (by decide)) ?_
  refine Eq.trans (x0 (h := 1) hT rfl) ?_
  refine Eq.trans (x22 (r := a0) (cl := 7) (h := 2) hT rfl ha0 (by decide) rfl (by decide)) ?_
  exact x20 (h := 3) hT rfl
/-! WordLinks$Rows.lengthOf(I)I -/
set_option maxRecDepth 100000 in
theorem e_25 {P : zP} {d : zD P} {a0 : Nat} {a1 : Int} (ha0 : zkd a0 = 7) : MM P 25 [(2, ((a0 : Nat) : Int)), (0, a1)] d = (if wr a1 < 0 then some (0, d) else (if wr ((d.m a0 2)) ≤ wr a1 then some (0, d) else (if zin a1 12 then some ((d.m ((a0 + 1)) (zix a1)), d) else none))) := by
  have hT := cT_25
  refine Eq.trans (MM_def sm_25 (Nat.le_of_ble_eq_true rfl)) ?_
  change zB P 25 0 [(2, ((a0 : Nat) : Int)), (0, a1)] [] d = _
  refine Eq.trans (x1 (h := 0) hT rfl rfl (by decide)) ?_
  refine Eq.trans (x16_2 (h := 1) hT rfl) ?_
  refine xit (fun _ => ?_) (fun _ => ?_)
  · refine Eq.trans (x0 (h := 11) hT rfl) ?_
    exact x201 (h := 12) hT rfl
  · refine Eq.trans (x1 (h := 2) hT rfl rfl (by decide)) ?_
    refine Eq.trans (x1 (h := 3) hT rfl rfl (by decide)) ?_
    refine Eq.trans (x21 (r := a0) (cl := 7) (h := 4) hT rfl ha0) ?_
    refine Eq.trans (x17_3 (h := 5) hT rfl) ?_
    refine xit (fun _ => ?_) (fun _ => ?_)
    · refine Eq.trans (x0 (h := 11) hT rfl) ?_
      exact x201 (h := 12) hT rfl
    · refine Eq.trans (x1 (h := 6) hT rfl rfl (by decide)) ?_
      refine Eq.trans (x21r (r := a0) (cl := 7) (o := 1) (h := 7) hT rfl ha0 (by decide) rfl) ?_
      refine Eq.trans (x1 (h := 8) hT rfl rfl (by decide)) ?_
      refine Eq.trans (x24 (r := (a0 + 1)) (n := 12) (h := 9) hT rfl (Or.inl (kd_7_0 ha0)) (ln_7_0 ha0)) ?_
      refine xig (fun hz1 => ?_)
      refine Eq.trans (x18 (h := 10) hT rfl) ?_
      exact x201 (h := 12) hT rfl
/-! WordLinks$Rows.open()V -/
set_option maxRecDepth 100000 in
theorem e_26 {P : zP} {d : zD P} {a0 : Nat} (ha0 : zkd a0 = 7) : MM P 26 [(2, ((a0 : Nat) : Int))] d = (if wr 12 ≤ wr ((d.m a0 2)) then some (0, d) else (if zin ((d.m a0 2)) 12 then some (0, (((d.up ((a0 + 1)) (zix ((d.m a0 2))) 0)).up a0 2 (((((d.up ((a0 + 1)) (zix ((d.m a0 2))) 0)).m a0 2) + 1)))) else none)) := by
  have hT := cT_26
  refine Eq.trans (MM_def sm_26 (Nat.le_of_ble_eq_true rfl)) ?_
  change zB P 26 0 [(2, ((a0 : Nat) : Int))] [] d = _
  refine Eq.trans (x1 (h := 0) hT rfl rfl (by decide)) ?_
  refine Eq.trans (x21 (r := a0) (cl := 7) (h := 1) hT rfl ha0) ?_
  refine Eq.trans (x0 (h := 2) hT rfl) ?_
  refine Eq.trans (x17_3 (h := 3) hT rfl) ?_
  refine xit (fun _ => ?_) (fun _ => ?_)
  · exact x20 (h := 16) hT rfl
  · refine Eq.trans (x1 (h := 4) hT rfl rfl (by decide)) ?_
    refine Eq.trans (x21r (r := a0) (cl := 7) (o := 1) (h := 5) hT rfl ha0 (by decide) rfl) ?_
    refine Eq.trans (x1 (h := 6) hT rfl rfl (by decide)) ?_
    refine Eq.trans (x21 (r := a0) (cl := 7) (h := 7) hT rfl ha0) ?_
    refine Eq.trans (x0 (h := 8) hT rfl) ?_
    refine Eq.trans (x25a (r := (a0 + 1)) (n := 12) (h := 9) hT rfl (kd_7_0 ha0) (ln_7_0 ha0) (by decide) rfl) ?_
    refine xig (fun hz1 => ?_)
    refine Eq.trans (x1 (h := 10) hT rfl rfl (by decide)) ?_
    refine Eq.trans (x13 (h := 11) hT rfl (by decide)) ?_
    refine Eq.trans (x21 (r := a0) (cl := 7) (h := 12) hT rfl ha0) ?_
    refine Eq.trans (x0 (h := 13) hT rfl) ?_
    refine Eq.trans (x5_0 (h := 14) hT rfl) ?_
    refine Eq.trans (x22 (r := a0) (cl := 7) (h := 15) hT rfl ha0 (by decide) rfl (by decide)) ?_
    exact x20 (h := 16) hT rfl
/-! WordLinks$Rows.push(J)V -/
set_option maxRecDepth 100000 in
theorem e_27 {P : zP} {d : zD P} {a0 : Nat} {a1 : Int} (ha0 : zkd a0 = 7) : MM P 27 [(2, ((a0 : Nat) : Int)), (1, a1)] d = (if wr (((d.m a0 2) - 1)) < 0 then some (0, d) else (if zin (((d.m a0 2) - 1)) 12 then (if wr 8 ≤ wr ((d.m ((a0 + 1)) (zix (((d.m a0 2) - 1))))) then some (0, d) else (if zin (((d.m a0 2) - 1)) 12 then (if zin (((((d.m a0 2) - 1) * 8) + (d.m ((a0 + 1)) (zix (((d.m a0 2) - 1)))))) 96 then (if zin (((d.m a0 2) - 1)) 12 then (if zin (((d.m a0 2) - 1)) 12 then some (0, (((d.up ((a0 + 2)) (zix (((((d.m a0 2) - 1) * 8) + (d.m ((a0 + 1)) (zix (((d.m a0 2) - 1))))))) a1)).up ((a0 + 1)) (zix (((d.m a0 2) - 1))) (((((d.up ((a0 + 2)) (zix (((((d.m a0 2) - 1) * 8) + (d.m ((a0 + 1)) (zix (((d.m a0 2) - 1))))))) a1)).m ((a0 + 1)) (zix (((d.m a0 2) - 1)))) + 1)))) else none) else none) else none) else none)) else none)) := by
  have hT := cT_27
  refine Eq.trans (MM_def sm_27 (Nat.le_of_ble_eq_true rfl)) ?_
  change zB P 27 0 [(2, ((a0 : Nat) : Int)), (1, a1), (3, 0), (3, 0)] [] d = _
  refine Eq.trans (x1 (h := 0) hT rfl rfl (by decide)) ?_
  refine Eq.trans (x21 (r := a0) (cl := 7) (h := 1) hT rfl ha0) ?_
  refine Eq.trans (x0 (h := 2) hT rfl) ?_
  refine Eq.trans (x5_1 (h := 3) hT rfl) ?_
  refine Eq.trans (x2 (ls' := [(2, ((a0 : Nat) : Int)), (1, a1), (3, 0), (0, ((d.m a0 2) - 1))]) (h := 4) hT rfl (Nat.le_of_ble_eq_true rfl) rfl) ?_
  refine Eq.trans (x1 (h := 5) hT rfl rfl (by decide)) ?_
  refine Eq.trans (x16_2 (h := 6) hT rfl) ?_
  refine xit (fun _ => ?_) (fun _ => ?_)
  · exact x20 (h := 33) hT rfl
  · refine Eq.trans (x1 (h := 7) hT rfl rfl (by decide)) ?_
    refine Eq.trans (x21r (r := a0) (cl := 7) (o := 1) (h := 8) hT rfl ha0 (by decide) rfl) ?_
    refine Eq.trans (x1 (h := 9) hT rfl rfl (by decide)) ?_
    refine Eq.trans (x24 (r := (a0 + 1)) (n := 12) (h := 10) hT rfl (Or.inl (kd_7_0 ha0)) (ln_7_0 ha0)) ?_
    refine xig (fun hz1 => ?_)
    refine Eq.trans (x0 (h := 11) hT rfl) ?_
    refine Eq.trans (x17_3 (h := 12) hT rfl) ?_
    refine xit (fun _ => ?_) (fun _ => ?_)
    · exact x20 (h := 33) hT rfl
    · refine Eq.trans (x1 (h := 13) hT rfl rfl (by decide)) ?_
      refine Eq.trans (x21r (r := a0) (cl := 7) (o := 2) (h := 14) hT rfl ha0 (by decide) rfl) ?_
      refine Eq.trans (x1 (h := 15) hT rfl rfl (by decide)) ?_
      refine Eq.trans (x0 (h := 16) hT rfl) ?_
      refine Eq.trans (x5_2 (h := 17) hT rfl) ?_
      refine Eq.trans (x1 (h := 18) hT rfl rfl (by decide)) ?_
      refine Eq.trans (x21r (r := a0) (cl := 7) (o := 1) (h := 19) hT rfl ha0 (by decide) rfl) ?_
      refine Eq.trans (x1 (h := 20) hT rfl rfl (by decide)) ?_
      refine Eq.trans (x24 (r := (a0 + 1)) (n := 12) (h := 21) hT rfl (Or.inl (kd_7_0 ha0)) (ln_7_0 ha0)) ?_
      refine xig (fun hz2 => ?_)
      refine Eq.trans (x5_0 (h := 22) hT rfl) ?_
      refine Eq.trans (x1 (h := 23) hT rfl rfl (by decide)) ?_
      refine Eq.trans (x25a (r := (a0 + 2)) (n := 96) (h := 24) hT rfl (kd_7_1 ha0) (ln_7_1 ha0) (by decide) rfl) ?_
      refine xig (fun hz3 => ?_)
      refine Eq.trans (x1 (h := 25) hT rfl rfl (by decide)) ?_
      refine Eq.trans (x21r (r := a0) (cl := 7) (o := 1) (h := 26) hT rfl ha0 (by decide) rfl) ?_
      refine Eq.trans (x1 (h := 27) hT rfl rfl (by decide)) ?_
      refine Eq.trans (x14 (h := 28) hT rfl (by decide)) ?_
      refine Eq.trans (x24 (r := (a0 + 1)) (n := 12) (h := 29) hT rfl (Or.inl (kd_7_0 ha0)) (ln_7_0 ha0)) ?_
      refine xig (fun hz4 => ?_)
      refine Eq.trans (x0 (h := 30) hT rfl) ?_
      refine Eq.trans (x5_0 (h := 31) hT rfl) ?_
      refine Eq.trans (x25a (r := (a0 + 1)) (n := 12) (h := 32) hT rfl (kd_7_0 ha0) (ln_7_0 ha0) (by decide) rfl) ?_
      refine xig (fun hz5 => ?_)
      exact x20 (h := 33) hT rfl
/-! WordLinks$Shape.index(IIII)I -/
set_option maxRecDepth 100000 in
theorem e_28 {P : zP} {d : zD P} {a0 : Int} {a1 : Int} {a2 : Int} {a3 : Int} : MM P 28 [(0, a0), (0, a1), (0, a2), (0, a3)] d = some (((((((a0 * 7) + a1) * 7) + a2) * 7) + a3), d) := by
  have hT := cT_28
  refine Eq.trans (MM_def sm_28 (Nat.le_of_ble_eq_true rfl)) ?_
  change zB P 28 0 [(0, a0), (0, a1), (0, a2), (0, a3)] [] d = _
  refine Eq.trans (x1 (h := 0) hT rfl rfl (by decide)) ?_
  refine Eq.trans (x0 (h := 1) hT rfl) ?_
  refine Eq.trans (x5_2 (h := 2) hT rfl) ?_
  refine Eq.trans (x1 (h := 3) hT rfl rfl (by decide)) ?_
  refine Eq.trans (x5_0 (h := 4) hT rfl) ?_
  refine Eq.trans (x0 (h := 5) hT rfl) ?_
  refine Eq.trans (x5_2 (h := 6) hT rfl) ?_
  refine Eq.trans (x1 (h := 7) hT rfl rfl (by decide)) ?_
  refine Eq.trans (x5_0 (h := 8) hT rfl) ?_
  refine Eq.trans (x0 (h := 9) hT rfl) ?_
  refine Eq.trans (x5_2 (h := 10) hT rfl) ?_
  refine Eq.trans (x1 (h := 11) hT rfl rfl (by decide)) ?_
  refine Eq.trans (x5_0 (h := 12) hT rfl) ?_
  exact x201 (h := 13) hT rfl
/-! WordLinks$State.fullShares(I)I -/
set_option maxRecDepth 100000 in
theorem e_29 {P : zP} {d : zD P} {a0 : Nat} {a1 : Int} (ha0 : zkd a0 = 9) : MM P 29 [(2, ((a0 : Nat) : Int)), (0, a1)] d = zB P 29 4 [(2, ((a0 : Nat) : Int)), (0, a1), (0, 0), (0, 0)] [] d := by
  have hT := cT_29
  refine Eq.trans (MM_def sm_29 (Nat.le_of_ble_eq_true rfl)) ?_
  change zB P 29 0 [(2, ((a0 : Nat) : Int)), (0, a1), (3, 0), (3, 0)] [] d = _
  refine Eq.trans (x0 (h := 0) hT rfl) ?_
  refine Eq.trans (x2 (ls' := [(2, ((a0 : Nat) : Int)), (0, a1), (0, 0), (3, 0)]) (h := 1) hT rfl (Nat.le_of_ble_eq_true rfl) rfl) ?_
  refine Eq.trans (x0 (h := 2) hT rfl) ?_
  refine Eq.trans (x2 (ls' := [(2, ((a0 : Nat) : Int)), (0, a1), (0, 0), (0, 0)]) (h := 3) hT rfl (Nat.le_of_ble_eq_true rfl) rfl) ?_
  exact rfl
set_option maxRecDepth 100000 in
theorem q_29_4 {P : zP} {d : zD P} {a0 : Nat} {a1 : Int} {a2 : Int} {a3 : Int} (ha0 : zkd a0 = 9) : zB P 29 4 [(2, ((a0 : Nat) : Int)), (0, a1), (0, a2), (0, a3)] [] d = (if wr 1600 ≤ wr a3 then some (a2, d) else (if zin a1 2 then (if zin a3 1600 then (if wr ((d.m (((a0 + 22) + (1 + zix a1))) (zix a3))) = 0 then zB P 29 4 [(2, ((a0 : Nat) : Int)), (0, a1), (0, a2), (0, (a3 + 1))] [] d else zB P 29 4 [(2, ((a0 : Nat) : Int)), (0, a1), (0, (a2 + 1)), (0, (a3 + 1))] [] d) else none) else none)) := by
  have hT := cT_29
  refine Eq.trans (x1 (h := 4) hT rfl rfl (by decide)) ?_
  refine Eq.trans (x0 (h := 5) hT rfl) ?_
  refine Eq.trans (x17_3 (h := 6) hT rfl) ?_
  refine xit (fun _ => ?_) (fun _ => ?_)
  · refine Eq.trans (x1 (h := 17) hT rfl rfl (by decide)) ?_
    exact x201 (h := 18) hT rfl
  · refine Eq.trans (x1 (h := 7) hT rfl rfl (by decide)) ?_
    refine Eq.trans (x21r (r := a0) (cl := 9) (o := 22) (h := 8) hT rfl ha0 (by decide) rfl) ?_
    refine Eq.trans (x1 (h := 9) hT rfl rfl (by decide)) ?_
    refine Eq.trans (x24r (r := (a0 + 22)) (n := 2) (h := 10) hT rfl (kd_9_3 ha0) (ln_9_3 ha0) (by decide)) ?_
    refine xig (fun hz1 => ?_)
    refine Eq.trans (x1 (h := 11) hT rfl rfl (by decide)) ?_
    refine Eq.trans (x24 (r := ((a0 + 22) + (1 + zix a1))) (n := 1600) (h := 12) hT rfl (Or.inl (kq_9_3 ha0 (zix_lt hz1))) (lq_9_3 ha0 (zix_lt hz1))) ?_
    refine xig (fun hz2 => ?_)
    refine Eq.trans (x16_0 (h := 13) hT rfl) ?_
    refine xit (fun _ => ?_) (fun _ => ?_)
    · refine Eq.trans (x4 (ls' := [(2, ((a0 : Nat) : Int)), (0, a1), (0, a2), (0, (a3 + 1))]) (h := 15) hT rfl rfl rfl) ?_
      refine Eq.trans (x18 (h := 16) hT rfl) ?_
      exact rfl
    · refine Eq.trans (x4 (ls' := [(2, ((a0 : Nat) : Int)), (0, a1), (0, (a2 + 1)), (0, a3)]) (h := 14) hT rfl rfl rfl) ?_
      refine Eq.trans (x4 (ls' := [(2, ((a0 : Nat) : Int)), (0, a1), (0, (a2 + 1)), (0, (a3 + 1))]) (h := 15) hT rfl rfl rfl) ?_
      refine Eq.trans (x18 (h := 16) hT rfl) ?_
      exact rfl
/-! WordLinks$State.hasSheets()Z -/
set_option maxRecDepth 100000 in
theorem e_30 {P : zP} {d : zD P} {a0 : Nat} (ha0 : zkd a0 = 9) : MM P 30 [(2, ((a0 : Nat) : Int))] d = (if wr ((d.m ((a0 + 16)) 2)) ≤ 0 then some (0, d) else some (1, d)) := by
  have hT := cT_30
  refine Eq.trans (MM_def sm_30 (Nat.le_of_ble_eq_true rfl)) ?_
  change zB P 30 0 [(2, ((a0 : Nat) : Int))] [] d = _
  refine Eq.trans (x1 (h := 0) hT rfl rfl (by decide)) ?_
  refine Eq.trans (x21r (r := a0) (cl := 9) (o := 16) (h := 1) hT rfl ha0 (by decide) rfl) ?_
  refine Eq.trans (x21 (r := (a0 + 16)) (cl := 7) (h := 2) hT rfl (kd_9_1 ha0)) ?_
  refine Eq.trans (x16_5 (h := 3) hT rfl) ?_
  refine xit (fun _ => ?_) (fun _ => ?_)
  · refine Eq.trans (x0 (h := 6) hT rfl) ?_
    exact x203c (h := 7) hT rfl (by decide)
  · refine Eq.trans (x0 (h := 4) hT rfl) ?_
    refine Eq.trans (x18 (h := 5) hT rfl) ?_
    exact x203c (h := 7) hT rfl (by decide)
/-! WordLinks$State.othersThan(LWordLinks$State;I)I -/
set_option maxRecDepth 100000 in
theorem e_31 {P : zP} {d : zD P} {a0 : Nat} {a1 : Nat} {a2 : Int} (ha0 : zkd a0 = 9) (ha1 : zkd a1 = 9) : MM P 31 [(2, ((a0 : Nat) : Int)), (2, ((a1 : Nat) : Int)), (0, a2)] d = zB P 31 4 [(2, ((a0 : Nat) : Int)), (2, ((a1 : Nat) : Int)), (0, a2), (0, 0), (0, 0)] [] d := by
  have hT := cT_31
  refine Eq.trans (MM_def sm_31 (Nat.le_of_ble_eq_true rfl)) ?_
  change zB P 31 0 [(2, ((a0 : Nat) : Int)), (2, ((a1 : Nat) : Int)), (0, a2), (3, 0), (3, 0)] [] d = _
  refine Eq.trans (x0 (h := 0) hT rfl) ?_
  refine Eq.trans (x2 (ls' := [(2, ((a0 : Nat) : Int)), (2, ((a1 : Nat) : Int)), (0, a2), (0, 0), (3, 0)]) (h := 1) hT rfl (Nat.le_of_ble_eq_true rfl) rfl) ?_
  refine Eq.trans (x0 (h := 2) hT rfl) ?_
  refine Eq.trans (x2 (ls' := [(2, ((a0 : Nat) : Int)), (2, ((a1 : Nat) : Int)), (0, a2), (0, 0), (0, 0)]) (h := 3) hT rfl (Nat.le_of_ble_eq_true rfl) rfl) ?_
  exact rfl
set_option maxRecDepth 100000 in
theorem q_31_4 {P : zP} {d : zD P} {a0 : Nat} {a1 : Nat} {a2 : Int} {a3 : Int} {a4 : Int} (ha0 : zkd a0 = 9) (ha1 : zkd a1 = 9) : zB P 31 4 [(2, ((a0 : Nat) : Int)), (2, ((a1 : Nat) : Int)), (0, a2), (0, a3), (0, a4)] [] d = (if wr 1600 ≤ wr a4 then some (a3, d) else (if zin a2 2 then (if zin a4 1600 then (if zin a2 2 then (if zin a4 1600 then (if wr ((d.m (((a0 + 22) + (1 + zix a2))) (zix a4))) = wr ((d.m (((a1 + 22) + (1 + zix a2))) (zix a4))) then zB P 31 4 [(2, ((a0 : Nat) : Int)), (2, ((a1 : Nat) : Int)), (0, a2), (0, a3), (0, (a4 + 1))] [] d else zB P 31 4 [(2, ((a0 : Nat) : Int)), (2, ((a1 : Nat) : Int)), (0, a2), (0, (a3 + 1)), (0, (a4 + 1))] [] d) else none) else none) else none) else none)) := by
  have hT := cT_31
  refine Eq.trans (x1 (h := 4) hT rfl rfl (by decide)) ?_
  refine Eq.trans (x0 (h := 5) hT rfl) ?_
  refine Eq.trans (x17_3 (h := 6) hT rfl) ?_
  refine xit (fun _ => ?_) (fun _ => ?_)
  · refine Eq.trans (x1 (h := 23) hT rfl rfl (by decide)) ?_
    exact x201 (h := 24) hT rfl
  · refine Eq.trans (x1 (h := 7) hT rfl rfl (by decide)) ?_
    refine Eq.trans (x21r (r := a0) (cl := 9) (o := 22) (h := 8) hT rfl ha0 (by decide) rfl) ?_
    refine Eq.trans (x1 (h := 9) hT rfl rfl (by decide)) ?_
    refine Eq.trans (x24r (r := (a0 + 22)) (n := 2) (h := 10) hT rfl (kd_9_3 ha0) (ln_9_3 ha0) (by decide)) ?_
    refine xig (fun hz1 => ?_)
    refine Eq.trans (x1 (h := 11) hT rfl rfl (by decide)) ?_
    refine Eq.trans (x24 (r := ((a0 + 22) + (1 + zix a2))) (n := 1600) (h := 12) hT rfl (Or.inl (kq_9_3 ha0 (zix_lt hz1))) (lq_9_3 ha0 (zix_lt hz1))) ?_
    refine xig (fun hz2 => ?_)
    refine Eq.trans (x1 (h := 13) hT rfl rfl (by decide)) ?_
    refine Eq.trans (x21r (r := a1) (cl := 9) (o := 22) (h := 14) hT rfl ha1 (by decide) rfl) ?_
    refine Eq.trans (x1 (h := 15) hT rfl rfl (by decide)) ?_
    refine Eq.trans (x24r (r := (a1 + 22)) (n := 2) (h := 16) hT rfl (kd_9_3 ha1) (ln_9_3 ha1) (by decide)) ?_
    refine xig (fun hz3 => ?_)
    refine Eq.trans (x1 (h := 17) hT rfl rfl (by decide)) ?_
    refine Eq.trans (x24 (r := ((a1 + 22) + (1 + zix a2))) (n := 1600) (h := 18) hT rfl (Or.inl (kq_9_3 ha1 (zix_lt hz3))) (lq_9_3 ha1 (zix_lt hz3))) ?_
    refine xig (fun hz4 => ?_)
    refine Eq.trans (x17_0 (h := 19) hT rfl) ?_
    refine xit (fun _ => ?_) (fun _ => ?_)
    · refine Eq.trans (x4 (ls' := [(2, ((a0 : Nat) : Int)), (2, ((a1 : Nat) : Int)), (0, a2), (0, a3), (0, (a4 + 1))]) (h := 21) hT rfl rfl rfl) ?_
      refine Eq.trans (x18 (h := 22) hT rfl) ?_
      exact rfl
    · refine Eq.trans (x4 (ls' := [(2, ((a0 : Nat) : Int)), (2, ((a1 : Nat) : Int)), (0, a2), (0, (a3 + 1)), (0, a4)]) (h := 20) hT rfl rfl rfl) ?_
      refine Eq.trans (x4 (ls' := [(2, ((a0 : Nat) : Int)), (2, ((a1 : Nat) : Int)), (0, a2), (0, (a3 + 1)), (0, (a4 + 1))]) (h := 21) hT rfl rfl rfl) ?_
      refine Eq.trans (x18 (h := 22) hT rfl) ?_
      exact rfl
/-! WordLinks$State.shareOf(III)I -/
set_option maxRecDepth 100000 in
theorem e_32 {P : zP} {d : zD P} {a0 : Nat} {a1 : Int} {a2 : Int} {a3 : Int} (ha0 : zkd a0 = 9) : MM P 32 [(2, ((a0 : Nat) : Int)), (0, a1), (0, a2), (0, a3)] d = (if wr (((a2 * 40) + a3)) < 0 then some (0, d) else (if wr 1600 ≤ wr (((a2 * 40) + a3)) then some (0, d) else (if zin a1 2 then (if zin (((a2 * 40) + a3)) 1600 then some ((d.m (((a0 + 22) + (1 + zix a1))) (zix (((a2 * 40) + a3)))), d) else none) else none))) := by
  have hT := cT_32
  refine Eq.trans (MM_def sm_32 (Nat.le_of_ble_eq_true rfl)) ?_
  change zB P 32 0 [(2, ((a0 : Nat) : Int)), (0, a1), (0, a2), (0, a3), (3, 0)] [] d = _
  refine Eq.trans (x1 (h := 0) hT rfl rfl (by decide)) ?_
  refine Eq.trans (x0 (h := 1) hT rfl) ?_
  refine Eq.trans (x5_2 (h := 2) hT rfl) ?_
  refine Eq.trans (x1 (h := 3) hT rfl rfl (by decide)) ?_
  refine Eq.trans (x5_0 (h := 4) hT rfl) ?_
  refine Eq.trans (x2 (ls' := [(2, ((a0 : Nat) : Int)), (0, a1), (0, a2), (0, a3), (0, ((a2 * 40) + a3))]) (h := 5) hT rfl (Nat.le_of_ble_eq_true rfl) rfl) ?_
  refine Eq.trans (x1 (h := 6) hT rfl rfl (by decide)) ?_
  refine Eq.trans (x16_2 (h := 7) hT rfl) ?_
  refine xit (fun _ => ?_) (fun _ => ?_)
  · refine Eq.trans (x0 (h := 18) hT rfl) ?_
    exact x201 (h := 19) hT rfl
  · refine Eq.trans (x1 (h := 8) hT rfl rfl (by decide)) ?_
    refine Eq.trans (x0 (h := 9) hT rfl) ?_
    refine Eq.trans (x17_3 (h := 10) hT rfl) ?_
    refine xit (fun _ => ?_) (fun _ => ?_)
    · refine Eq.trans (x0 (h := 18) hT rfl) ?_
      exact x201 (h := 19) hT rfl
    · refine Eq.trans (x1 (h := 11) hT rfl rfl (by decide)) ?_
      refine Eq.trans (x21r (r := a0) (cl := 9) (o := 22) (h := 12) hT rfl ha0 (by decide) rfl) ?_
      refine Eq.trans (x1 (h := 13) hT rfl rfl (by decide)) ?_
      refine Eq.trans (x24r (r := (a0 + 22)) (n := 2) (h := 14) hT rfl (kd_9_3 ha0) (ln_9_3 ha0) (by decide)) ?_
      refine xig (fun hz1 => ?_)
      refine Eq.trans (x1 (h := 15) hT rfl rfl (by decide)) ?_
      refine Eq.trans (x24 (r := ((a0 + 22) + (1 + zix a1))) (n := 1600) (h := 16) hT rfl (Or.inl (kq_9_3 ha0 (zix_lt hz1))) (lq_9_3 ha0 (zix_lt hz1))) ?_
      refine xig (fun hz2 => ?_)
      refine Eq.trans (x18 (h := 17) hT rfl) ?_
      exact x201 (h := 19) hT rfl
/-! WordLinks$State.slant(IIII)I -/
set_option maxRecDepth 100000 in
theorem e_33 {P : zP} {d : zD P} {a0 : Nat} {a1 : Int} {a2 : Int} {a3 : Int} {a4 : Int} (ha0 : zkd a0 = 9) : MM P 33 [(2, ((a0 : Nat) : Int)), (0, a1), (0, a2), (0, a3), (0, a4)] d = (if zin ((1 - a1)) 2 then (if zin a2 24 then (if zin a1 2 then (if zin a2 24 then (if 0 ≤ wr (((a3 * (d.m ((((a0 + 1) + 8) + (1 + zix ((1 - a1))))) (zix a2))) - (a4 * (d.m ((((a0 + 1) + 8) + (1 + zix a1))) (zix a2))))) then some (((a3 * (d.m ((((a0 + 1) + 8) + (1 + zix ((1 - a1))))) (zix a2))) - (a4 * (d.m ((((a0 + 1) + 8) + (1 + zix a1))) (zix a2)))), d) else some ((-((a3 * (d.m ((((a0 + 1) + 8) + (1 + zix ((1 - a1))))) (zix a2))) - (a4 * (d.m ((((a0 + 1) + 8) + (1 + zix a1))) (zix a2))))), d)) else none) else none) else none) else none) := by
  have hT := cT_33
  refine Eq.trans (MM_def sm_33 (Nat.le_of_ble_eq_true rfl)) ?_
  change zB P 33 0 [(2, ((a0 : Nat) : Int)), (0, a1), (0, a2), (0, a3), (0, a4), (3, 0)] [] d = _
  refine Eq.trans (x1 (h := 0) hT rfl rfl (by decide)) ?_
  refine Eq.trans (x1 (h := 1) hT rfl rfl (by decide)) ?_
  refine Eq.trans (x21r (r := a0) (cl := 9) (o := 1) (h := 2) hT rfl ha0 (by decide) rfl) ?_
  refine Eq.trans (x21r (r := (a0 + 1)) (cl := 0) (o := 8) (h := 3) hT rfl (kd_9_0 ha0) (by decide) rfl) ?_
  refine Eq.trans (x0 (h := 4) hT rfl) ?_
  refine Eq.trans (x1 (h := 5) hT rfl rfl (by decide)) ?_
  refine Eq.trans (x5_1 (h := 6) hT rfl) ?_
  refine Eq.trans (x24r (r := ((a0 + 1) + 8)) (n := 2) (h := 7) hT rfl (kd_0_3 (kd_9_0 ha0)) (ln_0_3 (kd_9_0 ha0)) (by decide)) ?_
  refine xig (fun hz1 => ?_)
  refine Eq.trans (x1 (h := 8) hT rfl rfl (by decide)) ?_
  refine Eq.trans (x24 (r := (((a0 + 1) + 8) + (1 + zix ((1 - a1))))) (n := 24) (h := 9) hT rfl (Or.inl (kq_0_3 (kd_9_0 ha0) (zix_lt hz1))) (lq_0_3 (kd_9_0 ha0) (zix_lt hz1))) ?_
  refine xig (fun hz2 => ?_)
  refine Eq.trans (x5_2 (h := 10) hT rfl) ?_
  refine Eq.trans (x1 (h := 11) hT rfl rfl (by decide)) ?_
  refine Eq.trans (x1 (h := 12) hT rfl rfl (by decide)) ?_
  refine Eq.trans (x21r (r := a0) (cl := 9) (o := 1) (h := 13) hT rfl ha0 (by decide) rfl) ?_
  refine Eq.trans (x21r (r := (a0 + 1)) (cl := 0) (o := 8) (h := 14) hT rfl (kd_9_0 ha0) (by decide) rfl) ?_
  refine Eq.trans (x1 (h := 15) hT rfl rfl (by decide)) ?_
  refine Eq.trans (x24r (r := ((a0 + 1) + 8)) (n := 2) (h := 16) hT rfl (kd_0_3 (kd_9_0 ha0)) (ln_0_3 (kd_9_0 ha0)) (by decide)) ?_
  refine xig (fun hz3 => ?_)
  refine Eq.trans (x1 (h := 17) hT rfl rfl (by decide)) ?_
  refine Eq.trans (x24 (r := (((a0 + 1) + 8) + (1 + zix a1))) (n := 24) (h := 18) hT rfl (Or.inl (kq_0_3 (kd_9_0 ha0) (zix_lt hz3))) (lq_0_3 (kd_9_0 ha0) (zix_lt hz3))) ?_
  refine xig (fun hz4 => ?_)
  refine Eq.trans (x5_2 (h := 19) hT rfl) ?_
  refine Eq.trans (x5_1 (h := 20) hT rfl) ?_
  refine Eq.trans (x2 (ls' := [(2, ((a0 : Nat) : Int)), (0, a1), (0, a2), (0, a3), (0, a4), (0, ((a3 * (d.m ((((a0 + 1) + 8) + (1 + zix ((1 - a1))))) (zix a2))) - (a4 * (d.m ((((a0 + 1) + 8) + (1 + zix a1))) (zix a2)))))]) (h := 21) hT rfl (Nat.le_of_ble_eq_true rfl) rfl) ?_
  refine Eq.trans (x1 (h := 22) hT rfl rfl (by decide)) ?_
  refine Eq.trans (x16_3 (h := 23) hT rfl) ?_
  refine xit (fun _ => ?_) (fun _ => ?_)
  · refine Eq.trans (x1 (h := 27) hT rfl rfl (by decide)) ?_
    exact x201 (h := 28) hT rfl
  · refine Eq.trans (x1 (h := 24) hT rfl rfl (by decide)) ?_
    refine Eq.trans (x7 (h := 25) hT rfl) ?_
    refine Eq.trans (x18 (h := 26) hT rfl) ?_
    exact x201 (h := 28) hT rfl
/-! WordLinks$Tape.begin(I)V -/
set_option maxRecDepth 100000 in
theorem e_34 {P : zP} {d : zD P} {a0 : Nat} {a1 : Int} (ha0 : zkd a0 = 10) : MM P 34 [(2, ((a0 : Nat) : Int)), (0, a1)] d = some (0, (((((d.up a0 2 a1)).up a0 3 0)).up a0 4 0)) := by
  have hT := cT_34
  refine Eq.trans (MM_def sm_34 (Nat.le_of_ble_eq_true rfl)) ?_
  change zB P 34 0 [(2, ((a0 : Nat) : Int)), (0, a1)] [] d = _
  refine Eq.trans (x1 (h := 0) hT rfl rfl (by decide)) ?_
  refine Eq.trans (x1 (h := 1) hT rfl rfl (by decide)) ?_
  refine Eq.trans (x22 (r := a0) (cl := 10) (h := 2) hT rfl ha0 (by decide) rfl (by decide)) ?_
  refine Eq.trans (x1 (h := 3) hT rfl rfl (by decide)) ?_
  refine Eq.trans (x0 (h := 4) hT rfl) ?_
  refine Eq.trans (x22 (r := a0) (cl := 10) (h := 5) hT rfl ha0 (by decide) rfl (by decide)) ?_
  refine Eq.trans (x1 (h := 6) hT rfl rfl (by decide)) ?_
  refine Eq.trans (x0 (h := 7) hT rfl) ?_
  refine Eq.trans (x22 (r := a0) (cl := 10) (h := 8) hT rfl ha0 (by decide) rfl (by decide)) ?_
  exact x20 (h := 9) hT rfl
/-! WordLinks$Tape.byteAt(I)I -/
set_option maxRecDepth 100000 in
theorem e_35 {P : zP} {d : zD P} {a0 : Nat} {a1 : Int} (ha0 : zkd a0 = 10) : MM P 35 [(2, ((a0 : Nat) : Int)), (0, a1)] d = (if wr a1 < 0 then some ((-1), d) else (if wr ((d.m a0 1)) ≤ wr a1 then some ((-1), d) else (if zin a1 240 then some ((d.m ((a0 + 1)) (zix a1)), d) else none))) := by
  have hT := cT_35
  refine Eq.trans (MM_def sm_35 (Nat.le_of_ble_eq_true rfl)) ?_
  change zB P 35 0 [(2, ((a0 : Nat) : Int)), (0, a1)] [] d = _
  refine Eq.trans (x1 (h := 0) hT rfl rfl (by decide)) ?_
  refine Eq.trans (x16_2 (h := 1) hT rfl) ?_
  refine xit (fun _ => ?_) (fun _ => ?_)
  · refine Eq.trans (x0 (h := 11) hT rfl) ?_
    exact x201 (h := 12) hT rfl
  · refine Eq.trans (x1 (h := 2) hT rfl rfl (by decide)) ?_
    refine Eq.trans (x1 (h := 3) hT rfl rfl (by decide)) ?_
    refine Eq.trans (x21 (r := a0) (cl := 10) (h := 4) hT rfl ha0) ?_
    refine Eq.trans (x17_3 (h := 5) hT rfl) ?_
    refine xit (fun _ => ?_) (fun _ => ?_)
    · refine Eq.trans (x0 (h := 11) hT rfl) ?_
      exact x201 (h := 12) hT rfl
    · refine Eq.trans (x1 (h := 6) hT rfl rfl (by decide)) ?_
      refine Eq.trans (x21r (r := a0) (cl := 10) (o := 1) (h := 7) hT rfl ha0 (by decide) rfl) ?_
      refine Eq.trans (x1 (h := 8) hT rfl rfl (by decide)) ?_
      refine Eq.trans (x24 (r := (a0 + 1)) (n := 240) (h := 9) hT rfl (Or.inl (kd_10_0 ha0)) (ln_10_0 ha0)) ?_
      refine xig (fun hz1 => ?_)
      refine Eq.trans (x18 (h := 10) hT rfl) ?_
      exact x201 (h := 12) hT rfl
/-! WordLinks$Tape.clear()V -/
set_option maxRecDepth 100000 in
theorem e_36 {P : zP} {d : zD P} {a0 : Nat} (ha0 : zkd a0 = 10) : MM P 36 [(2, ((a0 : Nat) : Int))] d = some (0, (d.up a0 1 0)) := by
  have hT := cT_36
  refine Eq.trans (MM_def sm_36 (Nat.le_of_ble_eq_true rfl)) ?_
  change zB P 36 0 [(2, ((a0 : Nat) : Int))] [] d = _
  refine Eq.trans (x1 (h := 0) hT rfl rfl (by decide)) ?_
  refine Eq.trans (x0 (h := 1) hT rfl) ?_
  refine Eq.trans (x22 (r := a0) (cl := 10) (h := 2) hT rfl ha0 (by decide) rfl (by decide)) ?_
  exact x20 (h := 3) hT rfl
/-! WordLinks$Tape.fail(I)Z -/
set_option maxRecDepth 100000 in
theorem e_37 {P : zP} {d : zD P} {a0 : Nat} {a1 : Int} (ha0 : zkd a0 = 10) : MM P 37 [(2, ((a0 : Nat) : Int)), (0, a1)] d = some (0, (d.up a0 4 a1)) := by
  have hT := cT_37
  refine Eq.trans (MM_def sm_37 (Nat.le_of_ble_eq_true rfl)) ?_
  change zB P 37 0 [(2, ((a0 : Nat) : Int)), (0, a1)] [] d = _
  refine Eq.trans (x1 (h := 0) hT rfl rfl (by decide)) ?_
  refine Eq.trans (x1 (h := 1) hT rfl rfl (by decide)) ?_
  refine Eq.trans (x22 (r := a0) (cl := 10) (h := 2) hT rfl ha0 (by decide) rfl (by decide)) ?_
  refine Eq.trans (x0 (h := 3) hT rfl) ?_
  exact x203c (h := 4) hT rfl (by decide)
/-! WordLinks$Tape.faultAnswer()I -/
set_option maxRecDepth 100000 in
theorem e_38 {P : zP} {d : zD P} {a0 : Nat} (ha0 : zkd a0 = 10) : MM P 38 [(2, ((a0 : Nat) : Int))] d = some ((((-1000) * (d.m a0 4)) - (d.m a0 3)), d) := by
  have hT := cT_38
  refine Eq.trans (MM_def sm_38 (Nat.le_of_ble_eq_true rfl)) ?_
  change zB P 38 0 [(2, ((a0 : Nat) : Int))] [] d = _
  refine Eq.trans (x0 (h := 0) hT rfl) ?_
  refine Eq.trans (x1 (h := 1) hT rfl rfl (by decide)) ?_
  refine Eq.trans (x21 (r := a0) (cl := 10) (h := 2) hT rfl ha0) ?_
  refine Eq.trans (x5_2 (h := 3) hT rfl) ?_
  refine Eq.trans (x1 (h := 4) hT rfl rfl (by decide)) ?_
  refine Eq.trans (x21 (r := a0) (cl := 10) (h := 5) hT rfl ha0) ?_
  refine Eq.trans (x5_1 (h := 6) hT rfl) ?_
  exact x201 (h := 7) hT rfl
/-! WordLinks$Tape.hasRoom(I)Z -/
set_option maxRecDepth 100000 in
theorem e_39 {P : zP} {d : zD P} {a0 : Nat} {a1 : Int} (ha0 : zkd a0 = 10) : MM P 39 [(2, ((a0 : Nat) : Int)), (0, a1)] d = (if wr 240 < wr (((d.m a0 1) + a1)) then some (0, d) else some (1, d)) := by
  have hT := cT_39
  refine Eq.trans (MM_def sm_39 (Nat.le_of_ble_eq_true rfl)) ?_
  change zB P 39 0 [(2, ((a0 : Nat) : Int)), (0, a1)] [] d = _
  refine Eq.trans (x1 (h := 0) hT rfl rfl (by decide)) ?_
  refine Eq.trans (x21 (r := a0) (cl := 10) (h := 1) hT rfl ha0) ?_
  refine Eq.trans (x1 (h := 2) hT rfl rfl (by decide)) ?_
  refine Eq.trans (x5_0 (h := 3) hT rfl) ?_
  refine Eq.trans (x0 (h := 4) hT rfl) ?_
  refine Eq.trans (x17_4 (h := 5) hT rfl) ?_
  refine xit (fun _ => ?_) (fun _ => ?_)
  · refine Eq.trans (x0 (h := 8) hT rfl) ?_
    exact x203c (h := 9) hT rfl (by decide)
  · refine Eq.trans (x0 (h := 6) hT rfl) ?_
    refine Eq.trans (x18 (h := 7) hT rfl) ?_
    exact x203c (h := 9) hT rfl (by decide)
/-! WordLinks$Tape.here()I -/
set_option maxRecDepth 100000 in
theorem e_40 {P : zP} {d : zD P} {a0 : Nat} (ha0 : zkd a0 = 10) : MM P 40 [(2, ((a0 : Nat) : Int))] d = (if wr ((d.m a0 2)) ≤ wr ((d.m a0 3)) then some ((-1), d) else (if wr ((d.m a0 1)) ≤ wr ((d.m a0 3)) then some ((-1), d) else (if zin ((d.m a0 3)) 240 then some ((d.m ((a0 + 1)) (zix ((d.m a0 3)))), d) else none))) := by
  have hT := cT_40
  refine Eq.trans (MM_def sm_40 (Nat.le_of_ble_eq_true rfl)) ?_
  change zB P 40 0 [(2, ((a0 : Nat) : Int))] [] d = _
  refine Eq.trans (x1 (h := 0) hT rfl rfl (by decide)) ?_
  refine Eq.trans (x21 (r := a0) (cl := 10) (h := 1) hT rfl ha0) ?_
  refine Eq.trans (x1 (h := 2) hT rfl rfl (by decide)) ?_
  refine Eq.trans (x21 (r := a0) (cl := 10) (h := 3) hT rfl ha0) ?_
  refine Eq.trans (x17_3 (h := 4) hT rfl) ?_
  refine xit (fun _ => ?_) (fun _ => ?_)
  · refine Eq.trans (x0 (h := 16) hT rfl) ?_
    exact x201 (h := 17) hT rfl
  · refine Eq.trans (x1 (h := 5) hT rfl rfl (by decide)) ?_
    refine Eq.trans (x21 (r := a0) (cl := 10) (h := 6) hT rfl ha0) ?_
    refine Eq.trans (x1 (h := 7) hT rfl rfl (by decide)) ?_
    refine Eq.trans (x21 (r := a0) (cl := 10) (h := 8) hT rfl ha0) ?_
    refine Eq.trans (x17_3 (h := 9) hT rfl) ?_
    refine xit (fun _ => ?_) (fun _ => ?_)
    · refine Eq.trans (x0 (h := 16) hT rfl) ?_
      exact x201 (h := 17) hT rfl
    · refine Eq.trans (x1 (h := 10) hT rfl rfl (by decide)) ?_
      refine Eq.trans (x21r (r := a0) (cl := 10) (o := 1) (h := 11) hT rfl ha0 (by decide) rfl) ?_
      refine Eq.trans (x1 (h := 12) hT rfl rfl (by decide)) ?_
      refine Eq.trans (x21 (r := a0) (cl := 10) (h := 13) hT rfl ha0) ?_
      refine Eq.trans (x24 (r := (a0 + 1)) (n := 240) (h := 14) hT rfl (Or.inl (kd_10_0 ha0)) (ln_10_0 ha0)) ?_
      refine xig (fun hz1 => ?_)
      refine Eq.trans (x18 (h := 15) hT rfl) ?_
      exact x201 (h := 17) hT rfl
/-! WordLinks$Tape.holds(I)Z -/
set_option maxRecDepth 100000 in
theorem e_41 {P : zP} {d : zD P} {a0 : Nat} {a1 : Int} (ha0 : zkd a0 = 10) : MM P 41 [(2, ((a0 : Nat) : Int)), (0, a1)] d = (if wr ((d.m a0 1)) < wr a1 then some (0, d) else some (1, d)) := by
  have hT := cT_41
  refine Eq.trans (MM_def sm_41 (Nat.le_of_ble_eq_true rfl)) ?_
  change zB P 41 0 [(2, ((a0 : Nat) : Int)), (0, a1)] [] d = _
  refine Eq.trans (x1 (h := 0) hT rfl rfl (by decide)) ?_
  refine Eq.trans (x1 (h := 1) hT rfl rfl (by decide)) ?_
  refine Eq.trans (x21 (r := a0) (cl := 10) (h := 2) hT rfl ha0) ?_
  refine Eq.trans (x17_4 (h := 3) hT rfl) ?_
  refine xit (fun _ => ?_) (fun _ => ?_)
  · refine Eq.trans (x0 (h := 6) hT rfl) ?_
    exact x203c (h := 7) hT rfl (by decide)
  · refine Eq.trans (x0 (h := 4) hT rfl) ?_
    refine Eq.trans (x18 (h := 5) hT rfl) ?_
    exact x203c (h := 7) hT rfl (by decide)
/-! WordLinks$Tape.put(I)V -/
set_option maxRecDepth 100000 in
theorem e_42 {P : zP} {d : zD P} {a0 : Nat} {a1 : Int} (ha0 : zkd a0 = 10) : MM P 42 [(2, ((a0 : Nat) : Int)), (0, a1)] d = zB P 42 2 [(2, ((a0 : Nat) : Int)), (0, a1), (0, 24)] [] d := by
  have hT := cT_42
  refine Eq.trans (MM_def sm_42 (Nat.le_of_ble_eq_true rfl)) ?_
  change zB P 42 0 [(2, ((a0 : Nat) : Int)), (0, a1), (3, 0)] [] d = _
  refine Eq.trans (x0 (h := 0) hT rfl) ?_
  refine Eq.trans (x2 (ls' := [(2, ((a0 : Nat) : Int)), (0, a1), (0, 24)]) (h := 1) hT rfl (Nat.le_of_ble_eq_true rfl) rfl) ?_
  exact rfl
set_option maxRecDepth 100000 in
theorem q_42_2 {P : zP} {d : zD P} {a0 : Nat} {a1 : Int} {a2 : Int} (ha0 : zkd a0 = 10) : zB P 42 2 [(2, ((a0 : Nat) : Int)), (0, a1), (0, a2)] [] d = (if wr a2 < 0 then some (0, d) else (if wr 240 ≤ wr ((d.m a0 1)) then zB P 42 2 [(2, ((a0 : Nat) : Int)), (0, a1), (0, (a2 + (-8)))] [] d else (if zin ((d.m a0 1)) 240 then zB P 42 2 [(2, ((a0 : Nat) : Int)), (0, a1), (0, (a2 + (-8)))] [] ((((d.up ((a0 + 1)) (zix ((d.m a0 1))) ((zbin 3 ((zbin 8 a1 a2)) 255)))).up a0 1 (((((d.up ((a0 + 1)) (zix ((d.m a0 1))) ((zbin 3 ((zbin 8 a1 a2)) 255)))).m a0 1) + 1)))) else none))) := by
  have hT := cT_42
  refine Eq.trans (x1 (h := 2) hT rfl rfl (by decide)) ?_
  refine Eq.trans (x16_2 (h := 3) hT rfl) ?_
  refine xit (fun _ => ?_) (fun _ => ?_)
  · exact x20 (h := 26) hT rfl
  · refine Eq.trans (x1 (h := 4) hT rfl rfl (by decide)) ?_
    refine Eq.trans (x21 (r := a0) (cl := 10) (h := 5) hT rfl ha0) ?_
    refine Eq.trans (x0 (h := 6) hT rfl) ?_
    refine Eq.trans (x17_3 (h := 7) hT rfl) ?_
    refine xit (fun _ => ?_) (fun _ => ?_)
    · refine Eq.trans (x4 (ls' := [(2, ((a0 : Nat) : Int)), (0, a1), (0, (a2 + (-8)))]) (h := 24) hT rfl rfl rfl) ?_
      refine Eq.trans (x18 (h := 25) hT rfl) ?_
      exact rfl
    · refine Eq.trans (x1 (h := 8) hT rfl rfl (by decide)) ?_
      refine Eq.trans (x21r (r := a0) (cl := 10) (o := 1) (h := 9) hT rfl ha0 (by decide) rfl) ?_
      refine Eq.trans (x1 (h := 10) hT rfl rfl (by decide)) ?_
      refine Eq.trans (x21 (r := a0) (cl := 10) (h := 11) hT rfl ha0) ?_
      refine Eq.trans (x1 (h := 12) hT rfl rfl (by decide)) ?_
      refine Eq.trans (x1 (h := 13) hT rfl rfl (by decide)) ?_
      refine Eq.trans (x5n (h := 14) hT rfl) ?_
      refine Eq.trans (x0 (h := 15) hT rfl) ?_
      refine Eq.trans (x5n (h := 16) hT rfl) ?_
      refine Eq.trans (x25a (r := (a0 + 1)) (n := 240) (h := 17) hT rfl (kd_10_0 ha0) (ln_10_0 ha0) (by decide) rfl) ?_
      refine xig (fun hz1 => ?_)
      refine Eq.trans (x1 (h := 18) hT rfl rfl (by decide)) ?_
      refine Eq.trans (x13 (h := 19) hT rfl (by decide)) ?_
      refine Eq.trans (x21 (r := a0) (cl := 10) (h := 20) hT rfl ha0) ?_
      refine Eq.trans (x0 (h := 21) hT rfl) ?_
      refine Eq.trans (x5_0 (h := 22) hT rfl) ?_
      refine Eq.trans (x22 (r := a0) (cl := 10) (h := 23) hT rfl ha0 (by decide) rfl (by decide)) ?_
      refine Eq.trans (x4 (ls' := [(2, ((a0 : Nat) : Int)), (0, a1), (0, (a2 + (-8)))]) (h := 24) hT rfl rfl rfl) ?_
      refine Eq.trans (x18 (h := 25) hT rfl) ?_
      exact rfl
/-! WordLinks.isKind(I)Z -/
set_option maxRecDepth 100000 in
theorem e_43 {P : zP} {d : zD P} {a0 : Int} : MM P 43 [(0, a0)] d = (if wr a0 < 0 then some (0, d) else (if wr 6 ≤ wr a0 then some (0, d) else some (1, d))) := by
  have hT := cT_43
  refine Eq.trans (MM_def sm_43 (Nat.le_of_ble_eq_true rfl)) ?_
  change zB P 43 0 [(0, a0)] [] d = _
  refine Eq.trans (x1 (h := 0) hT rfl rfl (by decide)) ?_
  refine Eq.trans (x16_2 (h := 1) hT rfl) ?_
  refine xit (fun _ => ?_) (fun _ => ?_)
  · refine Eq.trans (x0 (h := 7) hT rfl) ?_
    exact x203c (h := 8) hT rfl (by decide)
  · refine Eq.trans (x1 (h := 2) hT rfl rfl (by decide)) ?_
    refine Eq.trans (x0 (h := 3) hT rfl) ?_
    refine Eq.trans (x17_3 (h := 4) hT rfl) ?_
    refine xit (fun _ => ?_) (fun _ => ?_)
    · refine Eq.trans (x0 (h := 7) hT rfl) ?_
      exact x203c (h := 8) hT rfl (by decide)
    · refine Eq.trans (x0 (h := 5) hT rfl) ?_
      refine Eq.trans (x18 (h := 6) hT rfl) ?_
      exact x203c (h := 8) hT rfl (by decide)
/-! WordLinks.isPair(I)Z -/
set_option maxRecDepth 100000 in
theorem e_44 {P : zP} {d : zD P} {a0 : Nat} {a1 : Int} (ha0 : zkd a0 = 11) : MM P 44 [(2, ((a0 : Nat) : Int)), (0, a1)] d = (if wr a1 < 0 then some (0, d) else (if wr ((d.m (((a0 + 3) + 1)) 6)) ≤ wr a1 then some (0, d) else some (1, d))) := by
  have hT := cT_44
  refine Eq.trans (MM_def sm_44 (Nat.le_of_ble_eq_true rfl)) ?_
  change zB P 44 0 [(2, ((a0 : Nat) : Int)), (0, a1)] [] d = _
  refine Eq.trans (x1 (h := 0) hT rfl rfl (by decide)) ?_
  refine Eq.trans (x16_2 (h := 1) hT rfl) ?_
  refine xit (fun _ => ?_) (fun _ => ?_)
  · refine Eq.trans (x0 (h := 10) hT rfl) ?_
    exact x203c (h := 11) hT rfl (by decide)
  · refine Eq.trans (x1 (h := 2) hT rfl rfl (by decide)) ?_
    refine Eq.trans (x1 (h := 3) hT rfl rfl (by decide)) ?_
    refine Eq.trans (x21r (r := a0) (cl := 11) (o := 3) (h := 4) hT rfl ha0 (by decide) rfl) ?_
    refine Eq.trans (x21r (r := (a0 + 3)) (cl := 9) (o := 1) (h := 5) hT rfl (kd_11_1 ha0) (by decide) rfl) ?_
    refine Eq.trans (x21 (r := ((a0 + 3) + 1)) (cl := 0) (h := 6) hT rfl (kd_9_0 (kd_11_1 ha0))) ?_
    refine Eq.trans (x17_3 (h := 7) hT rfl) ?_
    refine xit (fun _ => ?_) (fun _ => ?_)
    · refine Eq.trans (x0 (h := 10) hT rfl) ?_
      exact x203c (h := 11) hT rfl (by decide)
    · refine Eq.trans (x0 (h := 8) hT rfl) ?_
      refine Eq.trans (x18 (h := 9) hT rfl) ?_
      exact x203c (h := 11) hT rfl (by decide)
/-! WordLinks.isSide(I)Z -/
set_option maxRecDepth 100000 in
theorem e_45 {P : zP} {d : zD P} {a0 : Int} : MM P 45 [(0, a0)] d = (if wr a0 = 0 then some (1, d) else (if wr a0 ≠ wr 1 then some (0, d) else some (1, d))) := by
  have hT := cT_45
  refine Eq.trans (MM_def sm_45 (Nat.le_of_ble_eq_true rfl)) ?_
  change zB P 45 0 [(0, a0)] [] d = _
  refine Eq.trans (x1 (h := 0) hT rfl rfl (by decide)) ?_
  refine Eq.trans (x16_0 (h := 1) hT rfl) ?_
  refine xit (fun _ => ?_) (fun _ => ?_)
  · refine Eq.trans (x0 (h := 5) hT rfl) ?_
    refine Eq.trans (x18 (h := 6) hT rfl) ?_
    exact x203c (h := 8) hT rfl (by decide)
  · refine Eq.trans (x1 (h := 2) hT rfl rfl (by decide)) ?_
    refine Eq.trans (x0 (h := 3) hT rfl) ?_
    refine Eq.trans (x17_1 (h := 4) hT rfl) ?_
    refine xit (fun _ => ?_) (fun _ => ?_)
    · refine Eq.trans (x0 (h := 7) hT rfl) ?_
      exact x203c (h := 8) hT rfl (by decide)
    · refine Eq.trans (x0 (h := 5) hT rfl) ?_
      refine Eq.trans (x18 (h := 6) hT rfl) ?_
      exact x203c (h := 8) hT rfl (by decide)
/-! WordLinks.least(I)I -/
set_option maxRecDepth 100000 in
theorem e_46 {P : zP} {d : zD P} {a0 : Nat} {a1 : Int} (ha0 : zkd a0 = 11) : MM P 46 [(2, ((a0 : Nat) : Int)), (0, a1)] d = (if wr a1 < 0 then some ((-1), d) else (if wr a1 ≤ wr 100000 then some ((d.m ((a0 + 3)) 7), (d.up ((a0 + 3)) 7 a1)) else some ((-1), d))) := by
  have hT := cT_46
  refine Eq.trans (MM_def sm_46 (Nat.le_of_ble_eq_true rfl)) ?_
  change zB P 46 0 [(2, ((a0 : Nat) : Int)), (0, a1), (3, 0)] [] d = _
  refine Eq.trans (x1 (h := 0) hT rfl rfl (by decide)) ?_
  refine Eq.trans (x16_2 (h := 1) hT rfl) ?_
  refine xit (fun _ => ?_) (fun _ => ?_)
  · refine Eq.trans (x0 (h := 5) hT rfl) ?_
    exact x201 (h := 6) hT rfl
  · refine Eq.trans (x1 (h := 2) hT rfl rfl (by decide)) ?_
    refine Eq.trans (x0 (h := 3) hT rfl) ?_
    refine Eq.trans (x17_5 (h := 4) hT rfl) ?_
    refine xit (fun _ => ?_) (fun _ => ?_)
    · refine Eq.trans (x1 (h := 7) hT rfl rfl (by decide)) ?_
      refine Eq.trans (x21r (r := a0) (cl := 11) (o := 3) (h := 8) hT rfl ha0 (by decide) rfl) ?_
      refine Eq.trans (x21 (r := (a0 + 3)) (cl := 9) (h := 9) hT rfl (kd_11_1 ha0)) ?_
      refine Eq.trans (x2 (ls' := [(2, ((a0 : Nat) : Int)), (0, a1), (0, (d.m ((a0 + 3)) 7))]) (h := 10) hT rfl (Nat.le_of_ble_eq_true rfl) rfl) ?_
      refine Eq.trans (x1 (h := 11) hT rfl rfl (by decide)) ?_
      refine Eq.trans (x21r (r := a0) (cl := 11) (o := 3) (h := 12) hT rfl ha0 (by decide) rfl) ?_
      refine Eq.trans (x1 (h := 13) hT rfl rfl (by decide)) ?_
      refine Eq.trans (x22 (r := (a0 + 3)) (cl := 9) (h := 14) hT rfl (kd_11_1 ha0) (by decide) rfl (by decide)) ?_
      refine Eq.trans (x1 (h := 15) hT rfl rfl (by decide)) ?_
      exact x201 (h := 16) hT rfl
    · refine Eq.trans (x0 (h := 5) hT rfl) ?_
      exact x201 (h := 6) hT rfl
/-! WordLinks.letterOf(JI)I -/
set_option maxRecDepth 100000 in
theorem e_47 {P : zP} {d : zD P} {a0 : Int} {a2 : Int} : MM P 47 [(1, a0), (0, a2)] d = some ((zbin 3 ((zlsh 1 a0 ((5 * (6 - a2))))) 31), d) := by
  have hT := cT_47
  refine Eq.trans (MM_def sm_47 (Nat.le_of_ble_eq_true rfl)) ?_
  change zB P 47 0 [(1, a0), (3, 0), (0, a2)] [] d = _
  refine Eq.trans (x1 (h := 0) hT rfl rfl (by decide)) ?_
  refine Eq.trans (x0 (h := 1) hT rfl) ?_
  refine Eq.trans (x0 (h := 2) hT rfl) ?_
  refine Eq.trans (x1 (h := 3) hT rfl rfl (by decide)) ?_
  refine Eq.trans (x5_1 (h := 4) hT rfl) ?_
  refine Eq.trans (x5_2 (h := 5) hT rfl) ?_
  refine Eq.trans (x10 (h := 6) hT rfl) ?_
  refine Eq.trans (x121 (h := 7) hT rfl) ?_
  refine Eq.trans (x0 (h := 8) hT rfl) ?_
  refine Eq.trans (x5n (h := 9) hT rfl) ?_
  exact x201 (h := 10) hT rfl
/-! WordLinks.placed(Z)Z -/
set_option maxRecDepth 100000 in
theorem e_48 {P : zP} {d : zD P} {a0 : Nat} {a1 : Int} (ha0 : zkd a0 = 11) : MM P 48 [(2, ((a0 : Nat) : Int)), (0, a1)] d = (if wr ((d.m ((a0 + 3)) 6)) ≠ wr a1 then (if a1 = 0 ∨ a1 = 1 then some (1, (d.up ((a0 + 3)) 6 a1)) else none) else some (0, d)) := by
  have hT := cT_48
  refine Eq.trans (MM_def sm_48 (Nat.le_of_ble_eq_true rfl)) ?_
  change zB P 48 0 [(2, ((a0 : Nat) : Int)), (0, a1)] [] d = _
  refine Eq.trans (x1 (h := 0) hT rfl rfl (by decide)) ?_
  refine Eq.trans (x21r (r := a0) (cl := 11) (o := 3) (h := 1) hT rfl ha0 (by decide) rfl) ?_
  refine Eq.trans (x21 (r := (a0 + 3)) (cl := 9) (h := 2) hT rfl (kd_11_1 ha0)) ?_
  refine Eq.trans (x1 (h := 3) hT rfl rfl (by decide)) ?_
  refine Eq.trans (x17_1 (h := 4) hT rfl) ?_
  refine xit (fun _ => ?_) (fun _ => ?_)
  · refine Eq.trans (x1 (h := 7) hT rfl rfl (by decide)) ?_
    refine Eq.trans (x21r (r := a0) (cl := 11) (o := 3) (h := 8) hT rfl ha0 (by decide) rfl) ?_
    refine Eq.trans (x1 (h := 9) hT rfl rfl (by decide)) ?_
    refine Eq.trans (x22b (r := (a0 + 3)) (cl := 9) (h := 10) hT rfl (kd_11_1 ha0) (by decide) rfl) ?_
    refine xig (fun hz1 => ?_)
    refine Eq.trans (x0 (h := 11) hT rfl) ?_
    exact x203c (h := 12) hT rfl (by decide)
  · refine Eq.trans (x0 (h := 5) hT rfl) ?_
    exact x203c (h := 6) hT rfl (by decide)
/-! WordLinks.withLetter(JII)J -/
set_option maxRecDepth 100000 in
theorem e_49 {P : zP} {d : zD P} {a0 : Int} {a2 : Int} {a3 : Int} : MM P 49 [(1, a0), (0, a2), (0, a3)] d = some ((zlbin 4 a0 ((zlsh 0 ((wr ((a3 - 96)))) ((5 * (6 - a2)))))), d) := by
  have hT := cT_49
  refine Eq.trans (MM_def sm_49 (Nat.le_of_ble_eq_true rfl)) ?_
  change zB P 49 0 [(1, a0), (3, 0), (0, a2), (0, a3)] [] d = _
  refine Eq.trans (x1 (h := 0) hT rfl rfl (by decide)) ?_
  refine Eq.trans (x1 (h := 1) hT rfl rfl (by decide)) ?_
  refine Eq.trans (x0 (h := 2) hT rfl) ?_
  refine Eq.trans (x5_1 (h := 3) hT rfl) ?_
  refine Eq.trans (x12 (h := 4) hT rfl) ?_
  refine Eq.trans (x0 (h := 5) hT rfl) ?_
  refine Eq.trans (x0 (h := 6) hT rfl) ?_
  refine Eq.trans (x1 (h := 7) hT rfl rfl (by decide)) ?_
  refine Eq.trans (x5_1 (h := 8) hT rfl) ?_
  refine Eq.trans (x5_2 (h := 9) hT rfl) ?_
  refine Eq.trans (x10 (h := 10) hT rfl) ?_
  refine Eq.trans (x8n (h := 11) hT rfl) ?_
  exact x202 (h := 12) hT rfl
/-! WordLinksModel.copies(II)V -/
set_option maxRecDepth 100000 in
theorem e_50 {P : zP} {d : zD P} {a0 : Nat} {a1 : Int} {a2 : Int} (ha0 : zkd a0 = 12) : MM P 50 [(2, ((a0 : Nat) : Int)), (0, a1), (0, a2)] d = zB P 50 2 [(2, ((a0 : Nat) : Int)), (0, a1), (0, a2), (0, 0)] [] d := by
  have hT := cT_50
  refine Eq.trans (MM_def sm_50 (Nat.le_of_ble_eq_true rfl)) ?_
  change zB P 50 0 [(2, ((a0 : Nat) : Int)), (0, a1), (0, a2), (3, 0)] [] d = _
  refine Eq.trans (x0 (h := 0) hT rfl) ?_
  refine Eq.trans (x2 (ls' := [(2, ((a0 : Nat) : Int)), (0, a1), (0, a2), (0, 0)]) (h := 1) hT rfl (Nat.le_of_ble_eq_true rfl) rfl) ?_
  exact rfl
set_option maxRecDepth 100000 in
theorem q_50_2 {P : zP} {d : zD P} {a0 : Nat} {a1 : Int} {a2 : Int} {a3 : Int} (ha0 : zkd a0 = 12) : zB P 50 2 [(2, ((a0 : Nat) : Int)), (0, a1), (0, a2), (0, a3)] [] d = (if wr 4545 ≤ wr a3 then some (0, d) else (if zin (((4545 * a1) + a3)) 18180 then (if zin (((4545 * a2) + a3)) 18180 then zB P 50 2 [(2, ((a0 : Nat) : Int)), (0, a1), (0, a2), (0, (a3 + 1))] [] ((d.up ((a0 + 1)) (zix (((4545 * a2) + a3))) ((d.m ((a0 + 1)) (zix (((4545 * a1) + a3))))))) else none) else none)) := by
  have hT := cT_50
  refine Eq.trans (x1 (h := 2) hT rfl rfl (by decide)) ?_
  refine Eq.trans (x0 (h := 3) hT rfl) ?_
  refine Eq.trans (x17_3 (h := 4) hT rfl) ?_
  refine xit (fun _ => ?_) (fun _ => ?_)
  · exact x20 (h := 23) hT rfl
  · refine Eq.trans (x1 (h := 5) hT rfl rfl (by decide)) ?_
    refine Eq.trans (x21r (r := a0) (cl := 12) (o := 1) (h := 6) hT rfl ha0 (by decide) rfl) ?_
    refine Eq.trans (x0 (h := 7) hT rfl) ?_
    refine Eq.trans (x1 (h := 8) hT rfl rfl (by decide)) ?_
    refine Eq.trans (x5_2 (h := 9) hT rfl) ?_
    refine Eq.trans (x1 (h := 10) hT rfl rfl (by decide)) ?_
    refine Eq.trans (x5_0 (h := 11) hT rfl) ?_
    refine Eq.trans (x1 (h := 12) hT rfl rfl (by decide)) ?_
    refine Eq.trans (x21r (r := a0) (cl := 12) (o := 1) (h := 13) hT rfl ha0 (by decide) rfl) ?_
    refine Eq.trans (x0 (h := 14) hT rfl) ?_
    refine Eq.trans (x1 (h := 15) hT rfl rfl (by decide)) ?_
    refine Eq.trans (x5_2 (h := 16) hT rfl) ?_
    refine Eq.trans (x1 (h := 17) hT rfl rfl (by decide)) ?_
    refine Eq.trans (x5_0 (h := 18) hT rfl) ?_
    refine Eq.trans (x24 (r := (a0 + 1)) (n := 18180) (h := 19) hT rfl (Or.inl (kd_12_0 ha0)) (ln_12_0 ha0)) ?_
    refine xig (fun hz1 => ?_)
    refine Eq.trans (x25a (r := (a0 + 1)) (n := 18180) (h := 20) hT rfl (kd_12_0 ha0) (ln_12_0 ha0) (by decide) rfl) ?_
    refine xig (fun hz2 => ?_)
    refine Eq.trans (x4 (ls' := [(2, ((a0 : Nat) : Int)), (0, a1), (0, a2), (0, (a3 + 1))]) (h := 21) hT rfl rfl rfl) ?_
    refine Eq.trans (x18 (h := 22) hT rfl) ?_
    exact rfl
/-! WordLinksModel.costOf(II)I -/
set_option maxRecDepth 100000 in
theorem e_51 {P : zP} {d : zD P} {a0 : Nat} {a1 : Int} {a2 : Int} (ha0 : zkd a0 = 12) : MM P 51 [(2, ((a0 : Nat) : Int)), (0, a1), (0, a2)] d = (if zin a1 5400 then (if wr a2 ≠ 0 then some ((1050 - (zdiv 0 ((1000 * (d.m ((a0 + 22)) (zix a1)))) a2)), d) else none) else none) := by
  have hT := cT_51
  refine Eq.trans (MM_def sm_51 (Nat.le_of_ble_eq_true rfl)) ?_
  change zB P 51 0 [(2, ((a0 : Nat) : Int)), (0, a1), (0, a2)] [] d = _
  refine Eq.trans (x0 (h := 0) hT rfl) ?_
  refine Eq.trans (x0 (h := 1) hT rfl) ?_
  refine Eq.trans (x1 (h := 2) hT rfl rfl (by decide)) ?_
  refine Eq.trans (x21r (r := a0) (cl := 12) (o := 22) (h := 3) hT rfl ha0 (by decide) rfl) ?_
  refine Eq.trans (x1 (h := 4) hT rfl rfl (by decide)) ?_
  refine Eq.trans (x24 (r := (a0 + 22)) (n := 5400) (h := 5) hT rfl (Or.inl (kd_12_29 ha0)) (ln_12_29 ha0)) ?_
  refine xig (fun hz1 => ?_)
  refine Eq.trans (x5_2 (h := 6) hT rfl) ?_
  refine Eq.trans (x1 (h := 7) hT rfl rfl (by decide)) ?_
  refine Eq.trans (x6 (h := 8) hT rfl) ?_
  refine xig (fun hz2 => ?_)
  refine Eq.trans (x5_1 (h := 9) hT rfl) ?_
  exact x201 (h := 10) hT rfl
/-! WordLinksModel.empties([I)V -/
set_option maxRecDepth 100000 in
theorem e_52 {P : zP} {d : zD P} {a0 : Nat} {na0 : Nat} (ha0 : zkd a0 = 20) (la0 : zln P a0 = na0) : MM P 52 [(2, ((a0 : Nat) : Int))] d = zB P 52 2 [(2, ((a0 : Nat) : Int)), (0, 0)] [] d := by
  have hT := cT_52
  refine Eq.trans (MM_def sm_52 (Nat.le_of_ble_eq_true rfl)) ?_
  change zB P 52 0 [(2, ((a0 : Nat) : Int)), (3, 0)] [] d = _
  refine Eq.trans (x0 (h := 0) hT rfl) ?_
  refine Eq.trans (x2 (ls' := [(2, ((a0 : Nat) : Int)), (0, 0)]) (h := 1) hT rfl (Nat.le_of_ble_eq_true rfl) rfl) ?_
  exact rfl
set_option maxRecDepth 100000 in
theorem q_52_2 {P : zP} {d : zD P} {a0 : Nat} {na0 : Nat} {a1 : Int} (ha0 : zkd a0 = 20) (la0 : zln P a0 = na0) : zB P 52 2 [(2, ((a0 : Nat) : Int)), (0, a1)] [] d = (if wr 6 ≤ wr a1 then some (0, d) else (if zin a1 na0 then zB P 52 2 [(2, ((a0 : Nat) : Int)), (0, (a1 + 1))] [] ((d.up a0 (zix a1) 0)) else none)) := by
  have hT := cT_52
  refine Eq.trans (x1 (h := 2) hT rfl rfl (by decide)) ?_
  refine Eq.trans (x0 (h := 3) hT rfl) ?_
  refine Eq.trans (x17_3 (h := 4) hT rfl) ?_
  refine xit (fun _ => ?_) (fun _ => ?_)
  · exact x20 (h := 11) hT rfl
  · refine Eq.trans (x1 (h := 5) hT rfl rfl (by decide)) ?_
    refine Eq.trans (x1 (h := 6) hT rfl rfl (by decide)) ?_
    refine Eq.trans (x0 (h := 7) hT rfl) ?_
    refine Eq.trans (x25a (r := a0) (n := na0) (h := 8) hT rfl ha0 la0 (by decide) rfl) ?_
    refine xig (fun hz1 => ?_)
    refine Eq.trans (x4 (ls' := [(2, ((a0 : Nat) : Int)), (0, (a1 + 1))]) (h := 9) hT rfl rfl rfl) ?_
    refine Eq.trans (x18 (h := 10) hT rfl) ?_
    exact rfl
/-! WordLinksModel.has(II)Z -/
set_option maxRecDepth 100000 in
theorem e_53 {P : zP} {d : zD P} {a0 : Int} {a1 : Int} : MM P 53 [(0, a0), (0, a1)] d = (if wr ((zbin 3 ((zbin 7 a0 a1)) 1)) ≠ wr 1 then some (0, d) else some (1, d)) := by
  have hT := cT_53
  refine Eq.trans (MM_def sm_53 (Nat.le_of_ble_eq_true rfl)) ?_
  change zB P 53 0 [(0, a0), (0, a1)] [] d = _
  refine Eq.trans (x1 (h := 0) hT rfl rfl (by decide)) ?_
  refine Eq.trans (x1 (h := 1) hT rfl rfl (by decide)) ?_
  refine Eq.trans (x5n (h := 2) hT rfl) ?_
  refine Eq.trans (x0 (h := 3) hT rfl) ?_
  refine Eq.trans (x5n (h := 4) hT rfl) ?_
  refine Eq.trans (x0 (h := 5) hT rfl) ?_
  refine Eq.trans (x17_1 (h := 6) hT rfl) ?_
  refine xit (fun _ => ?_) (fun _ => ?_)
  · refine Eq.trans (x0 (h := 9) hT rfl) ?_
    exact x203c (h := 10) hT rfl (by decide)
  · refine Eq.trans (x0 (h := 7) hT rfl) ?_
    refine Eq.trans (x18 (h := 8) hT rfl) ?_
    exact x203c (h := 10) hT rfl (by decide)
/-! WordLinksModel.here()I -/
set_option maxRecDepth 100000 in
theorem e_54 {P : zP} {d : zD P} {a0 : Nat} (ha0 : zkd a0 = 12) : MM P 54 [(2, ((a0 : Nat) : Int))] d = (if wr ((d.m a0 4)) < wr ((d.m a0 5)) then (if wr ((d.m a0 8)) = 0 then (if zin ((d.m a0 4)) 240 then some ((zbin 3 ((d.m ((a0 + 2)) (zix ((d.m a0 4))))) 255), d) else none) else (if zin ((4345 + (d.m a0 4))) 18180 then some ((d.m ((a0 + 1)) (zix ((4345 + (d.m a0 4))))), d) else none)) else some ((-1), d)) := by
  have hT := cT_54
  refine Eq.trans (MM_def sm_54 (Nat.le_of_ble_eq_true rfl)) ?_
  change zB P 54 0 [(2, ((a0 : Nat) : Int))] [] d = _
  refine Eq.trans (x1 (h := 0) hT rfl rfl (by decide)) ?_
  refine Eq.trans (x21 (r := a0) (cl := 12) (h := 1) hT rfl ha0) ?_
  refine Eq.trans (x1 (h := 2) hT rfl rfl (by decide)) ?_
  refine Eq.trans (x21 (r := a0) (cl := 12) (h := 3) hT rfl ha0) ?_
  refine Eq.trans (x17_2 (h := 4) hT rfl) ?_
  refine xit (fun _ => ?_) (fun _ => ?_)
  · refine Eq.trans (x1 (h := 7) hT rfl rfl (by decide)) ?_
    refine Eq.trans (x21 (r := a0) (cl := 12) (h := 8) hT rfl ha0) ?_
    refine Eq.trans (x16_0 (h := 9) hT rfl) ?_
    refine xit (fun _ => ?_) (fun _ => ?_)
    · refine Eq.trans (x1 (h := 18) hT rfl rfl (by decide)) ?_
      refine Eq.trans (x21r (r := a0) (cl := 12) (o := 2) (h := 19) hT rfl ha0 (by decide) rfl) ?_
      refine Eq.trans (x1 (h := 20) hT rfl rfl (by decide)) ?_
      refine Eq.trans (x21 (r := a0) (cl := 12) (h := 21) hT rfl ha0) ?_
      refine Eq.trans (x24 (r := (a0 + 2)) (n := 240) (h := 22) hT rfl (Or.inl (kd_12_2 ha0)) (ln_12_2 ha0)) ?_
      refine xig (fun hz1 => ?_)
      refine Eq.trans (x0 (h := 23) hT rfl) ?_
      refine Eq.trans (x5n (h := 24) hT rfl) ?_
      exact x201 (h := 25) hT rfl
    · refine Eq.trans (x1 (h := 10) hT rfl rfl (by decide)) ?_
      refine Eq.trans (x21r (r := a0) (cl := 12) (o := 1) (h := 11) hT rfl ha0 (by decide) rfl) ?_
      refine Eq.trans (x0 (h := 12) hT rfl) ?_
      refine Eq.trans (x1 (h := 13) hT rfl rfl (by decide)) ?_
      refine Eq.trans (x21 (r := a0) (cl := 12) (h := 14) hT rfl ha0) ?_
      refine Eq.trans (x5_0 (h := 15) hT rfl) ?_
      refine Eq.trans (x24 (r := (a0 + 1)) (n := 18180) (h := 16) hT rfl (Or.inl (kd_12_0 ha0)) (ln_12_0 ha0)) ?_
      refine xig (fun hz2 => ?_)
      refine Eq.trans (x18 (h := 17) hT rfl) ?_
      exact x201 (h := 25) hT rfl
  · refine Eq.trans (x0 (h := 5) hT rfl) ?_
    refine Eq.trans (x18 (h := 6) hT rfl) ?_
    exact x201 (h := 25) hT rfl
/-! WordLinksModel.in(III)Z -/
set_option maxRecDepth 100000 in
theorem e_55 {P : zP} {d : zD P} {a0 : Int} {a1 : Int} {a2 : Int} : MM P 55 [(0, a0), (0, a1), (0, a2)] d = (if wr a0 < wr a1 then some (0, d) else (if wr a2 < wr a0 then some (0, d) else some (1, d))) := by
  have hT := cT_55
  refine Eq.trans (MM_def sm_55 (Nat.le_of_ble_eq_true rfl)) ?_
  change zB P 55 0 [(0, a0), (0, a1), (0, a2)] [] d = _
  refine Eq.trans (x1 (h := 0) hT rfl rfl (by decide)) ?_
  refine Eq.trans (x1 (h := 1) hT rfl rfl (by decide)) ?_
  refine Eq.trans (x17_2 (h := 2) hT rfl) ?_
  refine xit (fun _ => ?_) (fun _ => ?_)
  · refine Eq.trans (x0 (h := 8) hT rfl) ?_
    exact x203c (h := 9) hT rfl (by decide)
  · refine Eq.trans (x1 (h := 3) hT rfl rfl (by decide)) ?_
    refine Eq.trans (x1 (h := 4) hT rfl rfl (by decide)) ?_
    refine Eq.trans (x17_4 (h := 5) hT rfl) ?_
    refine xit (fun _ => ?_) (fun _ => ?_)
    · refine Eq.trans (x0 (h := 8) hT rfl) ?_
      exact x203c (h := 9) hT rfl (by decide)
    · refine Eq.trans (x0 (h := 6) hT rfl) ?_
      refine Eq.trans (x18 (h := 7) hT rfl) ?_
      exact x203c (h := 9) hT rfl (by decide)
/-! WordLinksModel.laysKey(J)V -/
set_option maxRecDepth 100000 in
theorem e_56 {P : zP} {d : zD P} {a0 : Nat} {a1 : Int} (ha0 : zkd a0 = 12) : MM P 56 [(2, ((a0 : Nat) : Int)), (1, a1)] d = (if zin ((d.m a0 30)) 5400 then some (0, (((d.up ((a0 + 21)) (zix ((d.m a0 30))) a1)).up a0 30 (((((d.up ((a0 + 21)) (zix ((d.m a0 30))) a1)).m a0 30) + 1)))) else none) := by
  have hT := cT_56
  refine Eq.trans (MM_def sm_56 (Nat.le_of_ble_eq_true rfl)) ?_
  change zB P 56 0 [(2, ((a0 : Nat) : Int)), (1, a1), (3, 0)] [] d = _
  refine Eq.trans (x1 (h := 0) hT rfl rfl (by decide)) ?_
  refine Eq.trans (x21r (r := a0) (cl := 12) (o := 21) (h := 1) hT rfl ha0 (by decide) rfl) ?_
  refine Eq.trans (x1 (h := 2) hT rfl rfl (by decide)) ?_
  refine Eq.trans (x21 (r := a0) (cl := 12) (h := 3) hT rfl ha0) ?_
  refine Eq.trans (x1 (h := 4) hT rfl rfl (by decide)) ?_
  refine Eq.trans (x25a (r := (a0 + 21)) (n := 5400) (h := 5) hT rfl (kd_12_28 ha0) (ln_12_28 ha0) (by decide) rfl) ?_
  refine xig (fun hz1 => ?_)
  refine Eq.trans (x1 (h := 6) hT rfl rfl (by decide)) ?_
  refine Eq.trans (x1 (h := 7) hT rfl rfl (by decide)) ?_
  refine Eq.trans (x21 (r := a0) (cl := 12) (h := 8) hT rfl ha0) ?_
  refine Eq.trans (x0 (h := 9) hT rfl) ?_
  refine Eq.trans (x5_0 (h := 10) hT rfl) ?_
  refine Eq.trans (x22 (r := a0) (cl := 12) (h := 11) hT rfl ha0 (by decide) rfl (by decide)) ?_
  exact x20 (h := 12) hT rfl
/-! WordLinksModel.letterOf(III)I -/
set_option maxRecDepth 100000 in
theorem e_57 {P : zP} {d : zD P} {a0 : Nat} {a1 : Int} {a2 : Int} {a3 : Int} (ha0 : zkd a0 = 12) : MM P 57 [(2, ((a0 : Nat) : Int)), (0, a1), (0, a2), (0, a3)] d = (if zin ((((504 + (8 * ((40 * a1) + a2))) + 1) + a3)) 18180 then some ((d.m ((a0 + 1)) (zix ((((504 + (8 * ((40 * a1) + a2))) + 1) + a3)))), d) else none) := by
  have hT := cT_57
  refine Eq.trans (MM_def sm_57 (Nat.le_of_ble_eq_true rfl)) ?_
  change zB P 57 0 [(2, ((a0 : Nat) : Int)), (0, a1), (0, a2), (0, a3)] [] d = _
  refine Eq.trans (x1 (h := 0) hT rfl rfl (by decide)) ?_
  refine Eq.trans (x21r (r := a0) (cl := 12) (o := 1) (h := 1) hT rfl ha0 (by decide) rfl) ?_
  refine Eq.trans (x0 (h := 2) hT rfl) ?_
  refine Eq.trans (x0 (h := 3) hT rfl) ?_
  refine Eq.trans (x0 (h := 4) hT rfl) ?_
  refine Eq.trans (x1 (h := 5) hT rfl rfl (by decide)) ?_
  refine Eq.trans (x5_2 (h := 6) hT rfl) ?_
  refine Eq.trans (x1 (h := 7) hT rfl rfl (by decide)) ?_
  refine Eq.trans (x5_0 (h := 8) hT rfl) ?_
  refine Eq.trans (x5_2 (h := 9) hT rfl) ?_
  refine Eq.trans (x5_0 (h := 10) hT rfl) ?_
  refine Eq.trans (x0 (h := 11) hT rfl) ?_
  refine Eq.trans (x5_0 (h := 12) hT rfl) ?_
  refine Eq.trans (x1 (h := 13) hT rfl rfl (by decide)) ?_
  refine Eq.trans (x5_0 (h := 14) hT rfl) ?_
  refine Eq.trans (x24 (r := (a0 + 1)) (n := 18180) (h := 15) hT rfl (Or.inl (kd_12_0 ha0)) (ln_12_0 ha0)) ?_
  refine xig (fun hz1 => ?_)
  exact x201 (h := 16) hT rfl
/-! WordLinksModel.lettersOf(II)I -/
set_option maxRecDepth 100000 in
theorem e_58 {P : zP} {d : zD P} {a0 : Nat} {a1 : Int} {a2 : Int} (ha0 : zkd a0 = 12) : MM P 58 [(2, ((a0 : Nat) : Int)), (0, a1), (0, a2)] d = (if zin ((504 + (8 * ((40 * a1) + a2)))) 18180 then some ((d.m ((a0 + 1)) (zix ((504 + (8 * ((40 * a1) + a2)))))), d) else none) := by
  have hT := cT_58
  refine Eq.trans (MM_def sm_58 (Nat.le_of_ble_eq_true rfl)) ?_
  change zB P 58 0 [(2, ((a0 : Nat) : Int)), (0, a1), (0, a2)] [] d = _
  refine Eq.trans (x1 (h := 0) hT rfl rfl (by decide)) ?_
  refine Eq.trans (x21r (r := a0) (cl := 12) (o := 1) (h := 1) hT rfl ha0 (by decide) rfl) ?_
  refine Eq.trans (x0 (h := 2) hT rfl) ?_
  refine Eq.trans (x0 (h := 3) hT rfl) ?_
  refine Eq.trans (x0 (h := 4) hT rfl) ?_
  refine Eq.trans (x1 (h := 5) hT rfl rfl (by decide)) ?_
  refine Eq.trans (x5_2 (h := 6) hT rfl) ?_
  refine Eq.trans (x1 (h := 7) hT rfl rfl (by decide)) ?_
  refine Eq.trans (x5_0 (h := 8) hT rfl) ?_
  refine Eq.trans (x5_2 (h := 9) hT rfl) ?_
  refine Eq.trans (x5_0 (h := 10) hT rfl) ?_
  refine Eq.trans (x24 (r := (a0 + 1)) (n := 18180) (h := 11) hT rfl (Or.inl (kd_12_0 ha0)) (ln_12_0 ha0)) ?_
  refine xig (fun hz1 => ?_)
  exact x201 (h := 12) hT rfl
/-! WordLinksModel.linkedTo()I -/
set_option maxRecDepth 100000 in
theorem e_59 {P : zP} {d : zD P} {a0 : Nat} (ha0 : zkd a0 = 12) : MM P 59 [(2, ((a0 : Nat) : Int))] d = zB P 59 4 [(2, ((a0 : Nat) : Int)), (0, 0), (0, 0)] [] d := by
  have hT := cT_59
  refine Eq.trans (MM_def sm_59 (Nat.le_of_ble_eq_true rfl)) ?_
  change zB P 59 0 [(2, ((a0 : Nat) : Int)), (3, 0), (3, 0)] [] d = _
  refine Eq.trans (x0 (h := 0) hT rfl) ?_
  refine Eq.trans (x2 (ls' := [(2, ((a0 : Nat) : Int)), (0, 0), (3, 0)]) (h := 1) hT rfl (Nat.le_of_ble_eq_true rfl) rfl) ?_
  refine Eq.trans (x0 (h := 2) hT rfl) ?_
  refine Eq.trans (x2 (ls' := [(2, ((a0 : Nat) : Int)), (0, 0), (0, 0)]) (h := 3) hT rfl (Nat.le_of_ble_eq_true rfl) rfl) ?_
  exact rfl
set_option maxRecDepth 100000 in
theorem q_59_4 {P : zP} {d : zD P} {a0 : Nat} {a1 : Int} {a2 : Int} (ha0 : zkd a0 = 12) : zB P 59 4 [(2, ((a0 : Nat) : Int)), (0, a1), (0, a2)] [] d = (if wr 6 ≤ wr a2 then some (a1, d) else (if zin a2 6 then zB P 59 4 [(2, ((a0 : Nat) : Int)), (0, (zbin 4 a1 ((d.m ((a0 + 17)) (zix a2))))), (0, (a2 + 1))] [] d else none)) := by
  have hT := cT_59
  refine Eq.trans (x1 (h := 4) hT rfl rfl (by decide)) ?_
  refine Eq.trans (x0 (h := 5) hT rfl) ?_
  refine Eq.trans (x17_3 (h := 6) hT rfl) ?_
  refine xit (fun _ => ?_) (fun _ => ?_)
  · refine Eq.trans (x1 (h := 16) hT rfl rfl (by decide)) ?_
    exact x201 (h := 17) hT rfl
  · refine Eq.trans (x1 (h := 7) hT rfl rfl (by decide)) ?_
    refine Eq.trans (x1 (h := 8) hT rfl rfl (by decide)) ?_
    refine Eq.trans (x21r (r := a0) (cl := 12) (o := 17) (h := 9) hT rfl ha0 (by decide) rfl) ?_
    refine Eq.trans (x1 (h := 10) hT rfl rfl (by decide)) ?_
    refine Eq.trans (x24 (r := (a0 + 17)) (n := 6) (h := 11) hT rfl (Or.inl (kd_12_24 ha0)) (ln_12_24 ha0)) ?_
    refine xig (fun hz1 => ?_)
    refine Eq.trans (x5n (h := 12) hT rfl) ?_
    refine Eq.trans (x2 (ls' := [(2, ((a0 : Nat) : Int)), (0, (zbin 4 a1 ((d.m ((a0 + 17)) (zix a2))))), (0, a2)]) (h := 13) hT rfl (Nat.le_of_ble_eq_true rfl) rfl) ?_
    refine Eq.trans (x4 (ls' := [(2, ((a0 : Nat) : Int)), (0, (zbin 4 a1 ((d.m ((a0 + 17)) (zix a2))))), (0, (a2 + 1))]) (h := 14) hT rfl rfl rfl) ?_
    refine Eq.trans (x18 (h := 15) hT rfl) ?_
    exact rfl
