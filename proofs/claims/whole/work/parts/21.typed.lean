/-! METHODS OVER THE LAYOUT: a method takes numbers to an answer and numbers; a row for each instruction. -/
theorem zkeep {P : zP} : ∀ (f : Nat) (code r : List zI) (ls st : List zV) (d : zD P) (b : Nat × Nat) (v : zR) (rk : Nat), (∀ i ∈ code, zsf i = true ∧ (i.1 = 20 → i.2.1 = rk)) → (∀ i ∈ r, zsf i = true ∧ (i.1 = 20 → i.2.1 = rk)) → zev zT f code r (ls, st, zmk P d, b) = some v → ∃ (e : zD P) (x : Int), v = (zrv rk x, zmk P e)
  | 0, _, _, _, _, _, _, _, _, _, _, h => by simp [zev] at h
  | f + 1, _, [], _, _, _, _, _, _, _, _, h => by simp [zev] at h
  | f + 1, code, i :: r, ls, st, d, b, v, rk, hc, hr, h => by
    have hi := hr i List.mem_cons_self
    have ht : ∀ i ∈ r, zsf i = true ∧ (i.1 = 20 → i.2.1 = rk) := fun q hq => hr q (List.mem_cons_of_mem _ hq)
    have k := zstp_kp hi.1 ls st b (d := d)
    have hret : ∀ q, zstp i (ls, st, zmk P d, b) = .inr (.inr (.inl q)) → i.1 = 20 := zstp_ret i (ls, st, zmk P d, b)
    rw [zev] at h
    generalize zstp i (ls, st, zmk P d, b) = o at k h hret
    match o, k, h, hret with
    | .inl (ls', st', w', b'), k, h, _ =>
      obtain ⟨e, rfl⟩ := k
      exact zkeep f _ _ _ _ _ _ _ _ hc ht h
    | .inr (.inl (t, ls', st', w', b')), k, h, _ =>
      have e : w' = zmk P d := k
      subst e
      exact zkeep f _ _ _ _ _ _ _ _ hc (fun q hq => hc q (List.mem_of_mem_drop hq)) h
    | .inr (.inr (.inl (vs, w'))), k, h, hret =>
      obtain ⟨e, x, hx⟩ := k
      subst e
      have e2 := hi.2 (hret _ rfl)
      exact ⟨d, x, by rw [← Option.some.inj h, hx, e2]⟩
    | .inr (.inr (.inr (.inl (j, as, ls', st', w', b')))), k, h, _ =>
      obtain ⟨e, hj⟩ := k
      subst e
      dsimp only at h
      split at h
      · split at h
        · rename_i vs w2 h2
          obtain ⟨e, x, h3⟩ := zkeep f _ _ _ _ _ _ _ _ (zsm_ok2 hj) (zsm_ok2 hj) h2
          have h4 : w2 = zmk P e := congrArg Prod.snd h3
          subst h4
          exact zkeep f _ _ _ _ _ _ _ _ hc ht h
        · cases h
      · cases h
    | .inr (.inr (.inr (.inr ()))), _, h, _ => cases h
noncomputable def zty (P : zP) (o : Option zR) : Option (Int × zD P) := by
  classical
  exact o.bind (fun q => if h : ∃ d : zD P, q.2 = zmk P d then some ((q.1.headD (0, 0)).2, h.choose) else none)
theorem zty_some {P : zP} {vs : List zV} {d : zD P} : zty P (some (vs, zmk P d)) = some ((vs.headD (0, 0)).2, d) := by
  have h : ∃ e : zD P, zmk P d = zmk P e := ⟨d, rfl⟩
  unfold zty
  rw [Option.bind_some, dif_pos h]
  rw [← zmk_inj h.choose_spec]
/-- the method's meaning over the layout -/
noncomputable def MM (P : zP) (j : Nat) (as : List zV) (d : zD P) : Option (Int × zD P) := zty P (zF zT j as (zmk P d))
/-- from a place of the method's code on -/
noncomputable def zB (P : zP) (j h : Nat) (ls st : List zV) (d : zD P) : Option (Int × zD P) := zty P (zX zT (zT j).1 ((zT j).1.drop h) (ls, st, zmk P d, (0, 0)))
theorem zsm_bud {j : Nat} (h : zsm j = true) : (zT j).2.2 = (0, 0) := by
  have hj : j < 334 := by
    unfold zsm at h
    rw [Bool.and_eq_true, decide_eq_true_iff] at h
    exact h.1
  have h1 := List.all_eq_true.mp zsm_all3 j (List.mem_range.mpr hj)
  rw [h] at h1
  exact eq_of_beq (by simpa using h1)
theorem MM_def {P : zP} {j : Nat} {as : List zV} {d : zD P} (h : zsm j = true) (hl : (zarg as).length ≤ (zT j).2.1) : MM P j as d = zB P j 0 (zini (zT j).2.1 as) [] d := by
  unfold MM zB zF
  rw [if_pos hl, zsm_bud h]
  rfl
theorem zF_MM {P : zP} {j : Nat} {as : List zV} {d : zD P} (h : zsm j = true) : zF zT j as (zmk P d) = (MM P j as d).map (fun q => (zrv (zme j).2.1 q.1, zmk P q.2)) := by
  unfold MM
  cases hF : zF zT j as (zmk P d) with
  | none => rfl
  | some v =>
    unfold zF at hF
    split at hF
    · obtain ⟨f, hf⟩ := (zX_iff zT).mp hF
      obtain ⟨e, x, rfl⟩ := zkeep f _ _ _ _ _ _ _ _ (zsm_ok2 h) (zsm_ok2 h) hf
      rw [zty_some]
      simp only [Option.map_some]
      unfold zrv
      split
      · rfl
      · split <;> rfl
    · cases hF
section
variable {P : zP} {j h : Nat} {ls st : List zV} {d : zD P}
theorem zdrop {l : List zI} {h : Nat} {i : zI} (hi : l[h]? = some i) : l.drop h = i :: l.drop (h + 1) := by
  obtain ⟨hl, e⟩ := List.getElem?_eq_some_iff.mp hi
  rw [List.drop_eq_getElem_cons hl, e]
theorem zB_next {i : zI} (hi : (zT j).1[h]? = some i) {ls' st' : List zV} {d' : zD P} (hs : zstp i (ls, st, zmk P d, (0, 0)) = .inl (ls', st', zmk P d', (0, 0))) : zB P j h ls st d = zB P j (h + 1) ls' st' d' := by
  unfold zB
  rw [zdrop hi, zX_next zT hs]
theorem zB_jump {i : zI} (hi : (zT j).1[h]? = some i) {t : Nat} {ls' st' : List zV} (hs : zstp i (ls, st, zmk P d, (0, 0)) = .inr (.inl (t, (ls', st', zmk P d, (0, 0))))) : zB P j h ls st d = zB P j t ls' st' d := by
  unfold zB
  rw [zdrop hi, zX_jump zT hs]
theorem zB_ret {i : zI} (hi : (zT j).1[h]? = some i) {vs : List zV} (hs : zstp i (ls, st, zmk P d, (0, 0)) = .inr (.inr (.inl (vs, zmk P d)))) : zB P j h ls st d = some ((vs.headD (0, 0)).2, d) := by
  unfold zB
  rw [zdrop hi, zX_ret zT hs, zty_some]
theorem zB_call {i : zI} (hi : (zT j).1[h]? = some i) {k : Nat} (hk : zsm k = true) {as ls' st' : List zV} (hs : zstp i (ls, st, zmk P d, (0, 0)) = .inr (.inr (.inr (.inl (k, as, (ls', st', zmk P d, (0, 0))))))) : zB P j h ls st d = (MM P k as d).bind (fun q => zB P j (h + 1) ls' (zrv (zme k).2.1 q.1 ++ st') q.2) := by
  unfold zB
  rw [zdrop hi, zX_call zT hs, zF_MM hk]
  cases MM P k as d with
  | none => rfl
  | some q => rfl
end
