section
variable {p : Program} {l : Launch} {e : Env} {R : Room} {s : State} {m : MethodId} {args : Array Value} {below : List Frame} {meth : Method} {c : Code} {Q : State → Prop} {D : va_G} {cA : Nat → ClassId} {ro : Nat → Nat} {b : Nat} {w0 : zW} {nL mcT msT : Nat} {cc : ByteArray} {own : String} {pc : Nat} {ls st : List zV} {w : zW} {bc bs : Nat}
variable {T : Nat → List zI × Nat × Nat × Nat} {X : zTabs} {M : zMe} {res : zR}
/-- THE WALK: what the abstract machine comes to, the machine comes to -/
theorem zwalk {code : List zI} {pcs : List Nat} (C : zCx p s m c args cc nL (zon M.1) D cA ro b w0) (hX : zTabsOk X) (hR : mcT ≤ R.cells ∧ msT ≤ R.slots) (hfr : M.2.2.2 ≤ R.frames) (hlo : 40 * M.2.2.2 + 40 ≤ R.locals) (hini : M.2.2.1 = true → meth.name = "<init>") (hRet : ∀ (pc : Nat) (ls : List zV) (vs : List zV) (w : zW) (bc bs : Nat), (vs, w) = res → ((M.2.1 = 0 ∧ vs = [] ∧ decode cc pc = .ok (.return_, 1)) ∨ (M.2.1 = 1 ∧ (∃ v, vs = [(0, v)]) ∧ decode cc pc = .ok (.ireturn, 1)) ∨ (M.2.1 = 2 ∧ (∃ v, vs = [(1, v)]) ∧ decode cc pc = .ok (.lreturn, 1)) ∨ (M.2.1 = 3 ∧ (∃ v, vs = [(0, v)] ∧ (v = 0 ∨ v = 1)) ∧ decode cc pc = .ok (.ireturn, 1))) → zG p l e R s m args below meth c Q D cA ro b w0 nL mcT msT pc (ls, vs, w, bc, bs)) (hL : zckL X M cc pcs 0 0 code = true) {F : Nat} (hIH : ∀ g, g < F → ∀ j, (X.2.2.2.2.2.2.2.2 j).1.2.2.2.2.1 < M.2.2.2 → ∀ as w vs w', (zarg as).length ≤ (T j).2.1 → zev T g (T j).1 (T j).1 (zini (T j).2.1 as, [], w, (T j).2.2) = some (vs, w') → zCon l D cA ro b w0 (X.2.2.2.2.2.2.2.2 j).1 as w vs w') : ∀ f, f ≤ F → ∀ (rest : List zI) (idx pc : Nat) (x : zS), zckL X M cc pcs idx pc rest = true → zev T f code rest x = some res → zG p l e R s m args below meth c Q D cA ro b w0 nL mcT msT pc x
  | 0, _, rest, idx, pc, x, _, h => by simp [zev] at h
  | f + 1, hf, [], idx, pc, x, _, h => by simp [zev] at h
  | f + 1, hf, i :: r, idx, pc, x, hc, h => by
    have ih := fun rest idx pc x hc h => zwalk C hX hR hfr hlo hini hRet hL hIH f (by omega) rest idx pc x hc h
    unfold zckL at hc
    rw [Bool.and_eq_true, decide_eq_true_iff] at hc
    obtain ⟨-, hc⟩ := hc
    split at hc
    · rename_i ji len hd
      rw [Bool.and_eq_true] at hc
      obtain ⟨hk, hr⟩ := hc
      have st := zk_step (pc := pc) (tp := fun t => pcs.getD t 0) C hX hR hfr hlo hini hRet hd hk x
      rw [zev] at h
      generalize zstp i x = o at st h
      match o, st, h with
      | .inl x', st, h => exact st (ih r (idx + 1) (pc + len) x' hr h)
      | .inr (.inl (t, x')), st, h =>
        refine st (ih (code.drop t) t (pcs.getD t 0) x' ?_ h)
        by_cases ht : t < code.length
        · have := zckL_drop hL t ht
          rw [Nat.zero_add] at this
          exact this
        · rw [List.drop_eq_nil_of_le (by omega)]
          rfl
      | .inr (.inr (.inl v)), st, h => exact st (Option.some.inj h)
      | .inr (.inr (.inr (.inl (j, as, (ls, st1, w, bc, bs))))), st, h =>
        dsimp only at h
        split at h
        · rename_i h0
          split at h
          · rename_i vs w' h2
            exact st vs w' (fun hrk => hIH f (by omega) j hrk as w vs w' h0 h2) (ih r (idx + 1) (pc + len) _ hr h)
          · cases h
        · cases h
      | .inr (.inr (.inr (.inr ()))), st, h => cases h
    · cases hc
end
/-- what the check has found of a method -/
def zMeth (T : Nat → List zI × Nat × Nat × Nat) (X : zTabs) (me : Nat → zMe) (pcs : Nat → List Nat) (j : Nat) : Prop :=
  zckL X (me j) (X.2.2.2.2.2.2.2.2 j).1.2.1 (pcs j) 0 0 (T j).1 = true ∧ zon (me j).1 = (X.2.2.2.2.2.2.2.2 j).1.1.cls ∧ (me j).2.2.2 = (X.2.2.2.2.2.2.2.2 j).1.2.2.2.2.1 ∧ ((me j).2.2.1 = true → (X.2.2.2.2.2.2.2.2 j).1.1.name = "<init>") ∧ plainName (X.2.2.2.2.2.2.2.2 j).1.1.cls = true ∧
  (T j).2 = ((X.2.2.2.2.2.2.2.2 j).1.2.2.1, (X.2.2.2.2.2.2.2.2 j).1.2.2.2.2.2.1, (X.2.2.2.2.2.2.2.2 j).1.2.2.2.2.2.2) ∧ (X.2.2.2.2.2.2.2.2 j).1.2.2.2.2.1 < 12 ∧ Cond.code (X.2.2.2.2.2.2.2.2 j).1.1 (X.2.2.2.2.2.2.2.2 j).1.2.1 (X.2.2.2.2.2.2.2.2 j).1.2.2.1 (X.2.2.2.2.2.2.2.2 j).1.2.2.2.1 ∈ zgt ∧
  (((me j).2.1 = 0 ∧ (X.2.2.2.2.2.2.2.2 j).1.2.2.2.1 = none) ∨ ((me j).2.1 = 1 ∧ (X.2.2.2.2.2.2.2.2 j).1.2.2.2.1 = some .int) ∨ ((me j).2.1 = 2 ∧ (X.2.2.2.2.2.2.2.2 j).1.2.2.2.1 = some .long) ∨ ((me j).2.1 = 3 ∧ (X.2.2.2.2.2.2.2.2 j).1.2.2.2.1 = some .boolean))
theorem zini_len {n : Nat} {as : List zV} (h : (zarg as).length ≤ n) : (zini n as).length = n := by
  unfold zini
  rw [List.length_append, List.length_replicate]
  omega
theorem zini_has {ro : Nat → Nat} {b n : Nat} {as : List zV} (h : (zarg as).length ≤ n) : lv_has ((lg_sl (as.map (zval ro b)) ++ List.replicate (n - (lg_sl (as.map (zval ro b))).length) Slot.unset).toArray) n (zlv ro b 0 (zini n as)) := by
  refine zlv_less (lv_entry (as.map (zval ro b)) (n := n) (by rw [zarg_sl]; exact h)) (fun q hq => ?_)
  exact zarg_mem as 0 _ (fun v hv => by rw [(List.mem_replicate.mp hv).2]) q hq
/-- every method's contract, from its meaning in the abstract machine -/
theorem zcons {T : Nat → List zI × Nat × Nat × Nat} {X : zTabs} {me : Nat → zMe} {pcs : Nat → List Nat} (l : Launch) (D : va_G) (cA : Nat → ClassId) (ro : Nat → Nat) (b : Nat) (w0 : zW) (hX : zTabsOk X) (hM : ∀ j, (X.2.2.2.2.2.2.2.2 j).1.2.2.2.2.1 < 12 → zMeth T X me pcs j) : ∀ (F j : Nat), (X.2.2.2.2.2.2.2.2 j).1.2.2.2.2.1 < 12 → ∀ as w vs w', (zarg as).length ≤ (T j).2.1 → zev T F (T j).1 (T j).1 (zini (T j).2.1 as, [], w, (T j).2.2) = some (vs, w') → zCon l D cA ro b w0 (X.2.2.2.2.2.2.2.2 j).1 as w vs w' := by
  intro F
  induction F using Nat.strongRecOn with
  | ind F IH =>
    intro j hj as w vs w' hlen hev n
    obtain ⟨h1, h2, h3, h4, h5, h6, h7, h8, h9⟩ := hM j hj
    refine Met.ofW (cc := (X.2.2.2.2.2.2.2.2 j).1.2.1) (maxL := (X.2.2.2.2.2.2.2.2 j).1.2.2.1) (ret := (X.2.2.2.2.2.2.2.2 j).1.2.2.2.1) h5 rfl ?_
    intro p e s m args below meth c s₁ B hml hP
    obtain ⟨rfl, hHR, hKp⟩ := hP
    have hts := atoms_spec (ws := zwsm (X.2.2.2.2.2.2.2.2 j).1) B.pre
    have hown : s.vm.findClass (zon (me j).1) = some m.cls := by rw [h2]; exact findClass_of_methodNamed B.named
    have hnam := (name_of_methodNamed B.named B.method).1
    have C : zCx p s m c ((as.map (zval ro b)).toArray) (X.2.2.2.2.2.2.2.2 j).1.2.1 (X.2.2.2.2.2.2.2.2 j).1.2.2.1 (zon (me j).1) D cA ro b w0 := ⟨B.exec, B.bytes, hml, hown, fun q hq => hts q (List.mem_cons_of_mem _ hq), hKp⟩
    have hlocks := B.notSynchronized
    have hr := B.returns
    rw [h6] at hlen hev
    have key := zwalk (T := T) (X := X) (M := me j) (res := (vs, w')) (R := zrm (X.2.2.2.2.2.2.2.2 j).1) (l := l) (e := e) (below := below) (meth := meth) (Q := MQ below (zQc D cA ro b w0 vs w') ((as.map (zval ro b)).toArray) s (X.2.2.2.2.2.2.2.2 j).1.2.2.2.2.2.1 (X.2.2.2.2.2.2.2.2 j).1.2.2.2.2.2.2 (fun q => b ≤ q)) (mcT := (X.2.2.2.2.2.2.2.2 j).1.2.2.2.2.2.1) (msT := (X.2.2.2.2.2.2.2.2 j).1.2.2.2.2.2.2) C hX ⟨Nat.le_refl _, Nat.le_refl _⟩ (by rw [h3]; exact Nat.le_refl _) (by rw [h3]; exact Nat.le_refl _) (fun h => by rw [hnam]; exact h4 h) (by
      intro pc ls vs1 w1 bc bs hres hd
      cases hres
      rcases hd with ⟨g1, rfl, hd⟩ | ⟨g1, ⟨v, rfl⟩, hd⟩ | ⟨g1, ⟨v, rfl⟩, hd⟩ | ⟨g1, ⟨v, rfl, hv⟩, hd⟩
      · rcases h9 with h | h | h | h
        · exact zo_ret0 C (hr.trans h.2) hlocks hd
        · omega
        · omega
        · omega
      · rcases h9 with h | h | h | h
        · omega
        · exact zo_ret1 C (hr.trans h.2) hlocks hd
        · omega
        · omega
      · rcases h9 with h | h | h | h
        · omega
        · omega
        · exact zo_ret2 C (hr.trans h.2) hlocks hd
        · omega
      · rcases h9 with h | h | h | h
        · omega
        · omega
        · omega
        · exact zo_ret3 C hv (hr.trans h.2) hlocks hd) h1 (F := F) (fun g hg j2 hrk as2 w2 vs2 w2' hl2 hev2 => IH g hg j2 (by omega) as2 w2 vs2 w2' hl2 hev2) F (Nat.le_refl _) (T j).1 0 0 _ h1 hev
    have k2 := key n s.heap [] 0 0 _ hHR va_S.rf (zini_len hlen) (zini_has hlen) (Nat.le_of_eq (Nat.zero_add _)) (Nat.le_of_eq (Nat.zero_add _))
    rw [lg_entry_eq]
    exact k2
