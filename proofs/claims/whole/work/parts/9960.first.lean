/-! WHAT HOLDS AT FIRST. -/
section
variable {P : zP}
theorem ykD_v {r k : Nat} {x : Int} (h : 10 ≤ r) (e : ykf (ykcB.getD (r - 10) ykdf) k = x) : (ykD P).m r k = x := by
  show (ykw P ykcB r).2.2 k = x
  unfold ykw
  rw [if_neg (by omega), ← e]
  rfl
theorem ykD_z {r : Nat} (h : 10 ≤ r) (e : (ykcB.getD (r - 10) ykdf).2.2 = (0, [], [])) (k : Nat) : (ykD P).m r k = 0 := by
  refine ykD_v h ?_
  unfold ykf
  rw [e]
  rfl
end
/-- a file of nothing -/
def yF0 : Nat → Int := fun _ => 0
theorem ygoS_0 {F : Nat → Int} {w : Int} {nw : Int → Int → Int} : goS F w 0 nw = F := by
  funext q
  unfold goS
  rw [if_neg (by omega)]
theorem yF0_wf : WFc yF0 := by
  have p0 : prs yF0 = 0 := rfl
  have w0 : ∀ s, wds yF0 s = 0 := fun _ => rfl
  refine ⟨by rw [p0]; omega, fun p s a b => by rw [p0] at b; omega, fun p s i a b => by rw [p0] at b; omega, fun s s0 s1 => ⟨by rw [w0]; omega, fun w a b => by rw [w0] at b; omega⟩, fun p i a b => by rw [p0] at b; omega, ?_, Or.inl rfl, Or.inl rfl⟩
  have l0 : lst yF0 = 0 := rfl
  rw [l0]
  omega
theorem yN_lo {q : Nat} (h : ¬ (1144 ≤ q ∧ q < 4344)) : mkN yF0 q = if 8 ≤ q ∧ q < 24 then 12500 else 0 := mkC_n h
theorem yN_sh {q : Nat} (h : 1144 ≤ q ∧ q < 4344) : mkN yF0 q = -1 := mkC_f h (fun ⟨p, i, j, a, b, c⟩ => by
  have p0 : prs yF0 = 0 := rfl
  rw [p0] at b
  omega)
theorem yN_z {x : Int} (x0 : 0 ≤ x) (x1 : x < 8) : mkN yF0 (zix x) = 0 := by
  rw [yN_lo (by rw [zix_id (by omega)]; omega), if_neg (by rw [zix_id (by omega)]; omega)]
theorem yN_e : mkF yF0 = mkN yF0 := by
  have e0 : wds (mkN yF0) 0 = 0 := yN_z (by omega) (by omega)
  have e1 : wds (mkN yF0) 1 = 0 := yN_z (by omega) (by omega)
  show goS (goS (mkN yF0) 0 (wds (mkN yF0) 0) _) 1 (wds (mkN yF0) 1) _ = _
  rw [e0, e1, ygoS_0, ygoS_0]
theorem yN_shf {w k : Int} (w0 : 0 ≤ w) (w1 : w < 2) (k0 : 0 ≤ k) (k1 : k < 1600) : shf (mkN yF0) w k = -1 := yN_sh (by rw [zix_id (by omega)]; omega)
theorem yN_shr {w u v : Int} (w0 : 0 ≤ w) (w1 : w < 2) (u0 : 0 ≤ u) (u1 : u < 40) (v0 : 0 ≤ v) (v1 : v < 40) : shr (mkN yF0) w u v = -1 := yN_sh (by rw [zix_id (by omega)]; omega)
theorem y_zix {s : Int} (s0 : 0 ≤ s) (s1 : s < 2) : zix s = 0 ∨ zix s = 1 := by
  rw [zix_id (by omega)]
  omega
section
variable {P : zP}
theorem y_ci : CI (ykD P) (mkN yF0) := by
  have p0 : prs (mkN yF0) = 0 := yN_z (by omega) (by omega)
  have w0 : ∀ s, 0 ≤ s → s < 2 → wds (mkN yF0) s = 0 := fun s a b => yN_z (by omega) (by omega)
  refine ⟨⟨wf_mkN yF0_wf, ?_, fun s s0 s1 => ?_, fun s w s0 s1 a b => ?_, fun s u v s0 s1 u0 u1 v0 v1 => ?_, fun s p _ _ a b => ?_, fun s p i _ _ a b => ?_, fun p i a b i0 i1 => ?_, ?_, ?_, ?_⟩, fun w k a b k0 k1 => ?_, fun w k a b k0 k1 => ?_⟩
  · rw [p0]
    exact ykD_v (by omega) (by decide +kernel)
  · rw [w0 s s0 s1]
    exact ykD_z (by omega) rfl _
  · rw [w0 s s0 s1] at b
    omega
  · have z : (ykD P).m (13 + 6 + (1 + zix s)) (zix u) = 0 := by
      rcases y_zix s0 s1 with e | e
      · rw [e]; exact ykD_z (by omega) rfl _
      · rw [e]; exact ykD_z (by omega) rfl _
    rw [z]
    refine ⟨by omega, by omega, ?_⟩
    unfold ptn
    rw [yN_shr s0 s1 u0 u1 v0 v1]
    show (0 : Nat).testBit v.toNat = false
    exact Nat.zero_testBit _
  · rw [p0] at b
    omega
  · rw [p0] at b
    omega
  · rw [p0, if_neg (by omega)]
    exact ykD_z (by omega) rfl _
  · refine Eq.trans (ykD_v (by omega) (by decide +kernel)) (yN_z (x := 2) (by omega) (by omega)).symm
  · refine Eq.trans (ykD_v (by omega) (by decide +kernel)) (yN_z (x := 3) (by omega) (by omega)).symm
  · refine Eq.trans (ykD_v (by omega) (by decide +kernel)) (yN_z (x := 1) (by omega) (by omega)).symm
  · rw [yN_shf a b k0 k1, if_pos rfl]
    rcases y_zix a b with e | e
    · rw [e]; exact ykD_z (by omega) rfl _
    · rw [e]; exact ykD_z (by omega) rfl _
  · rw [mkN_ner a b k0 k1]
    rcases y_zix a b with e | e
    · rw [e]
      rcases (by omega : k = 0 ∨ k = 1 ∨ k = 2 ∨ k = 3 ∨ k = 4 ∨ k = 5 ∨ k = 6 ∨ k = 7) with rfl | rfl | rfl | rfl | rfl | rfl | rfl | rfl <;> exact ykD_v (by omega) (by decide +kernel)
    · rw [e]
      rcases (by omega : k = 0 ∨ k = 1 ∨ k = 2 ∨ k = 3 ∨ k = 4 ∨ k = 5 ∨ k = 6 ∨ k = 7) with rfl | rfl | rfl | rfl | rfl | rfl | rfl | rfl <;> exact ykD_v (by omega) (by decide +kernel)
theorem y_made : ∃ v d2, m_makesNew (ykD P) = some (v, d2) ∧ INV d2 (mkN yF0) (fun _ => 0) 0 := by
  have h133 : (ykD P).m 133 = yF0 := funext (fun k => ykD_z (by omega) rfl k)
  obtain ⟨v, d2, e, f1, f2⟩ := n_makesNew h133 (wf_mkN yF0_wf)
  refine ⟨v, d2, e, ?_⟩
  have er : ∀ r, r < 133 → d2.m r = (ykD P).m r := fun r hr => f2 r (by omega) (by omega)
  have p0 : prs (mkN yF0) = 0 := yN_z (by omega) (by omega)
  have w0 : ∀ s, 0 ≤ s → s < 2 → wds (mkN yF0) s = 0 := fun s a b => yN_z (by omega) (by omega)
  have s0 : shl (mkN yF0) = 0 := by
    unfold shl
    rw [yN_lo (by rw [zix_id (by omega)]; omega), if_neg (by rw [zix_id (by omega)]; omega)]
  refine ⟨y_ci.fr (fun r r0 r1 => er r (by omega)), by rw [f1, yN_e], TQ_0 ?_ ?_, ⟨fun _ => ?_, fun x => absurd s0 x⟩, ⟨by rw [s0]; omega, fun x => absurd s0 x⟩, ⟨fun s a b => ⟨fun w c e => ?_, fun p i w c e => ?_⟩, fun w u v a b c e f g x => absurd (yN_shr a b c e f g) x⟩, ?_, Or.inl ⟨?_, ?_⟩, fun k k0 k1 => ?_⟩
  · rw [er 11 (by omega)]
    exact ykD_v (by omega) (by decide +kernel)
  · rw [er 132 (by omega)]
    exact ykD_v (by omega) (by decide +kernel)
  · rw [er 29 (by omega)]
    exact ykD_v (by omega) (by decide +kernel)
  · rw [w0 s a b] at e
    omega
  · rw [p0] at e
    omega
  · rw [er 132 (by omega)]
    exact ykD_v (by omega) (by decide +kernel)
  · rw [er 10 (by omega)]
    exact ykD_v (by omega) (by decide +kernel)
  · rw [er 132 (by omega)]
    exact ykD_v (by omega) (by decide +kernel)
  · rw [d2.ok 1 (zix k) (zt0 (zix k)) rfl, d2.ok 2 (zix k) (zt1 (zix k)) rfl, d2.ok 3 (zix k) (zt2 (zix k)) rfl]
    rcases (by omega : k = 0 ∨ k = 1 ∨ k = 2 ∨ k = 3 ∨ k = 4) with rfl | rfl | rfl | rfl | rfl <;> decide +kernel
end
