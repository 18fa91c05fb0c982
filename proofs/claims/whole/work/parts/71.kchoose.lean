/-! OVER: the class's choice at a place, whole. -/
section
variable {P : zP} {d t : zD P} {F : Nat → Int} {K B : Int → Int} {n kind : Int}
/-- all but the choice at a place stays -/
def cFr (i : Int) (d t : zD P) : Prop := Fr 127 130 d t ∧ ∀ j, 0 ≤ j → j ≤ 8 → j ≠ i → t.m 127 (zix j) = d.m 127 (zix j) ∧ t.m 128 (zix j) = d.m 128 (zix j) ∧ t.m 129 (zix j) = d.m 129 (zix j)
theorem cFr.tr {i : Int} {a b c : zD P} (h : cFr i a b) (h2 : cFr i b c) : cFr i a c := ⟨h.1.tr h2.1, fun j j0 j1 j2 => ⟨((h2.2 j j0 j1 j2).1).trans (h.2 j j0 j1 j2).1, ((h2.2 j j0 j1 j2).2.1).trans (h.2 j j0 j1 j2).2.1, ((h2.2 j j0 j1 j2).2.2).trans (h.2 j j0 j1 j2).2.2⟩⟩
theorem cput {i x y a : Int} (i0 : 0 ≤ i) (i8 : i ≤ 8) : cFr i t (((t.up 129 (zix i) a).up 127 (zix i) x).up 128 (zix i) y) ∧ (((t.up 129 (zix i) a).up 127 (zix i) x).up 128 (zix i) y).m 127 (zix i) = x ∧ (((t.up 129 (zix i) a).up 127 (zix i) x).up 128 (zix i) y).m 128 (zix i) = y ∧ (((t.up 129 (zix i) a).up 127 (zix i) x).up 128 (zix i) y).m 129 (zix i) = a := by
  have e127 : (((t.up 129 (zix i) a).up 127 (zix i) x).up 128 (zix i) y).m 127 = zfu (t.m 127) (zix i) x := by
    rw [up_ne (by decide), u_127, up_ne (by decide)]
  have e128 : (((t.up 129 (zix i) a).up 127 (zix i) x).up 128 (zix i) y).m 128 = zfu (t.m 128) (zix i) y := by
    rw [u_128, up_ne (by decide), up_ne (by decide)]
  have e129 : (((t.up 129 (zix i) a).up 127 (zix i) x).up 128 (zix i) y).m 129 = zfu (t.m 129) (zix i) a := by
    rw [up_ne (by decide), up_ne (by decide), u_129]
  rw [e127, e128, e129]
  refine ⟨⟨((Fr.rf.up (by omega) (by omega)).up (by omega) (by omega)).up (by omega) (by omega), fun j j0 j1 j2 => ?_⟩, ?_, ?_, ?_⟩
  · rw [e127, e128, e129, zfu_z (by omega), zfu_z (by omega), zfu_z (by omega), if_neg j2, if_neg j2, if_neg j2]
    exact ⟨rfl, rfl, rfl⟩
  · rw [zfu_z (by omega), if_pos rfl]
  · rw [zfu_z (by omega), if_pos rfl]
  · rw [zfu_z (by omega), if_pos rfl]
/-- what stands at a place after the offers S -/
def stands (t : zD P) (i : Int) (S : Int → Int → Int → Prop) : Prop := (t.m 129 (zix i) = -1 ∧ ∀ a b z, ¬ S a b z) ∨ lst1 S (t.m 127 (zix i)) (t.m 128 (zix i)) (t.m 129 (zix i))
theorem k_offerS {i a x len c' p' : Int} {S : Int → Int → Int → Prop} (i0 : 0 ≤ i) (l1 : 1 ≤ len) (l3 : i + len ≤ 8) (h : stands t i S) (hS : ∀ u v z, S u v z → (0 ≤ u ∧ u ≤ 1000000) ∧ (0 ≤ v ∧ v ≤ 90) ∧ 0 ≤ z ∧ z < a) (hc' : t.m 127 (zix (i + len)) = c') (hp' : t.m 128 (zix (i + len)) = p') (b4 : 0 ≤ c' ∧ c' ≤ 900000) (b5 : 0 ≤ p' ∧ p' ≤ 80) (b6 : 0 ≤ x ∧ x ≤ 2000) (b7 : 0 ≤ a ∧ a ≤ 9999) : Ok (pu_offer t i a x len) (fun _ t' => cFr i t t' ∧ lst1 (offS S (x + c') (1 + p') a) (t'.m 127 (zix i)) (t'.m 128 (zix i)) (t'.m 129 (zix i))) := by
  have cp := cput (t := t) (i := i) (x := x + c') (y := 1 + p') (a := a) i0 (by omega)
  rcases h with ⟨h, hn⟩ | h
  · refine Ok_of (k_offer0 i0 l1 l3 h hc' hp') ⟨cp.1, ?_⟩
    rw [cp.2.1, cp.2.2.1, cp.2.2.2]
    exact ⟨Or.inr ⟨rfl, rfl, rfl⟩, fun u v z hs => by
      rcases hs with hs | ⟨rfl, rfl, rfl⟩
      · exact absurd hs (hn _ _ _)
      · exact lx_rf⟩
  · have m := hS _ _ _ h.1
    refine Ok_mono (k_offer (a := a) (x := x) i0 l1 l3 rfl rfl rfl hc' hp' (by omega) (by omega) (by omega) (by omega) (by omega) b6 (by omega)) (fun v t' g => ?_)
    by_cases c : lx (x + c') (1 + p') a (t.m 127 (zix i)) (t.m 128 (zix i)) (t.m 129 (zix i))
    · rw [g.1 (Or.inr c)]
      refine ⟨cp.1, ?_⟩
      rw [cp.2.1, cp.2.2.1, cp.2.2.2]
      exact lst1_new h c
    · rw [g.2 (fun hh => by rcases hh with hh | hh; omega; exact c hh)]
      exact ⟨⟨Fr.rf, fun _ _ _ _ => ⟨rfl, rfl, rfl⟩⟩, lst1_old h (lx_to c)⟩
end
