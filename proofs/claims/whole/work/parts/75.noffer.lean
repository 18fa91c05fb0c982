/-! OVER: the model's offers. -/
section
variable {P : zP} {d t : zD P} {F : Nat → Int} {K B : Int → Int} {n kind : Int}
def mFr (i : Int) (d t : zD P) : Prop := Fr 156 159 d t ∧ ∀ j, 0 ≤ j → j ≤ 8 → j ≠ i → t.m 156 (zix j) = d.m 156 (zix j) ∧ t.m 157 (zix j) = d.m 157 (zix j) ∧ t.m 158 (zix j) = d.m 158 (zix j)
theorem mFr.rf {i : Int} {a : zD P} : mFr i a a := ⟨Fr.rf, fun _ _ _ _ => ⟨rfl, rfl, rfl⟩⟩
theorem mFr.tr {i : Int} {a b c : zD P} (h : mFr i a b) (h2 : mFr i b c) : mFr i a c := ⟨h.1.tr h2.1, fun j j0 j1 j2 => ⟨((h2.2 j j0 j1 j2).1).trans (h.2 j j0 j1 j2).1, ((h2.2 j j0 j1 j2).2.1).trans (h.2 j j0 j1 j2).2.1, ((h2.2 j j0 j1 j2).2.2).trans (h.2 j j0 j1 j2).2.2⟩⟩
theorem mput {i x y a : Int} (i0 : 0 ≤ i) (i8 : i ≤ 8) : mFr i t (((t.up 156 (zix i) x).up 157 (zix i) y).up 158 (zix i) a) ∧ (((t.up 156 (zix i) x).up 157 (zix i) y).up 158 (zix i) a).m 156 (zix i) = x ∧ (((t.up 156 (zix i) x).up 157 (zix i) y).up 158 (zix i) a).m 157 (zix i) = y ∧ (((t.up 156 (zix i) x).up 157 (zix i) y).up 158 (zix i) a).m 158 (zix i) = a := by
  have e156 : (((t.up 156 (zix i) x).up 157 (zix i) y).up 158 (zix i) a).m 156 = zfu (t.m 156) (zix i) x := by
    rw [up_ne (by decide), up_ne (by decide), u_156]
  have e157 : (((t.up 156 (zix i) x).up 157 (zix i) y).up 158 (zix i) a).m 157 = zfu (t.m 157) (zix i) y := by
    rw [up_ne (by decide), u_157, up_ne (by decide)]
  have e158 : (((t.up 156 (zix i) x).up 157 (zix i) y).up 158 (zix i) a).m 158 = zfu (t.m 158) (zix i) a := by
    rw [u_158, up_ne (by decide), up_ne (by decide)]
  rw [e156, e157, e158]
  refine ⟨⟨((Fr.rf.up (by omega) (by omega)).up (by omega) (by omega)).up (by omega) (by omega), fun j j0 j1 j2 => ?_⟩, ?_, ?_, ?_⟩
  · rw [e156, e157, e158, zfu_z (by omega), zfu_z (by omega), zfu_z (by omega), if_neg j2, if_neg j2, if_neg j2]
    exact ⟨rfl, rfl, rfl⟩
  · rw [zfu_z (by omega), if_pos rfl]
  · rw [zfu_z (by omega), if_pos rfl]
  · rw [zfu_z (by omega), if_pos rfl]
/-- the least of the offers S stands at a place of the model -/
def mst (t : zD P) (i : Int) (S : Int → Int → Int → Prop) : Prop := lst1 S (t.m 156 (zix i)) (t.m 157 (zix i)) (t.m 158 (zix i))
theorem n_offerS {i a x len c' p' : Int} {S : Int → Int → Int → Prop} (i0 : 0 ≤ i) (l1 : 1 ≤ len) (l3 : i + len ≤ 8) (h : mst t i S) (hS : ∀ u v z, S u v z → (0 ≤ u ∧ u ≤ 1000000) ∧ (0 ≤ v ∧ v ≤ 90) ∧ 0 ≤ z ∧ z ≤ 9999) (hc' : t.m 156 (zix (i + len)) = c') (hp' : t.m 157 (zix (i + len)) = p') (b4 : 0 ≤ c' ∧ c' ≤ 900000) (b5 : 0 ≤ p' ∧ p' ≤ 80) (b6 : 0 ≤ x ∧ x ≤ 2000) (b7 : 0 ≤ a ∧ a ≤ 9999) : Ok (m_offers t i a x len) (fun _ t' => mFr i t t' ∧ mst t' i (offS S (x + c') (1 + p') a)) := by
  have cp := mput (t := t) (i := i) (x := x + c') (y := 1 + p') (a := a) i0 (by omega)
  have m := hS _ _ _ h.1
  refine Ok_mono (n_offers (a := a) (x := x) i0 l1 l3 rfl rfl rfl hc' hp' (by omega) (by omega) (by omega) (by omega) (by omega) b6 b7) (fun v t' g => ?_)
  by_cases c : lx (x + c') (1 + p') a (t.m 156 (zix i)) (t.m 157 (zix i)) (t.m 158 (zix i))
  · rw [g.1 c]
    refine ⟨cp.1, ?_⟩
    unfold mst
    rw [cp.2.1, cp.2.2.1, cp.2.2.2]
    exact lst1_new h c
  · rw [g.2 c]
    exact ⟨mFr.rf, lst1_old h (lx_to c)⟩
theorem n_offer1 {i a x len c' p' : Int} (i0 : 0 ≤ i) (l1 : 1 ≤ len) (l3 : i + len ≤ 8) (h1 : t.m 156 (zix i) = 1000000000) (h2 : t.m 157 (zix i) = 0) (h3 : t.m 158 (zix i) = 9999) (hc' : t.m 156 (zix (i + len)) = c') (hp' : t.m 157 (zix (i + len)) = p') (b4 : 0 ≤ c' ∧ c' ≤ 900000) (b5 : 0 ≤ p' ∧ p' ≤ 80) (b6 : 0 ≤ x ∧ x ≤ 2000) (b7 : 0 ≤ a ∧ a ≤ 9999) : Ok (m_offers t i a x len) (fun _ t' => mFr i t t' ∧ mst t' i (offS (fun _ _ _ => False) (x + c') (1 + p') a)) := by
  have cp := mput (t := t) (i := i) (x := x + c') (y := 1 + p') (a := a) i0 (by omega)
  refine Ok_mono (n_offers (a := a) (x := x) i0 l1 l3 h1 h2 h3 hc' hp' (by omega) (by omega) (by omega) (by omega) (by omega) b6 b7) (fun v t' g => ?_)
  rw [g.1 (by unfold lx; omega)]
  refine ⟨cp.1, ?_⟩
  unfold mst
  rw [cp.2.1, cp.2.2.1, cp.2.2.2]
  exact ⟨Or.inr ⟨rfl, rfl, rfl⟩, fun u v z hs => by
    rcases hs with hs | ⟨rfl, rfl, rfl⟩
    · exact absurd hs id
    · exact lx_rf⟩
end
