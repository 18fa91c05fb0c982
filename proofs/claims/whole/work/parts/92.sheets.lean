/-! SHEETS, both sides. -/
def shl (F : Nat → Int) : Int := F (zix 4344)
/-- the signs that a file keeps of its sheets -/
def sgF (F : Nat → Int) : Int → Int := fun k => if 0 ≤ k ∧ k < shl F then F (zix (4345 + k)) else -1
def WFs (F : Nat → Int) : Prop := (0 ≤ shl F ∧ shl F ≤ 200) ∧ (shl F ≠ 0 → sgn (sgF F) (shl F) ∧ (shs (sgF F) (shl F)).1 = 0)
/-- the class's sheets, at cell b -/
def RepD (m : Nat → Nat → Int) (b : Nat) (F : Nat → Int) : Prop := (shl F = 0 → m (b + 16) 2 = 0) ∧ (shl F ≠ 0 → rO m (b + 16) (shn (sgF F) 0) (hln (sgF F) (shq (sgF F) 0)) (hky (sgF F) (shq (sgF F) 0)) ∧ rO m (b + 19) (shn (sgF F) 1) (hln (sgF F) (shq (sgF F) 1)) (hky (sgF F) (shq (sgF F) 1)))
noncomputable def shF (F : Nat → Int) (H : Int → Int) (n : Int) : Nat → Int := fun q => if q = 4344 then n else if 4345 ≤ q ∧ (q : Int) < 4345 + n then H ((q : Int) - 4345) else F q
theorem shF_l {F : Nat → Int} {H : Int → Int} {n : Int} : shl (shF F H n) = n := by
  unfold shl shF
  rw [zix_id (by omega)]
  exact if_pos rfl
theorem shF_s {F : Nat → Int} {H : Int → Int} {n : Int} (sg : sgn H n) : ∀ k, 0 ≤ k → sgF (shF F H n) k = H k := fun k k0 => by
  have n240 := sg.2.2
  unfold sgF
  rw [shF_l]
  by_cases c : k < n
  · rw [if_pos ⟨k0, c⟩]
    unfold shF
    rw [zix_id (by omega), if_neg (by omega), if_pos (by omega)]
    congr 1
    omega
  · rw [if_neg (by omega), sg.2.1 k (by omega)]
theorem shF_e {F : Nat → Int} {H : Int → Int} {n : Int} (sg : sgn H n) (hneg : ∀ k, k < 0 → H k = -1) : sgF (shF F H n) = H := by
  funext k
  by_cases c : 0 ≤ k
  · exact shF_s sg k c
  · rw [hneg k (by omega)]
    unfold sgF
    rw [if_neg (by omega)]
section
variable {P : zP} {d t : zD P}
theorem Fx.cp {S : Nat → Prop} {a b : zD P} (h : Fx S a b) {r1 r2 x y n : Nat} (h1 : S r2) : Fx S a (b.cp r1 r2 x y n) := fun r' hr => (cp_ne (fun e => hr (by rw [e]; exact h1))).trans (h r' hr)
theorem r_takeAll {a b : Nat} (hb : zkd b = 7) (ha : zkd a = 7) (h1 : zkd (b + 1) = 20 ∨ zkd (b + 1) = 21 ∨ zkd (b + 1) = 22) (h2 : zkd (b + 2) = 20 ∨ zkd (b + 2) = 21 ∨ zkd (b + 2) = 22) (hab : a + 2 < b ∨ b + 2 < a) : ∃ s, rw_takeAll t b a = some (0, s) ∧ Fx (bS b) t s ∧ s.m b 2 = t.m a 2 ∧ (∀ k, k < 12 → s.m (b + 1) k = t.m (a + 1) k) ∧ (∀ k, k < 96 → s.m (b + 2) k = t.m (a + 2) k) := by
  have z0 : zix 0 = 0 := by rw [zix_id (by omega)]; rfl
  have z12 : zix 12 = 12 := by rw [zix_id (by omega)]; rfl
  have z96 : zix 96 = 96 := by rw [zix_id (by omega)]; rfl
  rw [rw_takeAll_e hb ha, if_pos (by rw [z0, z12, wr_id (by omega), wr_id (by omega)]; omega), if_pos (by rw [z0, z96, wr_id (by omega), wr_id (by omega)]; omega), z0, z12, z96]
  refine ⟨_, rfl, ((Fx.rf.up ⟨by omega, by omega⟩).cp ⟨by omega, by omega⟩).cp ⟨by omega, by omega⟩, ?_, fun k hk => ?_, fun k hk => ?_⟩
  · rw [cp_ne (by omega), cp_ne (by omega), up_ob hb (by decide) (by decide), zfu_n, if_pos rfl]
  · rw [cp_ne (by omega), cp_ar h1, up_ne (by omega)]
    unfold zcp
    rw [if_pos (by omega)]
    congr 1
    omega
  · rw [cp_ar h2, cp_ne (by omega), up_ne (by omega)]
    unfold zcp
    rw [if_pos (by omega)]
    congr 1
    omega
theorem rO.eq {s : zD P} {a b : Nat} {R : Int} {ln : Int → Int} {ky : Int → Int → Int} (h : rO t.m a R ln ky) (e0 : s.m b 2 = t.m a 2) (e1 : ∀ k, k < 12 → s.m (b + 1) k = t.m (a + 1) k) (e2 : ∀ k, k < 96 → s.m (b + 2) k = t.m (a + 2) k) : rO s.m b R ln ky := by
  obtain ⟨h1, h2, h3, h4⟩ := h
  refine ⟨e0.trans h1, h2, fun r r0 r1 => ?_, fun r i r0 r1 i0 i1 => ?_⟩
  · rw [e1 _ (by rw [zix_id (by omega)]; omega)]
    exact h3 r r0 r1
  · have l := (h3 r r0 r1).2
    rw [e2 _ (by rw [zix_id (by omega)]; omega)]
    exact h4 r i r0 r1 i0 i1
/-- the tapes are alike -/
def TQ (d : zD P) (B : Int → Int) (T : Int) : Prop := d.m 11 1 = T ∧ d.m 132 3 = T ∧ (0 ≤ T ∧ T ≤ 240) ∧ ∀ k, 0 ≤ k → k < T → d.m 12 (zix k) = B k ∧ zbin 3 (d.m 134 (zix k)) 255 = B k ∧ 0 ≤ B k ∧ B k ≤ 255
/-- the first signs of a tape -/
def cutB (B : Int → Int) (n : Int) : Int → Int := fun k => if 0 ≤ k ∧ k < n then B k else -1
/-- the model's tape -/
def TN (d : zD P) (B : Int → Int) (T : Int) : Prop := d.m 132 3 = T ∧ (0 ≤ T ∧ T ≤ 240) ∧ ∀ k, 0 ≤ k → k < T → zbin 3 (d.m 134 (zix k)) 255 = B k ∧ 0 ≤ B k ∧ B k ≤ 255
theorem TQ.n {B : Int → Int} {T : Int} (h : TQ d B T) : TN d B T := ⟨h.2.1, h.2.2.1, fun k k0 k1 => (h.2.2.2 k k0 k1).2⟩
theorem cutB_s {B : Int → Int} {n T : Int} (h : TN d B T) (n0 : 0 ≤ n) (nT : n ≤ T) : sgn (cutB B n) n := by
  refine ⟨fun k k0 k1 => ?_, fun k k0 => ?_, n0, by have := h.2.1; omega⟩
  · unfold cutB
    rw [if_pos ⟨k0, k1⟩]
    exact (h.2.2 k k0 (by omega)).2
  · unfold cutB
    rw [if_neg (by omega)]
theorem cutB_k {B : Int → Int} {n T : Int} (h : TQ d B T) (nT : n ≤ T) : ∀ k, 0 ≤ k → k < n → d.m 12 (zix k) = cutB B n k := fun k k0 k1 => by
  unfold cutB
  rw [if_pos ⟨k0, k1⟩]
  exact (h.2.2.2 k k0 (by omega)).1
theorem cutB_n {B : Int → Int} {n T : Int} (h : TN d B T) (nT : n ≤ T) : ∀ k, 0 ≤ k → k < n → zbin 3 (d.m 134 (zix k)) 255 = cutB B n k := fun k k0 k1 => by
  unfold cutB
  rw [if_pos ⟨k0, k1⟩]
  exact (h.2.2 k k0 (by omega)).1
theorem k_holds {T n : Int} (hT : d.m 11 1 = T) (T0 : 0 ≤ T ∧ T ≤ 240) (hn : I32 n) : tp_holds d n = some (bi (decide (n ≤ T)), d) := by
  unfold I32 at hn
  rw [tp_holds_e, hT, wr_id (by omega), wr_id (by omega)]
  by_cases c : n ≤ T
  · rw [if_neg (by omega), bi_t c]
  · rw [if_pos (by omega), bi_f c]
theorem k_faultA {f p : Int} (hf : d.m 11 4 = f) (hp : d.m 11 3 = p) : tp_faultAnswer d = some (-1000 * f - p, d) := by
  rw [tp_faultAnswer_e, hf, hp]
theorem k_clear : ∃ s, tp_clear t = some (0, s) ∧ Fx (fun r => r = 11) t s ∧ s.m 11 1 = 0 ∧ s.m 11 3 = t.m 11 3 ∧ s.m 11 4 = t.m 11 4 := by
  rw [tp_clear_e]
  refine ⟨_, rfl, Fx.rf.up rfl, ?_, ?_, ?_⟩
  · rw [u_11_1, zfu_n, if_pos rfl]
  · rw [u_11_1, zfu_n, if_neg (by decide)]
  · rw [u_11_1, zfu_n, if_neg (by decide)]
/-- the cells that reading and keeping sheets touches, of the class -/
def kSh : Nat → Prop := fun r => r = 11 ∨ (29 ≤ r ∧ r < 35) ∨ (97 ≤ r ∧ r < 103)
theorem t2_k : ∀ r, t2S r → kSh r := fun r h => by
  unfold t2S bS at h
  unfold kSh
  omega
/-- what sheets answers -/
def shA (H : Int → Int) (n : Int) : Int := if (shs H n).1 = 0 then shn H 0 + shn H 1 else -1000 * (shs H n).1 - (shs H n).2
theorem k_sheets {B : Int → Int} {T n : Int} (h : TQ d B T) (hn : I32 n) : Ok (wl_sheets d n) (fun v s => if 1 ≤ n ∧ n ≤ 200 ∧ n ≤ T then (v = shA (cutB B n) n ∧ Fx kSh d s ∧ s.m 11 1 = 0 ∧ ((shs (cutB B n) n).1 = 0 → rO s.m 29 (shn (cutB B n) 0) (hln (cutB B n) (shq (cutB B n) 0)) (hky (cutB B n) (shq (cutB B n) 0)) ∧ rO s.m 32 (shn (cutB B n) 1) (hln (cutB B n) (shq (cutB B n) 1)) (hky (cutB B n) (shq (cutB B n) 1))) ∧ ((shs (cutB B n) n).1 ≠ 0 → ∀ r, 29 ≤ r → r < 35 → s.m r = d.m r)) else (v = -1 ∧ s = d)) := by
  have hT := h.2.2.1
  have hn' := hn
  unfold I32 at hn'
  rw [wl_sheets_e]
  by_cases c1 : 1 ≤ n ∧ n ≤ 200 ∧ n ≤ T
  · have n1 := c1.1
    have n2 := c1.2.1
    have n3 := c1.2.2
    have sg := cutB_s h.n (n := n) (by omega) n3
    simp only [if_pos c1]
    rw [wr_id (by omega), wr_id (by omega), wr_id (by omega), if_neg (by omega), if_neg (by omega), k_holds h.1 hT hn, bi_t n3, Option.bind_some]
    (try dsimp only)
    rw [if_pos (by rw [wr_id (by omega)]; omega)]
    refine Ok_bind (k_readSheets h.1 (cutB_k h n3) sg n3 hT.2) (fun v s f => ?_)
    obtain ⟨u, e, fu, hu1, hu3, hu4⟩ := k_clear (t := s)
    (try dsimp only)
    rw [e, Option.bind_some]
    (try dsimp only)
    unfold shA
    by_cases c2 : (shs (cutB B n) n).1 = 0
    · obtain ⟨rfl, r97, r100⟩ := f.2.2.2 c2
      rw [if_pos (by rw [wr_id (by omega)]; omega), if_pos c2, st_takeSheets_e rfl rfl rfl]
      have q97 := r97.fx fu (by decide) (by decide) (by decide)
      have q100 := r100.fx fu (by decide) (by decide) (by decide)
      obtain ⟨w1, e1, f1, g0, g1, g2⟩ := r_takeAll (t := u) (b := 29) (a := 97) rfl rfl (by decide) (by decide) (by omega)
      obtain ⟨w2, e2, f2, g3, g4, g5⟩ := r_takeAll (t := w1) (b := 32) (a := 100) rfl rfl (by decide) (by decide) (by omega)
      rw [show (13 + 16 : Nat) = 29 from rfl, show (13 + 19 : Nat) = 32 from rfl, e1, Option.bind_some]
      (try dsimp only)
      rw [e2, Option.bind_some, Option.bind_some]
      (try dsimp only)
      have p97 : rO w2.m 97 _ _ _ := (q97.fx f1 (by unfold bS; omega) (by unfold bS; omega) (by unfold bS; omega)).fx f2 (by unfold bS; omega) (by unfold bS; omega) (by unfold bS; omega)
      have p100 : rO w2.m 100 _ _ _ := (q100.fx f1 (by unfold bS; omega) (by unfold bS; omega) (by unfold bS; omega)).fx f2 (by unfold bS; omega) (by unfold bS; omega) (by unfold bS; omega)
      have p29 : rO w2.m 29 _ _ _ := (q97.eq g0 g1 g2).fx f2 (by unfold bS; omega) (by unfold bS; omega) (by unfold bS; omega)
      have p32 : rO w2.m 32 _ _ _ := ((q100.fx f1 (by unfold bS; omega) (by unfold bS; omega) (by unfold bS; omega))).eq g3 g4 g5
      rw [p97.1, p100.1]
      have fx : Fx kSh d w2 := (((f.1.mo t2_k).tr (fu.mo (fun r hr => Or.inl hr))).tr (f1.mo (fun r hr => by unfold bS at hr; unfold kSh; omega))).tr (f2.mo (fun r hr => by unfold bS at hr; unfold kSh; omega))
      refine Ok_ret ⟨rfl, fx, ?_, fun _ => ⟨p29, p32⟩, fun hh => absurd c2 hh⟩
      rw [f2 11 (by unfold bS; omega), f1 11 (by unfold bS; omega)]
      exact hu1
    · have f2 := f.2.2.1 c2
      rw [f2.1, if_neg (fun hh => hh (show wr 0 = 0 from rfl)), if_neg c2, k_faultA (hu4.trans f2.2) (hu3.trans f.2.1.1.2.2), Option.bind_some]
      refine Ok_ret ⟨rfl, (f.1.mo t2_k).tr (fu.mo (fun r hr => Or.inl hr)), hu1, fun hh => absurd hh c2, fun _ r r0 r1 => ?_⟩
      rw [fu r (by omega), f.1 r (by unfold t2S bS; omega)]
  · simp only [if_neg c1]
    rw [wr_id (by omega), wr_id (by omega), wr_id (by omega)]
    by_cases a1 : n < 1
    · rw [if_pos a1]
      exact Ok_ret ⟨rfl, rfl⟩
    · rw [if_neg a1]
      by_cases a2 : 200 < n
      · rw [if_pos a2]
        exact Ok_ret ⟨rfl, rfl⟩
      · rw [if_neg a2, k_holds h.1 hT hn, bi_f (by omega), Option.bind_some]
        (try dsimp only)
        rw [if_neg (fun hh => hh (show wr 0 = 0 from rfl))]
        exact Ok_ret ⟨rfl, rfl⟩
end
