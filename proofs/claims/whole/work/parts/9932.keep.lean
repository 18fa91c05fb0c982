/-! KEEP AND UNDO, both sides. -/
section
variable {P : zP} {d t : zD P} {F G : Nat → Int} {B : Int → Int} {T : Int}
def coQ (a b : Nat) (w : Int) (d s : zD P) : Prop := s.m (a + 1) (zix w) = d.m (b + 1) (zix w) ∧ (∀ k : Nat, k < 40 → s.m (a + 2 + (1 + zix w)) k = d.m (b + 2 + (1 + zix w)) k) ∧ (∀ k : Nat, k < 40 → s.m (a + 5 + (1 + zix w)) k = d.m (b + 5 + (1 + zix w)) k) ∧ (∀ k : Nat, k < 24 → s.m (a + 8 + (1 + zix w)) k = d.m (b + 8 + (1 + zix w)) k) ∧ ∀ k : Nat, k < 144 → s.m (a + 11 + (1 + zix w)) k = d.m (b + 11 + (1 + zix w)) k
theorem k_coTake {a b : Nat} (hab : (a = 42 ∧ b = 14) ∨ (a = 14 ∧ b = 42)) : Ok (co_takeAll d a b) (fun _ s => Fx (fun r => a ≤ r ∧ r < a + 15) d s ∧ s.m a 6 = d.m b 6 ∧ (∀ k : Nat, k < 144 → s.m (a + 14) k = d.m (b + 14) k) ∧ ∀ w, 0 ≤ w → w < 2 → coQ a b w d s) := by
  have z0 : zix 0 = 0 := by rw [zix_id (by omega)]; rfl
  have z24 : zix 24 = 24 := by rw [zix_id (by omega)]; rfl
  have z40 : zix 40 = 40 := by rw [zix_id (by omega)]; rfl
  have z144 : zix 144 = 144 := by rw [zix_id (by omega)]; rfl
  have ha : zkd a = 0 := by rcases hab with ⟨rfl, rfl⟩ | ⟨rfl, rfl⟩ <;> rfl
  have hb : zkd b = 0 := by rcases hab with ⟨rfl, rfl⟩ | ⟨rfl, rfl⟩ <;> rfl
  have h14 : zkd (a + 14) = 20 ∨ zkd (a + 14) = 21 ∨ zkd (a + 14) = 22 := by rcases hab with ⟨rfl, rfl⟩ | ⟨rfl, rfl⟩ <;> decide
  have h1 : zkd (a + 1) = 20 ∨ zkd (a + 1) = 21 ∨ zkd (a + 1) = 22 := by rcases hab with ⟨rfl, rfl⟩ | ⟨rfl, rfl⟩ <;> decide
  have kd : ∀ w : Nat, w < 2 → ∀ c : Nat, c = 2 ∨ c = 5 ∨ c = 8 ∨ c = 11 → (zkd (a + c + (1 + w)) = 20 ∨ zkd (a + c + (1 + w)) = 21 ∨ zkd (a + c + (1 + w)) = 22) := fun w hw c hc => by
    rcases (by omega : w = 0 ∨ w = 1) with rfl | rfl <;> rcases hc with rfl | rfl | rfl | rfl <;> rcases hab with ⟨rfl, rfl⟩ | ⟨rfl, rfl⟩ <;> decide
  have far : ∀ x y : Nat, x < 15 → y < 15 → b + x ≠ a + y := fun x y hx hy => by omega
  clear hab
  rw [co_takeAll_e ha hb, if_pos (by rw [z0, z144, wr_id (by omega), wr_id (by omega)]; omega), z0, z144]
  obtain ⟨s0, hs0⟩ : ∃ s0, s0 = (d.up a 6 (d.m b 6)).cp (b + 14) (a + 14) 0 0 144 := ⟨_, rfl⟩
  rw [← hs0]
  have f0 : Fx (fun r => a ≤ r ∧ r < a + 15) d s0 := by rw [hs0]; exact (Fx.rf.up ⟨by omega, by omega⟩).cp ⟨by omega, by omega⟩
  have e6 : s0.m a 6 = d.m b 6 := by
    rw [hs0, cp_ne (by omega), up_ob ha (by decide) (by decide), zfu_n, if_pos rfl]
  have e14 : ∀ k : Nat, k < 144 → s0.m (a + 14) k = d.m (b + 14) k := fun k hk => by
    rw [hs0, cp_ar h14]
    unfold zcp
    rw [if_pos (by omega), up_ne (by have := far 14 0 (by omega) (by omega); omega)]
    exact congrArg _ (by omega)
  clear hs0
  refine lpD (fun w s => co_takeAll_16 s a b w) (fun w s => Fx (fun r => a ≤ r ∧ r < a + 15) d s ∧ s.m a 6 = d.m b 6 ∧ (∀ k : Nat, k < 144 → s.m (a + 14) k = d.m (b + 14) k) ∧ ∀ w', 0 ≤ w' → w' < w → coQ a b w' d s) 0 2 (by omega) s0 ⟨f0, e6, e14, fun w' a0 a1 => by omega⟩ (fun s hi => ?_) (fun w s w0 w1 hi hnext => ?_)
  · (try dsimp only)
    rw [co_takeAll_16_e ha hb, if_pos (by omega)]
    exact Ok_ret hi
  · have y2 : zin w 2 := of_eq_true (zinT (by omega))
    have zw := zix2 w0 w1
    obtain ⟨i1, i2, i3, i4⟩ := hi
    have ds : ∀ x : Nat, x < 15 → s.m (b + x) = d.m (b + x) := fun x hx => i1 _ (fun hh => far x (b + x - a) hx (by omega) (by omega))
    (try dsimp only)
    rw [co_takeAll_16_e ha hb, if_neg (by rw [wr_id (by omega), wr_id (by omega)]; omega), if_pos y2, if_pos y2, if_pos y2, if_pos y2, if_pos (by rw [z0, z40, wr_id (by omega), wr_id (by omega)]; omega), if_pos y2, if_pos y2, if_pos (by rw [z0, z40, wr_id (by omega), wr_id (by omega)]; omega), if_pos y2, if_pos y2, if_pos (by rw [z0, z24, wr_id (by omega), wr_id (by omega)]; omega), if_pos y2, if_pos y2, if_pos (by rw [z0, z144, wr_id (by omega), wr_id (by omega)]; omega), z0, z24, z40, z144]
    refine hnext _ ?_
    have n1 : ∀ x c : Nat, x < 15 → c < 15 → b + x ≠ a + c := far
    have k2 := kd (zix w) zw 2 (by omega)
    have k5 := kd (zix w) zw 5 (by omega)
    have k8 := kd (zix w) zw 8 (by omega)
    have k11 := kd (zix w) zw 11 (by omega)
    refine ⟨((((i1.up ⟨by omega, by omega⟩).cp ⟨by omega, by omega⟩).cp ⟨by omega, by omega⟩).cp ⟨by omega, by omega⟩).cp ⟨by omega, by omega⟩, ?_, fun k hk => ?_, fun w' a0 a1 => ?_⟩
    · rw [cp_ne (by omega), cp_ne (by omega), cp_ne (by omega), cp_ne (by omega), up_ne (by omega)]
      exact i2
    · rw [cp_ne (by omega), cp_ne (by omega), cp_ne (by omega), cp_ne (by omega), up_ne (by omega)]
      exact i3 k hk
    · have zw' := zix2 (s := w') a0 (by omega)
      by_cases e : w' = w
      · rw [e]
        refine ⟨?_, fun k hk => ?_, fun k hk => ?_, fun k hk => ?_, fun k hk => ?_⟩
        · rw [cp_ne (by omega), cp_ne (by omega), cp_ne (by omega), cp_ne (by omega), up_ar h1, zfu_n, if_pos rfl, ds 1 (by omega)]
        · rw [cp_ne (by omega), cp_ne (by omega), cp_ne (by omega), cp_ar k2]
          unfold zcp
          rw [if_pos (by omega), up_ne (by have := far (2 + (1 + zix w)) 1 (by omega) (by omega); omega), show b + 2 + (1 + zix w) = b + (2 + (1 + zix w)) by omega, ds _ (by omega)]
          exact congrArg _ (by omega)
        · rw [cp_ne (by omega), cp_ne (by omega), cp_ar k5]
          unfold zcp
          rw [if_pos (by omega), cp_ne (by have := far (5 + (1 + zix w)) (2 + (1 + zix w)) (by omega) (by omega); omega), up_ne (by have := far (5 + (1 + zix w)) 1 (by omega) (by omega); omega), show b + 5 + (1 + zix w) = b + (5 + (1 + zix w)) by omega, ds _ (by omega)]
          exact congrArg _ (by omega)
        · rw [cp_ne (by omega), cp_ar k8]
          unfold zcp
          rw [if_pos (by omega), cp_ne (by have := far (8 + (1 + zix w)) (5 + (1 + zix w)) (by omega) (by omega); omega), cp_ne (by have := far (8 + (1 + zix w)) (2 + (1 + zix w)) (by omega) (by omega); omega), up_ne (by have := far (8 + (1 + zix w)) 1 (by omega) (by omega); omega), show b + 8 + (1 + zix w) = b + (8 + (1 + zix w)) by omega, ds _ (by omega)]
          exact congrArg _ (by omega)
        · rw [cp_ar k11]
          unfold zcp
          rw [if_pos (by omega), cp_ne (by have := far (11 + (1 + zix w)) (8 + (1 + zix w)) (by omega) (by omega); omega), cp_ne (by have := far (11 + (1 + zix w)) (5 + (1 + zix w)) (by omega) (by omega); omega), cp_ne (by have := far (11 + (1 + zix w)) (2 + (1 + zix w)) (by omega) (by omega); omega), up_ne (by have := far (11 + (1 + zix w)) 1 (by omega) (by omega); omega), show b + 11 + (1 + zix w) = b + (11 + (1 + zix w)) by omega, ds _ (by omega)]
          exact congrArg _ (by omega)
      · have ez : zix w' ≠ zix w := by rw [zix_id (by omega), zix_id (by omega)]; omega
        obtain ⟨o1, o2, o3, o4, o5⟩ := i4 w' a0 (by omega)
        refine ⟨?_, fun k hk => ?_, fun k hk => ?_, fun k hk => ?_, fun k hk => ?_⟩
        · rw [cp_ne (by omega), cp_ne (by omega), cp_ne (by omega), cp_ne (by omega), up_ar h1, zfu_n, if_neg ez]
          exact o1
        · rw [cp_ne (by omega), cp_ne (by omega), cp_ne (by omega), cp_ne (by omega), up_ne (by omega)]
          exact o2 k hk
        · rw [cp_ne (by omega), cp_ne (by omega), cp_ne (by omega), cp_ne (by omega), up_ne (by omega)]
          exact o3 k hk
        · rw [cp_ne (by omega), cp_ne (by omega), cp_ne (by omega), cp_ne (by omega), up_ne (by omega)]
          exact o4 k hk
        · rw [cp_ne (by omega), cp_ne (by omega), cp_ne (by omega), cp_ne (by omega), up_ne (by omega)]
          exact o5 k hk
/-- all of a state taken over -/
def taQ (a b : Nat) (d s : zD P) : Prop := Fx (fun r => a ≤ r ∧ r < a + 28) d s ∧ (∀ G, WF G → RepA d.m b G → RepA s.m a G) ∧ (∀ G, RepC d.m b G → RepC s.m a G) ∧ ∀ G, RepD d.m b G → RepD s.m a G
theorem k_takeAll {a b : Nat} (hab : (a = 41 ∧ b = 13) ∨ (a = 13 ∧ b = 41)) (h5 : d.m b 5 = 0 ∨ d.m b 5 = 1) (h6 : d.m b 6 = 0 ∨ d.m b 6 = 1) : Ok (st_takeAll d a b) (fun _ s => taQ a b d s) := by
  have ha : zkd a = 9 := by rcases hab with ⟨rfl, rfl⟩ | ⟨rfl, rfl⟩ <;> rfl
  have hb : zkd b = 9 := by rcases hab with ⟨rfl, rfl⟩ | ⟨rfl, rfl⟩ <;> rfl
  have hs : zkd (a + 16) = 7 ∧ zkd (b + 16) = 7 ∧ zkd (a + 19) = 7 ∧ zkd (b + 19) = 7 := by rcases hab with ⟨rfl, rfl⟩ | ⟨rfl, rfl⟩ <;> decide
  have hk : ∀ c : Nat, c = 17 ∨ c = 18 ∨ c = 20 ∨ c = 21 → (zkd (a + c) = 20 ∨ zkd (a + c) = 21 ∨ zkd (a + c) = 22) := fun c hc => by
    rcases hc with rfl | rfl | rfl | rfl <;> rcases hab with ⟨rfl, rfl⟩ | ⟨rfl, rfl⟩ <;> decide
  have h1 : ∀ w : Nat, w < 2 → (zkd (a + 22 + (1 + w)) = 20 ∨ zkd (a + 22 + (1 + w)) = 21 ∨ zkd (a + 22 + (1 + w)) = 22) ∧ (zkd (a + 25 + (1 + w)) = 20 ∨ zkd (a + 25 + (1 + w)) = 21 ∨ zkd (a + 25 + (1 + w)) = 22) := fun w hw => by
    rcases (by omega : w = 0 ∨ w = 1) with rfl | rfl <;> rcases hab with ⟨rfl, rfl⟩ | ⟨rfl, rfl⟩ <;> decide
  rw [st_takeAll_e ha hb]
  refine Ok_bind (k_coTake (a := a + 1) (b := b + 1) (by omega)) (fun v s1 f1 => ?_)
  obtain ⟨x1, p1, l1, c1⟩ := f1
  (try dsimp only)
  rw [st_takeSheets_e ha hs.2.1 hs.2.2.2]
  obtain ⟨s2, e2, x2, g0, g1, g2⟩ := r_takeAll (t := s1) (b := a + 16) (a := b + 16) hs.1 hs.2.1 (hk 17 (by omega)) (hk 18 (by omega)) (by omega)
  obtain ⟨s3, e3, x3, k0, k1, k2⟩ := r_takeAll (t := s2) (b := a + 19) (a := b + 19) hs.2.2.1 hs.2.2.2 (hk 20 (by omega)) (hk 21 (by omega)) (by omega)
  rw [e2, Option.bind_some]
  (try dsimp only)
  rw [e3, Option.bind_some, Option.bind_some]
  (try dsimp only)
  refine Ok_bind (k_takeShares ha hb h1 (by omega)) (fun v4 s4 f4 => ?_)
  obtain ⟨x4, q4⟩ := f4
  have b1 : ∀ r, b ≤ r → r < b + 28 → s1.m r = d.m r := fun r r0 r1 => x1 r (by omega)
  have b2 : ∀ r, b ≤ r → r < b + 28 → s2.m r = d.m r := fun r r0 r1 => (x2 r (by unfold bS; omega)).trans (b1 r r0 r1)
  have b3 : ∀ r, b ≤ r → r < b + 28 → s3.m r = d.m r := fun r r0 r1 => (x3 r (by unfold bS; omega)).trans (b2 r r0 r1)
  have b4 : ∀ r, b ≤ r → r < b + 28 → s4.m r = d.m r := fun r r0 r1 => (x4 r (by unfold shS; omega)).trans (b3 r r0 r1)
  have bb : s4.m b = d.m b := b4 b (by omega) (by omega)
  have F4 : Fx (fun r => a ≤ r ∧ r < a + 28) d s4 := (((x1.mo (fun r hr => by omega)).tr (fun r hr => x2 r (by unfold bS; omega))).tr (fun r hr => x3 r (by unfold bS; omega))).tr (fun r hr => x4 r (by unfold shS; omega))
  (try dsimp only)
  rw [bb, if_pos h5, up_ne (show b ≠ a by omega), bb, if_pos h6, up_ne (show b ≠ a by omega), up_ne (show b ≠ a by omega), bb]
  refine Ok_ret ?_
  obtain ⟨s5, hs5⟩ : ∃ s5, s5 = ((s4.up a 5 (d.m b 5)).up a 6 (d.m b 6)).up a 7 (d.m b 7) := ⟨_, rfl⟩
  rw [← hs5]
  have x5 : ∀ r, r ≠ a → s5.m r = s4.m r := fun r hr => by rw [hs5, up_ne hr, up_ne hr, up_ne hr]
  have m5 : s5.m a 5 = d.m b 5 ∧ s5.m a 6 = d.m b 6 ∧ s5.m a 7 = d.m b 7 := by
    rw [hs5, up_ob ha (by decide) (by decide), up_ob ha (by decide) (by decide), up_ob ha (by decide) (by decide)]
    refine ⟨?_, ?_, ?_⟩
    · rw [zfu_n, if_neg (by decide), zfu_n, if_neg (by decide), zfu_n, if_pos rfl]
    · rw [zfu_n, if_neg (by decide), zfu_n, if_pos rfl]
    · rw [zfu_n, if_pos rfl]
  clear hs5
  have s5_1 : ∀ r, a + 1 ≤ r → r < a + 16 → s5.m r = s1.m r := fun r r0 r1 => (x5 r (by omega)).trans ((x4 r (by unfold shS; omega)).trans ((x3 r (by unfold bS; omega)).trans (x2 r (by unfold bS; omega))))
  have s5_2 : ∀ r, a + 16 ≤ r → r < a + 19 → s5.m r = s2.m r := fun r r0 r1 => (x5 r (by omega)).trans ((x4 r (by unfold shS; omega)).trans (x3 r (by unfold bS; omega)))
  have s5_3 : ∀ r, a + 19 ≤ r → r < a + 22 → s5.m r = s3.m r := fun r r0 r1 => (x5 r (by omega)).trans (x4 r (by unfold shS; omega))
  refine ⟨fun r hr => (x5 r (by omega)).trans (F4 r hr), fun G hG hR => ?_, fun G hR => ⟨fun w k w0 w1 k0 k1' => ?_, fun w k w0 w1 k0 k1' => ?_⟩, fun G hR => ⟨fun hh => ?_, fun hh => ⟨?_, ?_⟩⟩⟩
  · obtain ⟨r1, r2, r3, r4, r5, r6, r7, r8⟩ := hR
    have p24 := hG.prs_
    refine ⟨?_, fun s a0 a1 => ?_, fun s w a0 a1 a2 a3 => ?_, fun s u v a0 a1 a2 a3 a4 a5 => ?_, fun s p a0 a1 a2 a3 => ?_, fun s p i a0 a1 a2 a3 a4 a5 => ?_, fun p i a0 a1 a2 a3 => ?_, by rw [m5.1]; exact r8.1, by rw [m5.2.1]; exact r8.2.1, by rw [m5.2.2]; exact r8.2.2⟩
    · rw [s5_1 _ (by omega) (by omega)]
      exact p1.trans r1
    · rw [s5_1 _ (by omega) (by omega)]
      exact (c1 s a0 a1).1.trans (r2 s a0 a1)
    · have zs := zix2 a0 a1
      have w40 := hG.wds_ a0 a1
      rw [s5_1 _ (by omega) (by omega)]
      exact ((c1 s a0 a1).2.1 _ (by rw [zix_id (by omega)]; omega)).trans (r3 s w a0 a1 a2 a3)
    · have zs := zix2 a0 a1
      rw [s5_1 _ (by omega) (by omega), show s1.m (a + 6 + (1 + zix s)) (zix u) = d.m (b + 6 + (1 + zix s)) (zix u) from (c1 s a0 a1).2.2.1 _ (by rw [zix_id (by omega)]; omega)]
      exact r4 s u v a0 a1 a2 a3 a4 a5
    · have zs := zix2 a0 a1
      rw [s5_1 _ (by omega) (by omega)]
      exact ((c1 s a0 a1).2.2.2.1 _ (by rw [zix_id (by omega)]; omega)).trans (r5 s p a0 a1 a2 a3)
    · have zs := zix2 a0 a1
      have l6 := hG.lng_ a2 a3 a0 a1
      rw [s5_1 _ (by omega) (by omega)]
      exact ((c1 s a0 a1).2.2.2.2 _ (by rw [zix_id (by omega)]; omega)).trans (r6 s p i a0 a1 a2 a3 a4 a5)
    · rw [s5_1 _ (by omega) (by omega)]
      exact (l1 _ (by rw [zix_id (by omega)]; omega)).trans (r7 p i a0 a1 a2 a3)
  · have zs := zix2 w0 w1
    rw [x5 _ (by omega), (q4 w w0 w1).1 _ (by rw [zix_id (by omega)]; omega), b3 _ (by omega) (by omega)]
    exact hR.1 w k w0 w1 k0 k1'
  · have zs := zix2 w0 w1
    rw [x5 _ (by omega), (q4 w w0 w1).2 _ (by rw [zix_id (by omega)]; omega), b3 _ (by omega) (by omega)]
    exact hR.2 w k w0 w1 k0 k1'
  · rw [s5_2 _ (by omega) (by omega), g0, b1 _ (by omega) (by omega)]
    exact hR.1 hh
  · refine (hR.2 hh).1.eq ?_ (fun k hk => ?_) (fun k hk => ?_)
    · rw [s5_2 _ (by omega) (by omega), g0, b1 _ (by omega) (by omega)]
    · rw [s5_2 _ (by omega) (by omega), g1 k hk, b1 _ (by omega) (by omega)]
    · rw [s5_2 _ (by omega) (by omega), g2 k hk, b1 _ (by omega) (by omega)]
  · refine (hR.2 hh).2.eq ?_ (fun k hk => ?_) (fun k hk => ?_)
    · rw [s5_3 _ (by omega) (by omega), k0, b2 _ (by omega) (by omega)]
    · rw [s5_3 _ (by omega) (by omega), k1 k hk, b2 _ (by omega) (by omega)]
    · rw [s5_3 _ (by omega) (by omega), k2 k hk, b2 _ (by omega) (by omega)]
end
