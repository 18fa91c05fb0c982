/-! PAIRS COME: the words of a side, one more after the other. -/
theorem first_at {p : Int → Bool} {n i : Int} (i0 : 0 ≤ i) (i1 : i < n) (hp : p i = true) (hb : ∀ j, 0 ≤ j → j < i → p j = false) : first n p = i := by
  rcases first_range (p := p) (n := n) (by omega) with e | e
  · have := first_before i0 i1 (Or.inr e)
    rw [hp] at this
    exact absurd this (by decide)
  · by_cases a : first n p < i
    · have := hb _ e.1 a
      rw [e.2.2] at this
      exact absurd this (by decide)
    · by_cases b : i < first n p
      · have := first_before i0 i1 (Or.inl b)
        rw [hp] at this
        exact absurd this (by decide)
      · omega
def vfi (v : Int × (Int → Int)) (K : Int) : Int := first v.1 (fun w => decide (v.2 w = K))
def vad (v : Int × (Int → Int)) (K : Int) : Int × (Int → Int) := if vfi v K = -1 then (v.1 + 1, fun w => if w = v.1 then K else v.2 w) else v
/-- more words, the old ones as they were -/
def vx (v v' : Int × (Int → Int)) : Prop := v.1 ≤ v'.1 ∧ ∀ w, 0 ≤ w → w < v.1 → v'.2 w = v.2 w
theorem vx_rf {v : Int × (Int → Int)} : vx v v := ⟨Int.le_refl _, fun _ _ _ => rfl⟩
theorem vx_tr {a b c : Int × (Int → Int)} (h : vx a b) (h2 : vx b c) : vx a c := ⟨Int.le_trans h.1 h2.1, fun w w0 w1 => (h2.2 w w0 (Int.lt_of_lt_of_le w1 h.1)).trans (h.2 w w0 w1)⟩
theorem vx_ad {v : Int × (Int → Int)} {K : Int} : vx v (vad v K) := by
  unfold vad
  by_cases c : vfi v K = -1
  · rw [if_pos c]
    exact ⟨by (try dsimp only); omega, fun w w0 w1 => by (try dsimp only); rw [if_neg (by omega)]⟩
  · rw [if_neg c]
    exact vx_rf
theorem vx_fo {f : Int → (Int × (Int → Int)) → (Int × (Int → Int))} {s : Int × (Int → Int)} (h : ∀ k t, vx t (f k t)) {a b : Int} (a0 : 0 ≤ a) (ab : a ≤ b) : vx (fo a s f) (fo b s f) := by
  have key : ∀ m : Nat, vx (fo a s f) (fo (a + m) s f) := by
    intro m
    induction m with
    | zero => rw [show a + ((0 : Nat) : Int) = a by omega]; exact vx_rf
    | succ m ih =>
      have e : a + ((m + 1 : Nat) : Int) = (a + m) + 1 := by omega
      rw [e, fo_s _ _ (by omega)]
      exact vx_tr ih (h _ _)
  have := key (b - a).toNat
  rw [show a + ((b - a).toNat : Int) = b by omega] at this
  exact this
theorem vfi_x {v v' : Int × (Int → Int)} {K : Int} (n0 : 0 ≤ v.1) (h : vx v v') (hk : vfi v K ≠ -1) : vfi v' K = vfi v K := by
  rcases first_range (p := fun w => decide (v.2 w = K)) n0 with e | e
  · exact absurd e hk
  · have e3 := of_decide_eq_true e.2.2
    unfold vfi
    refine first_at e.1 (Int.lt_of_lt_of_le e.2.1 h.1) (decide_eq_true ?_) (fun j j0 j1 => ?_)
    · rw [h.2 _ e.1 e.2.1]; exact e3
    · have := first_before (p := fun w => decide (v.2 w = K)) j0 (Int.lt_trans j1 e.2.1) (Or.inl j1)
      (try dsimp only at this)
      rw [h.2 j j0 (Int.lt_trans j1 e.2.1)]
      exact this
/-- a word that came is there -/
theorem vfi_ad {v : Int × (Int → Int)} {K : Int} (n0 : 0 ≤ v.1) : vfi (vad v K) K ≠ -1 := by
  unfold vad
  by_cases c : vfi v K = -1
  · rw [if_pos c]
    have : vfi (v.1 + 1, fun w => if w = v.1 then K else v.2 w) K = v.1 := by
      unfold vfi
      refine first_at n0 (by (try dsimp only); omega) ?_ (fun j j0 j1 => ?_)
      · exact decide_eq_true (if_pos rfl)
      · have b := first_before (p := fun w => decide (v.2 w = K)) j0 j1 (Or.inr c)
        refine decide_eq_false (fun h => of_decide_eq_false b ?_)
        (try dsimp only at h)
        rw [if_neg (by omega)] at h
        exact h
    rw [this]
    omega
  · rw [if_neg c]
    exact c
def vrw (ky : Int → Int → Int) (r k : Int) (v : Int × (Int → Int)) : Int × (Int → Int) := fo k v (fun i v => vad v (ky r i))
def vall (ln : Int → Int) (ky : Int → Int → Int) (R : Int) (v : Int × (Int → Int)) : Int × (Int → Int) := fo R v (fun r v => vrw ky r (ln r) v)
theorem vrw_0 {ky : Int → Int → Int} {r : Int} {v : Int × (Int → Int)} : vrw ky r 0 v = v := fo_0 _ _
theorem vrw_s {ky : Int → Int → Int} {r k : Int} {v : Int × (Int → Int)} (h : 0 ≤ k) : vrw ky r (k + 1) v = vad (vrw ky r k v) (ky r k) := fo_s _ _ h
theorem vall_0 {ln : Int → Int} {ky : Int → Int → Int} {v : Int × (Int → Int)} : vall ln ky 0 v = v := fo_0 _ _
theorem vall_s {ln : Int → Int} {ky : Int → Int → Int} {r : Int} {v : Int × (Int → Int)} (h : 0 ≤ r) : vall ln ky (r + 1) v = vrw ky r (ln r) (vall ln ky r v) := fo_s _ _ h
theorem vx_rw {ky : Int → Int → Int} {r a b : Int} {v : Int × (Int → Int)} (a0 : 0 ≤ a) (ab : a ≤ b) : vx (vrw ky r a v) (vrw ky r b v) := vx_fo (fun _ _ => vx_ad) a0 ab
theorem vx_rw0 {ky : Int → Int → Int} {r b : Int} {v : Int × (Int → Int)} (b0 : 0 ≤ b) : vx v (vrw ky r b v) := by
  have := vx_rw (ky := ky) (r := r) (v := v) (Int.le_refl 0) b0
  rw [vrw_0] at this
  exact this
theorem fo_co2 {α : Type} {s : α} {f g : Int → α → α} {n : Int} (hn : 0 ≤ n) (h : ∀ k t, 0 ≤ k → k < n → f k t = g k t) : fo n s f = fo n s g := fo_congr hn h
/-- rows have lengths -/
theorem vx_all {ln : Int → Int} {ky : Int → Int → Int} {R a b : Int} {v : Int × (Int → Int)} (hl : ∀ r, 0 ≤ r → r < R → 0 ≤ ln r) (a0 : 0 ≤ a) (ab : a ≤ b) (bR : b ≤ R) : vx (vall ln ky a v) (vall ln ky b v) := by
  have key : ∀ m : Nat, a + m ≤ R → vx (vall ln ky a v) (vall ln ky (a + m) v) := by
    intro m
    induction m with
    | zero => intro _; rw [show a + ((0 : Nat) : Int) = a by omega]; exact vx_rf
    | succ m ih =>
      intro hm
      have e : a + ((m + 1 : Nat) : Int) = (a + m) + 1 := by omega
      rw [e, vall_s (by omega)]
      exact vx_tr (ih (by omega)) (vx_rw0 (hl _ (by omega) (by omega)))
  have := key (b - a).toNat (by omega)
  rw [show a + ((b - a).toNat : Int) = b by omega] at this
  exact this
/-- keys are no longer than words -/
def vbd (v : Int × (Int → Int)) : Prop := 0 ≤ v.1 ∧ ∀ w, 0 ≤ w → w < v.1 → 0 ≤ v.2 w ∧ v.2 w < 34359738368
theorem vbd_ad {v : Int × (Int → Int)} {K : Int} (h : vbd v) (hK : 0 ≤ K ∧ K < 34359738368) : vbd (vad v K) := by
  unfold vad
  by_cases c : vfi v K = -1
  · rw [if_pos c]
    have h1 := h.1
    refine ⟨by (try dsimp only); omega, fun w w0 w1 => ?_⟩
    (try dsimp only at w1 ⊢)
    by_cases e : w = v.1
    · rw [if_pos e]; exact hK
    · rw [if_neg e]; exact h.2 w w0 (by omega)
  · rw [if_neg c]; exact h
section
variable {P : zP} {d t : zD P}
/-- the class's words of a side -/
def vK (t : zD P) (s : Int) (v : Int × (Int → Int)) : Prop := ∀ w, 0 ≤ w → w < v.1 → t.m (16 + (1 + zix s)) (zix w) = v.2 w
theorem vK_num {s K : Int} {v : Int × (Int → Int)} (s0 : 0 ≤ s) (s1 : s < 2) (h : vK t s v) (hb : vbd v) (h40 : v.1 ≤ 40) (hK : 0 ≤ K ∧ K < 34359738368) : co_numberOf t s K v.1 = some (vfi v K, t) := k_numberOf s0 s1 hb.1 h40 (fun w w0 w1 => ⟨h w w0 w1, hb.2 w w0 w1⟩) (by omega)
theorem u_key {s : Int} {a : Nat} {x : Int} (s0 : 0 ≤ s) (s1 : s < 2) : (t.up (16 + (1 + zix s)) a x).m (16 + (1 + zix s)) = zfu (t.m (16 + (1 + zix s))) a x := by
  rcases (by omega : s = 0 ∨ s = 1) with rfl | rfl
  · have : zix 0 = 0 := by rw [zix_id (by omega)]; rfl
    rw [this]
    exact u_17
  · have : zix 1 = 1 := by rw [zix_id (by omega)]; rfl
    rw [this]
    exact u_18
theorem k_wordsWith {s R : Int} {b : Nat} {ln : Int → Int} {ky : Int → Int → Int} {v0 : Int × (Int → Int)} (s0 : 0 ≤ s) (s1 : s < 2) (hb : b = 97 ∨ b = 100) (ho : rO d.m b R ln ky) (hky : ∀ r i, 0 ≤ r → r < R → 0 ≤ i → i < ln r → 0 ≤ ky r i ∧ ky r i < 34359738368) (hw : d.m 15 (zix s) = v0.1) (h40 : v0.1 ≤ 40) (hv : vK d s v0) (hbd : vbd v0) : Ok (co_wordsWith d s b) (fun a t => Fx (fun r => r = 16 + (1 + zix s)) d t ∧ (∀ w, 0 ≤ w → w < v0.1 → t.m (16 + (1 + zix s)) (zix w) = v0.2 w) ∧ vbd (vall ln ky R v0) ∧ ((vall ln ky R v0).1 ≤ 40 → a = (vall ln ky R v0).1 ∧ vK t s (vall ln ky R v0)) ∧ (40 < (vall ln ky R v0).1 → a = 41)) := by
  have z2 : zin s 2 := of_eq_true (zinT (by omega))
  have zs := zix2 s0 s1
  have R12 := ho.2.1
  have lnR : ∀ r, 0 ≤ r → r < R → 0 ≤ ln r ∧ ln r ≤ 8 := fun r r0 r1 => (ho.2.2.1 r r0 r1).2
  have hz := rb_z hb
  have hbdall : ∀ r, 0 ≤ r → r ≤ R → vbd (vall ln ky r v0) := fun r r0 r1 => by
    refine fo_ind (I := fun _ v => vbd v) r0 hbd (fun k t k0 k1 hi => ?_)
    have lk := lnR k k0 (by omega)
    exact fo_ind (I := fun _ v => vbd v) lk.1 hi (fun i u i0 i1 hu => vbd_ad hu (hky k i k0 (by omega) i0 i1))
  have hbdrow : ∀ r k, 0 ≤ r → r < R → 0 ≤ k → k ≤ ln r → vbd (vrw ky r k (vall ln ky r v0)) := fun r k r0 r1 k0 k1 => fo_ind (I := fun _ v => vbd v) k0 (hbdall r r0 (by omega)) (fun i u i0 i1 hu => vbd_ad hu (hky r i r0 r1 i0 (by omega)))
  have hfin := hbdall R (by omega) (Int.le_refl _)
  rw [co_wordsWith_e hz, if_pos z2, hw]
  refine lpM (fun r t (y : Int × zV × zV × zV) => co_wordsWith_7 t s b y.1 r y.2.1 y.2.2.1 y.2.2.2) (fun r t y => Fx (fun r => r = 16 + (1 + zix s)) d t ∧ y.1 = (vall ln ky r v0).1 ∧ (vall ln ky r v0).1 ≤ 40 ∧ vK t s (vall ln ky r v0)) 0 R (by omega) d (v0.1, (3, 0), (3, 0), (3, 0)) ⟨Fx.rf, rfl, h40, hv⟩ (fun t y hi => ?_) (fun r t y r0 r1 hi hnext => ?_)
  · obtain ⟨a, g5, g6, g7⟩ := y
    obtain ⟨hf, ha, h4, hk⟩ := hi
    have ho' : rO t.m b R ln ky := ho.fx hf (by omega) (by omega) (by omega)
    have x0 := vx_all (ky := ky) (v := v0) (fun r r0 r1 => (lnR r r0 r1).1) (Int.le_refl 0) R12.1 (Int.le_refl R)
    rw [vall_0] at x0
    (try dsimp only at ha ⊢)
    rw [co_wordsWith_7_e hz, ho'.1, if_pos (by omega)]
    exact Ok_ret ⟨hf, fun w w0 w1 => (hk w w0 (Int.lt_of_lt_of_le w1 x0.1)).trans (x0.2 w w0 w1), hfin, fun _ => ⟨ha, hk⟩, fun hh => by omega⟩
  · obtain ⟨a, g5, g6, g7⟩ := y
    obtain ⟨hf, ha, h4, hk⟩ := hi
    have ho' : rO t.m b R ln ky := ho.fx hf (by omega) (by omega) (by omega)
    have lr := lnR r r0 r1
    (try dsimp only at ha ⊢)
    rw [co_wordsWith_7_e hz, ho'.1, if_neg (by rw [wr_id (by omega), wr_id (by omega)]; omega)]
    refine lpM (fun k t (y : Int × zV × zV) => co_wordsWith_13 t s b y.1 r k y.2.1 y.2.2) (fun k t y => Fx (fun r => r = 16 + (1 + zix s)) d t ∧ y.1 = (vrw ky r k (vall ln ky r v0)).1 ∧ (vrw ky r k (vall ln ky r v0)).1 ≤ 40 ∧ vK t s (vrw ky r k (vall ln ky r v0))) 0 (ln r) lr.1 t (a, g6, g7) ⟨hf, by rw [vrw_0]; exact ha, by rw [vrw_0]; exact h4, by rw [vrw_0]; exact hk⟩ (fun t y hi => ?_) (fun k t y k0 k1 hi hnx => ?_)
    · obtain ⟨a, g6, g7⟩ := y
      obtain ⟨hf, ha, h4, hk⟩ := hi
      have ho' : rO t.m b R ln ky := ho.fx hf (by omega) (by omega) (by omega)
      (try dsimp only at ha ⊢)
      rw [co_wordsWith_13_e hz, r_len ho' r0 r1 hz, Option.bind_some]
      (try dsimp only)
      rw [if_pos (by omega)]
      refine hnext _ (_, _, _, _) ?_
      rw [vall_s r0]
      exact ⟨hf, ha, h4, hk⟩
    · obtain ⟨a, g6, g7⟩ := y
      obtain ⟨hf, ha, h4, hk⟩ := hi
      have ho' : rO t.m b R ln ky := ho.fx hf (by omega) (by omega) (by omega)
      have kb := hky r k r0 r1 k0 k1
      have bd := hbdrow r k r0 r1 k0 (by omega)
      have es := vrw_s (ky := ky) (r := r) (v := vall ln ky r v0) k0
      have fl := first_range (p := fun w => decide ((vrw ky r k (vall ln ky r v0)).2 w = ky r k)) bd.1
      have nm := vK_num (K := ky r k) s0 s1 hk bd h4 kb
      have b1 := bd.1
      (try dsimp only at ha ⊢)
      rw [co_wordsWith_13_e hz, r_len ho' r0 r1 hz, Option.bind_some]
      (try dsimp only)
      rw [if_neg (by rw [wr_id (by omega), wr_id (by omega)]; omega), r_key ho' r0 r1 k0 k1 hz, Option.bind_some]
      (try dsimp only)
      rw [ha, nm, Option.bind_some]
      (try dsimp only)
      have fl' : vfi (vrw ky r k (vall ln ky r v0)) (ky r k) = -1 ∨ (0 ≤ vfi (vrw ky r k (vall ln ky r v0)) (ky r k) ∧ vfi (vrw ky r k (vall ln ky r v0)) (ky r k) < (vrw ky r k (vall ln ky r v0)).1) := by
        rcases fl with q | q
        · exact Or.inl q
        · exact Or.inr ⟨q.1, q.2.1⟩
      by_cases c : vfi (vrw ky r k (vall ln ky r v0)) (ky r k) = -1
      · have ev : vrw ky r (k + 1) (vall ln ky r v0) = ((vrw ky r k (vall ln ky r v0)).1 + 1, fun w => if w = (vrw ky r k (vall ln ky r v0)).1 then ky r k else (vrw ky r k (vall ln ky r v0)).2 w) := by
          rw [es]
          unfold vad
          rw [if_pos c]
        rw [if_neg (by rw [wr_id (by omega)]; omega)]
        generalize hV : vrw ky r k (vall ln ky r v0) = V at *
        by_cases c4 : V.1 < 40
        · have z40 : zin V.1 40 := of_eq_true (zinT (by omega))
          rw [if_pos (by rw [wr_id (by omega), wr_id (by omega)]; omega), if_pos z2, if_pos z40]
          refine hnx _ (_, _, _) ?_
          rw [ev]
          refine ⟨hf.up rfl, rfl, by (try dsimp only); omega, fun w w0 w1 => ?_⟩
          (try dsimp only at w1 ⊢)
          rw [u_key s0 s1, zfu_z (by omega)]
          by_cases e : w = V.1
          · rw [if_pos e, if_pos e]
          · rw [if_neg e, if_neg e]
            exact hk w w0 (by omega)
        · rw [if_neg (by rw [wr_id (by omega), wr_id (by omega)]; omega)]
          have x1 := vx_rw (ky := ky) (r := r) (v := vall ln ky r v0) (a := k + 1) (b := ln r) (by omega) (by omega)
          rw [← vall_s r0] at x1
          have x2 := vx_all (ky := ky) (v := v0) (fun r r0 r1 => (lnR r r0 r1).1) (a := r + 1) (b := R) (by omega) (by omega) (Int.le_refl R)
          have x3 := (vx_tr x1 x2).1
          rw [ev] at x3
          (try dsimp only at x3)
          have x4 := vx_all (ky := ky) (v := v0) (fun r r0 r1 => (lnR r r0 r1).1) (a := 0) (b := r) (by omega) (by omega) (by omega)
          rw [vall_0] at x4
          have x5 := vx_rw0 (ky := ky) (r := r) (v := vall ln ky r v0) k0
          rw [hV] at x5
          have x6 := vx_tr x4 x5
          refine Ok_ret ⟨hf, fun w w0 w1 => (hk w w0 (Int.lt_of_lt_of_le w1 x6.1)).trans (x6.2 w w0 w1), hfin, fun hh => by omega, fun _ => rfl⟩
      · have ev : vrw ky r (k + 1) (vall ln ky r v0) = vrw ky r k (vall ln ky r v0) := by
          rw [es]
          unfold vad
          rw [if_neg c]
        rw [if_pos (by rw [wr_id (by omega)]; omega)]
        refine hnx _ (_, _, _) ?_
        rw [ev]
        exact ⟨hf, rfl, h4, hk⟩
end
