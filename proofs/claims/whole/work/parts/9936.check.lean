/-! CHECK, both sides. -/
theorem fth_tb {F : Nat → Int} (hw : WF F) {p : Int} (p0 : 0 ≤ p) (p1 : p < prs F) {i j : Int} (i0 : 0 ≤ i) (j0 : 0 ≤ j) (j1 : j < 6) : ∀ n : Nat, (n : Int) ≤ lng F p 1 → tb (fth F p n i) j = decide (j < n ∧ lkd F 0 p j = i) := by
  have l1 := hw.lng_ p0 p1 (s := 1) (by omega) (by omega)
  have l0 := hw.lng_ p0 p1 (s := 0) (by omega) (by omega)
  intro n
  induction n with
  | zero =>
    intro _
    rw [decide_eq_false (by omega)]
    exact tb_0 _
  | succ n ih =>
    intro hn
    have ih := ih (by omega)
    have e : fth F p ((n + 1 : Nat) : Int) = if lkd F 0 p n = -1 then fth F p n else fun x => if x = lkd F 0 p n then zbin 4 (fth F p n x) (zbin 6 1 n) else fth F p n x := by
      rw [show ((n + 1 : Nat) : Int) = (n : Int) + 1 by omega]
      exact fo_s _ _ (by omega)
    rw [e]
    have ll := lkd_le hw (w := 0) (j := (n : Int)) (by omega) (by omega) p0 p1
    by_cases c : lkd F 0 p n = -1
    · rw [if_pos c, ih]
      by_cases ej : j = n
      · rw [decide_eq_false (by omega), decide_eq_false (by rw [ej, c]; omega)]
      · by_cases q : j < n ∧ lkd F 0 p j = i
        · rw [decide_eq_true q, decide_eq_true ⟨by omega, q.2⟩]
        · rw [decide_eq_false q, decide_eq_false (fun x => q ⟨by omega, x.2⟩)]
    · rw [if_neg c]
      (try dsimp only)
      by_cases ei : i = lkd F 0 p n
      · rw [if_pos ei, tb_or1 ((fth_ok hw p0 p1 (n := n) (by omega) (by omega)) i i0 (by omega)).1 (by omega) (by omega) j0 j1, ih]
        by_cases ej : j = n
        · rw [decide_eq_true ej, Bool.or_true, decide_eq_true ⟨by omega, by rw [ej]; exact ei.symm⟩]
        · rw [decide_eq_false ej, Bool.or_false]
          by_cases q : j < n ∧ lkd F 0 p j = i
          · rw [decide_eq_true q, decide_eq_true ⟨by omega, q.2⟩]
          · rw [decide_eq_false q, decide_eq_false (fun x => q ⟨by omega, x.2⟩)]
      · rw [if_neg ei, ih]
        by_cases ej : j = n
        · rw [decide_eq_false (by omega), decide_eq_false (by rw [ej]; exact fun x => ei x.2.symm)]
        · by_cases q : j < n ∧ lkd F 0 p j = i
          · rw [decide_eq_true q, decide_eq_true ⟨by omega, q.2⟩]
          · rw [decide_eq_false q, decide_eq_false (fun x => q ⟨by omega, x.2⟩)]
/-- a byte tells the link of a place rightly -/
def rgt (F : Nat → Int) (B : Int → Int) (k : Int) : Prop := (0 < prs F ∧ k < lng F 0 1) ∧ B k = if lkd F 0 0 k = -1 then 255 else lkd F 0 0 k
/-- the first place told wrongly -/
def chk (F : Nat → Int) (B : Int → Int) (n v : Int) : Prop := (v = -1 ∧ ∀ k, 0 ≤ k → k < n → rgt F B k) ∨ (0 ≤ v ∧ v < n ∧ ¬ rgt F B v ∧ ∀ k, 0 ≤ k → k < v → rgt F B k)
theorem chk_uni {F : Nat → Int} {B : Int → Int} {n v v' : Int} (h : chk F B n v) (h' : chk F B n v') : v = v' := by
  rcases h with ⟨rfl, a⟩ | ⟨a0, a1, a2, a3⟩ <;> rcases h' with ⟨rfl, b⟩ | ⟨b0, b1, b2, b3⟩
  · rfl
  · exact absurd (a v' b0 b1) b2
  · exact absurd (b v a0 a1) a2
  · by_cases e : v < v'
    · exact absurd (b3 v a0 e) a2
    · by_cases e' : v' < v
      · exact absurd (a3 v' b0 e') b2
      · omega
section
variable {P : zP} {d t : zD P} {F G : Nat → Int} {B : Int → Int} {T : Int}
theorem k_isRightLink (h : CI d F) {k b : Int} (k0 : 0 ≤ k) (k1 : k < 6) (hb : b = B k) (hB : 0 ≤ B k ∧ B k ≤ 255) : Ok (wl_isRightLink d k b) (fun v s => (v = 1 ∧ rgt F B k ∨ v = 0 ∧ ¬ rgt F B k) ∧ s = d) := by
  have hw := h.wf
  have p24 := hw.prs_
  rw [wl_isRightLink_e, kc_place h.ca (by omega) (by omega) (by unfold I32; omega) (by unfold I32; omega), Option.bind_some]
  (try dsimp only)
  by_cases c : (0 ≤ (0 : Int) ∧ 0 < prs F) ∧ 0 ≤ k ∧ k < lng F 0 1
  · have l0 := hw.lng_ (p := 0) (by omega) c.1.2 (s := 0) (by omega) (by omega)
    have ll := lkd_le hw (w := 0) (j := k) (by omega) (by omega) (by omega) c.1.2
    rw [bi_t c, if_pos oz1, k_chosen h (w := 0) (by omega) (by omega) (by omega) c.1.2 k0 c.2.2, Option.bind_some]
    (try dsimp only)
    by_cases e : lkd F 0 0 k = -1
    · rw [if_neg (by rw [e]; exact fun x => x rfl)]
      by_cases q : b = 255
      · rw [if_neg (by rw [q]; exact fun x => x rfl)]
        exact Ok_ret ⟨Or.inl ⟨rfl, ⟨c.1.2, c.2.2⟩, by rw [if_pos e, ← hb]; exact q⟩, rfl⟩
      · rw [if_pos (by rw [wr_id (by omega), wr_id (by omega)]; exact q)]
        exact Ok_ret ⟨Or.inr ⟨rfl, fun x => q (by rw [hb, x.2, if_pos e])⟩, rfl⟩
    · rw [if_pos (by rw [wr_id (by omega), wr_id (by omega)]; exact e)]
      by_cases q : b = lkd F 0 0 k
      · rw [if_neg (by rw [q]; exact fun x => x rfl)]
        exact Ok_ret ⟨Or.inl ⟨rfl, ⟨c.1.2, c.2.2⟩, by rw [if_neg e, ← hb]; exact q⟩, rfl⟩
      · rw [if_pos (by rw [wr_id (by omega), wr_id (by omega)]; exact q)]
        exact Ok_ret ⟨Or.inr ⟨rfl, fun x => q (by rw [hb, x.2, if_neg e])⟩, rfl⟩
  · rw [bi_f c, if_neg (fun x => x zz0)]
    exact Ok_ret ⟨Or.inr ⟨rfl, fun x => c ⟨⟨by omega, x.1.1⟩, k0, x.1.2⟩⟩, rfl⟩
theorem n_linkedFrom (hw : WF F) (p1 : 0 < prs F) (hr : ∀ i, 0 ≤ i → i < 6 → d.m 149 (zix i) = lk F 0 0 i) {j : Int} (j0 : 0 ≤ j) (j1 : j < lng F 0 1) : m_linkedFrom d j = some (if lkd F 0 0 j = -1 then 255 else lkd F 0 0 j, d) := by
  have l0 := hw.lng_ (p := 0) (by omega) p1 (s := 0) (by omega) (by omega)
  have l1 := hw.lng_ (p := 0) (by omega) p1 (s := 1) (by omega) (by omega)
  have ll := lkd_le hw (w := 0) (j := j) (by omega) (by omega) (by omega) p1
  refine Ok_eq ?_
  rw [m_linkedFrom_e]
  refine lpD (fun i s => m_linkedFrom_2 s j i) (fun i s => s = d ∧ (lkd F 0 0 j = -1 ∨ i ≤ lkd F 0 0 j)) 0 6 (by omega) d ⟨rfl, by omega⟩ (fun s hi => ?_) (fun i s i0 i1 hi hnext => ?_)
  · obtain ⟨rfl, i2⟩ := hi
    (try dsimp only)
    rw [m_linkedFrom_2_e, if_pos (by omega), if_pos (by omega)]
    exact Ok_ret ⟨rfl, rfl⟩
  · obtain ⟨rfl, i2⟩ := hi
    have y6 : zin i 6 := of_eq_true (zinT (by omega))
    have er : lk F 0 0 i = fth F 0 (lng F 0 1) i := by
      unfold lk
      rw [if_neg (by omega)]
      unfold lk4
      rw [if_neg (by omega)]
      unfold lk0
      rw [if_pos rfl]
    have ok := ((fth_ok hw (p := 0) (by omega) p1 (n := lng F 0 1) (by omega) (Int.le_refl _)) i i0 i1).1
    have tbj := fth_tb hw (p := 0) (by omega) p1 i0 j0 (show j < 6 by omega) (lng F 0 1).toNat (by omega)
    rw [show (((lng F 0 1).toNat : Nat) : Int) = lng F 0 1 by omega] at tbj
    unfold lt6 at ok
    (try dsimp only)
    rw [m_linkedFrom_2_e, if_neg (by rw [wr_id (by omega), wr_id (by omega)]; omega), if_pos y6, hr i i0 i1, er, n_has (by omega) j0 (by omega), tbj, Option.bind_some]
    (try dsimp only)
    by_cases c : j < lng F 0 1 ∧ lkd F 0 0 j = i
    · rw [bi_t c, if_neg oz1, if_neg (by omega)]
      exact Ok_ret ⟨c.2.symm, rfl⟩
    · rw [bi_f c, if_pos zz0]
      exact hnext _ ⟨rfl, by omega⟩
theorem b_check (h : INV d F B T) {n : Int} (hn : I32 n) : BO d (fun d => wl_check d n) (fun d => m_check d n) := by
  have hn' := hn
  unfold I32 at hn'
  have hw := h.wf
  have p24 := hw.prs_
  have tT := h.tq.2.2.1
  by_cases c1 : 0 ≤ n ∧ n ≤ 6
  · by_cases c2 : n ≤ T
    · have kx : Ok (wl_check d n) (fun v s => chk F B n v ∧ s = d.up 11 1 0) := by
        rw [wl_check_e, if_neg (by rw [wr_id (by omega)]; omega), if_neg (by rw [wr_id (by omega), wr_id (by omega)]; omega), k_holds h.tq.1 tT hn, bi_t c2, Option.bind_some]
        (try dsimp only)
        rw [if_pos oz1]
        refine lpD (fun k s => wl_check_16 s n (-1) k) (fun k s => s = d ∧ ∀ j, 0 ≤ j → j < k → rgt F B j) 0 n c1.1 d ⟨rfl, fun j a b => by omega⟩ (fun s hi => ?_) (fun k s k0 k1 hi hnext => ?_)
        · obtain ⟨rfl, i2⟩ := hi
          (try dsimp only)
          rw [wl_check_16_e, if_pos (by omega), tp_clear_e, Option.bind_some]
          exact Ok_ret ⟨Or.inl ⟨rfl, i2⟩, rfl⟩
        · obtain ⟨rfl, i2⟩ := hi
          have y240 : zin k 240 := of_eq_true (zinT (by omega))
          have hB := h.tq.2.2.2 k k0 (by omega)
          (try dsimp only)
          rw [wl_check_16_e, if_neg (by rw [wr_id (by omega), wr_id (by omega)]; omega), if_neg (fun x => x rfl), tp_byteAt_e, if_neg (by rw [wr_id (by omega)]; omega), h.tq.1, if_neg (by rw [wr_id (by omega), wr_id (by omega)]; omega), if_pos y240, hB.1, Option.bind_some]
          (try dsimp only)
          refine Ok_bind (k_isRightLink h.ci k0 (by omega) rfl hB.2.2) (fun v s2 f2 => ?_)
          obtain ⟨f2, rfl⟩ := f2
          (try dsimp only)
          rcases f2 with ⟨rfl, r⟩ | ⟨rfl, r⟩
          · rw [if_pos oz1]
            refine hnext _ ⟨rfl, fun j a b => ?_⟩
            by_cases e : j = k
            · rw [e]; exact r
            · exact i2 j a (by omega)
          · rw [if_neg (fun x => x zz0), wl_check_16_e]
            have fin : Ok ((tp_clear s2).bind fun q => some (k, q.2)) (fun v s => chk F B n v ∧ s = s2.up 11 1 0) := by
              rw [tp_clear_e, Option.bind_some]
              exact Ok_ret ⟨Or.inr ⟨k0, k1, r, i2⟩, rfl⟩
            by_cases e : n ≤ k + 1
            · rw [if_pos (by rw [wr_id (by omega), wr_id (by omega)]; exact e)]
              exact fin
            · rw [if_neg (by rw [wr_id (by omega), wr_id (by omega)]; exact e), if_pos (by rw [wr_id (by omega), wr_id (by omega)]; omega)]
              exact fin
      obtain ⟨v, s, e, hv, rfl⟩ := kx
      obtain ⟨s, hs⟩ : ∃ s, s = d.up 11 1 0 := ⟨_, rfl⟩
      rw [← hs] at e
      have er : ∀ r, r ≠ 11 → s.m r = d.m r := fun r r1 => by rw [hs]; exact up_ne r1
      have e11 : s.m 11 1 = 0 := by rw [hs, u_11_1]; rfl
      have sF : s.m 133 = F := (er 133 (by decide)).trans h.f
      have tn : TN s B T := h.tq.n.fr (by rw [er 132 (by decide)]) (er 134 (by decide))
      clear hs
      have y0 : zin 0 18180 := of_eq_true (zinT (by omega))
      have e0 : F (zix 0) = prs F := rfl
      have loop : ∀ (s1 : zD P) (g : zV) (m : Int), Fr 149 152 s s1 → (m = if prs F = 0 then 0 else lng F 0 1) → (0 < prs F → ∀ i, 0 ≤ i → i < 6 → s1.m 149 (zix i) = lk F 0 0 i) → Ok (m_check_35 s1 g m (-1) (n - 1)) (fun v' s' => chk F B n v' ∧ ∃ s2, Fr 149 152 s s2 ∧ s' = s2.up 132 3 0) := fun s1 g m f1 hm hr => by
        have hm6 : 0 ≤ m ∧ m ≤ 6 := by
          by_cases c : prs F = 0
          · rw [if_pos c] at hm; omega
          · rw [if_neg c] at hm
            have := hw.lng_ (p := 0) (by omega) (show 0 < prs F by omega) (s := 1) (by omega) (by omega)
            omega
        have key := lpM (Q := fun v' s' => chk F B n v' ∧ ∃ s2, Fr 149 152 s s2 ∧ s' = s2.up 132 3 0) (fun k t (y : Int) => m_check_35 t g m y (n - 1 - k)) (fun k t y => t = s1 ∧ ((y = -1 ∧ ∀ j, n - 1 - k < j → j < n → rgt F B j) ∨ (n - 1 - k < y ∧ y < n ∧ ¬ rgt F B y ∧ ∀ j, n - 1 - k < j → j < y → rgt F B j))) 0 n c1.1 s1 (-1) ⟨rfl, Or.inl ⟨rfl, fun j a b => by omega⟩⟩ (fun t y hi => by
          obtain ⟨rfl, i2⟩ := hi
          (try dsimp only)
          rw [m_check_35_e, if_pos (by rw [wr_id (by omega)]; omega)]
          refine Ok_ret ⟨?_, t, f1, rfl⟩
          rcases i2 with ⟨rfl, a⟩ | ⟨a0, a1, a2, a3⟩
          · exact Or.inl ⟨rfl, fun k k0 k1 => a k (by omega) k1⟩
          · exact Or.inr ⟨by omega, a1, a2, fun k k0 k1 => a3 k (by omega) k1⟩) (fun k t y k0 k1 hi hnext => by
          obtain ⟨rfl, i2⟩ := hi
          have wrong : ¬ rgt F B (n - 1 - k) → Ok (m_check_35 t g m (n - 1 - k) (n - 1 - k + -1)) (fun v' s' => chk F B n v' ∧ ∃ s2, Fr 149 152 s s2 ∧ s' = s2.up 132 3 0) := fun hr' => by
            rw [show n - 1 - k + -1 = n - 1 - (k + 1) by omega]
            refine hnext _ (n - 1 - k) ⟨rfl, Or.inr ⟨by omega, by omega, hr', fun j a b => by omega⟩⟩
          (try dsimp only)
          rw [m_check_35_e, if_neg (by rw [wr_id (by omega)]; omega)]
          by_cases c : m ≤ n - 1 - k
          · rw [if_pos (by rw [wr_id (by omega), wr_id (by omega)]; exact c)]
            refine wrong (fun x => ?_)
            rw [if_neg (by have := x.1.1; omega)] at hm
            have := x.1.2
            omega
          · have p1 : 0 < prs F := by
              by_cases c' : prs F = 0
              · rw [if_pos c'] at hm; omega
              · omega
            rw [if_neg (by omega)] at hm
            have ll := lkd_le hw (w := 0) (j := n - 1 - k) (by omega) (by omega) (by omega) p1
            have l0 := hw.lng_ (p := 0) (by omega) p1 (s := 0) (by omega) (by omega)
            have hB := tn.2.2 (n - 1 - k) (by omega) (by omega)
            have y240 : zin (n - 1 - k) 240 := of_eq_true (zinT (by omega))
            rw [if_neg (by rw [wr_id (by omega), wr_id (by omega)]; exact c), if_pos y240, n_linkedFrom hw p1 (hr p1) (by omega) (by omega), Option.bind_some]
            (try dsimp only)
            rw [f1 134 (by omega), hB.1]
            obtain ⟨L, hL⟩ : ∃ L, L = if lkd F 0 0 (n - 1 - k) = -1 then 255 else lkd F 0 0 (n - 1 - k) := ⟨_, rfl⟩
            have Lb : 0 ≤ L ∧ L ≤ 255 := by
              rw [hL]
              split <;> omega
            rw [← hL]
            by_cases q : B (n - 1 - k) = L
            · rw [if_pos (by rw [q])]
              rw [show n - 1 - k + -1 = n - 1 - (k + 1) by omega]
              have rr : rgt F B (n - 1 - k) := ⟨⟨p1, by omega⟩, by rw [← hL]; exact q⟩
              refine hnext _ y ⟨rfl, ?_⟩
              rcases i2 with ⟨rfl, a⟩ | ⟨a0, a1, a2, a3⟩
              · refine Or.inl ⟨rfl, fun j b0 b1 => ?_⟩
                by_cases e : j = n - 1 - k
                · rw [e]; exact rr
                · exact a j (by omega) b1
              · refine Or.inr ⟨by omega, a1, a2, fun j b0 b1 => ?_⟩
                by_cases e : j = n - 1 - k
                · rw [e]; exact rr
                · exact a3 j (by omega) b1
            · rw [if_neg (by rw [wr_id (by omega), wr_id (by omega)]; exact q)]
              exact wrong (fun x => q (by rw [hL]; exact x.2)))
        (try dsimp only at key)
        rw [Int.sub_zero] at key
        exact key
      have nx : Ok (m_check s n) (fun v' s' => chk F B n v' ∧ ∃ s2, Fr 149 152 s s2 ∧ s' = s2.up 132 3 0) := by
        rw [m_check_e, n_in (by unfold I32; omega), bi_t c1, Option.bind_some]
        (try dsimp only)
        rw [if_neg oz1, tn.1, if_pos (by rw [wr_id (by omega), wr_id (by omega)]; exact c2), if_pos y0, sF, e0]
        by_cases c3 : prs F = 0
        · rw [if_neg (by rw [c3]; exact fun x => x zz0), if_pos (by rw [wr_id (by omega)]; omega)]
          exact loop s _ 0 Fr.rf (by rw [if_pos c3]) (fun x => by omega)
        · have l1 := hw.lng_ (p := 0) (by omega) (show 0 < prs F by omega) (s := 1) (by omega) (by omega)
          rw [if_pos (by rw [wr_id (by omega)]; exact c3), n_longOf sF (by omega) (by omega) (by omega) (by omega), Option.bind_some]
          (try dsimp only)
          rw [if_neg (by rw [wr_id (by omega)]; omega)]
          refine Ok_bind (n_findsLinks sF hw (kind := 0) (p := 0) (by omega) (by omega) (by omega) (by omega)) (fun v2 s2 f2 => ?_)
          obtain ⟨f2, g2⟩ := f2
          exact loop s2 _ (lng F 0 1) f2 (by rw [if_neg c3]) (fun _ => g2.2.2.2.2.2)
      obtain ⟨v', s', e', hv', s2, f2, hs'⟩ := nx
      have er' : ∀ r, r ≠ 132 → r < 149 → s'.m r = s.m r := fun r r1 r2 => by rw [hs', up_ne r1]; exact f2 r (by omega)
      have e132 : s'.m 132 = zfu (s.m 132) 3 0 := by rw [hs', u_132_3, f2 132 (by omega)]
      refine ⟨v, s, s', F, B, 0, e, by rw [chk_uni hv hv']; exact e', ?_⟩
      exact INV.mk2 h (h.ci.fr (fun r r0 r1 => (er' r (by omega) (by omega)).trans (er r (by omega)))) ((er' 133 (by decide) (by decide)).trans sF) (TQ_0 (by rw [er' 11 (by decide) (by decide)]; exact e11) (by rw [e132]; rfl)) (fun _ _ _ => rfl) h.2.2.2.2.2.1 (by rw [e132, er 132 (by decide)]; rfl) (fun r hr => (er' r (by omega) (by omega)).trans (er r (by omega))) (by rw [e132, er 132 (by decide)]; rfl)
    · refine BO_a (-2) h ?_ (fun s hs => ?_)
      · (try dsimp only)
        rw [wl_check_e, if_neg (by rw [wr_id (by omega)]; omega), if_neg (by rw [wr_id (by omega), wr_id (by omega)]; omega), k_holds h.tq.1 tT hn, bi_f c2, Option.bind_some]
        (try dsimp only)
        rw [if_neg (fun x => x zz0)]
        exact Ok_ret ⟨rfl, qF.rf⟩
      · (try dsimp only)
        rw [m_check_e, n_in (by unfold I32; omega), bi_t c1, Option.bind_some]
        (try dsimp only)
        rw [if_neg oz1, hs.tq.n.1, if_neg (by rw [wr_id (by omega), wr_id (by omega)]; exact c2)]
        exact Ok_ret ⟨rfl, rF.rf⟩
  · refine BO_a (-2) h ?_ (fun s hs => ?_)
    · (try dsimp only)
      rw [wl_check_e]
      by_cases e : n < 0
      · rw [if_pos (by rw [wr_id (by omega)]; exact e)]
        exact Ok_ret ⟨rfl, qF.rf⟩
      · rw [if_neg (by rw [wr_id (by omega)]; exact e), if_pos (by rw [wr_id (by omega), wr_id (by omega)]; omega)]
        exact Ok_ret ⟨rfl, qF.rf⟩
    · (try dsimp only)
      rw [m_check_e, n_in (by unfold I32; omega), bi_f c1, Option.bind_some]
      (try dsimp only)
      rw [if_pos zz0]
      exact Ok_ret ⟨rfl, rF.rf⟩
end
