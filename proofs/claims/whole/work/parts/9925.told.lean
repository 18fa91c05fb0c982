/-! LINKS TOLD, both sides: agree, count, tell. -/
def toF (F : Nat → Int) (p : Int) : Int := sm 6 (fun i => pc (tld F p i))
theorem toF_le (F : Nat → Int) (p : Int) : 0 ≤ toF F p ∧ toF F p ≤ 36 := by
  have := sm_le (g := fun i => pc (tld F p i)) (n := 6) (B := 6) (by omega) (fun k _ _ => pc_le _)
  unfold toF
  omega
noncomputable def shT (F : Nat → Int) (kind p : Int) : Int := sm 6 (fun i => pc (zbin 3 (lk F kind p i) (tld F p i)))
theorem shT_le (F : Nat → Int) (kind p : Int) : 0 ≤ shT F kind p ∧ shT F kind p ≤ 36 := by
  have := sm_le (g := fun i => pc (zbin 3 (lk F kind p i) (tld F p i))) (n := 6) (B := 6) (by omega) (fun k _ _ => pc_le _)
  unfold shT
  omega
noncomputable def agA (F : Nat → Int) (kind n : Int) : Int := sm n (fun p => if toF F p = 0 then 0 else shT F kind p)
noncomputable def agB (F : Nat → Int) (kind n : Int) : Int := sm n (fun p => if toF F p = 0 then 0 else toF F p + tot (lk F kind p))
noncomputable def agF (F : Nat → Int) (kind : Int) : Int := if agB F kind (prs F) = 0 then 0 else 20000 * agA F kind (prs F) / agB F kind (prs F)
theorem agA_le (F : Nat → Int) (kind : Int) {n : Int} (h : 0 ≤ n) : 0 ≤ agA F kind n ∧ agA F kind n ≤ n * 36 := sm_le h (fun p _ _ => by
  have := shT_le F kind p
  (try dsimp only)
  split <;> omega)
theorem agB_le (F : Nat → Int) (kind : Int) {n : Int} (h : 0 ≤ n) : 0 ≤ agB F kind n ∧ agB F kind n ≤ n * 72 := sm_le h (fun p _ _ => by
  have := toF_le F p
  have := tot_le (lk F kind p)
  (try dsimp only)
  split <;> omega)
theorem and6 {x y : Int} (hx : lt6 x) (hy : lt6 y) : lt6 (zbin 3 x y) := by
  obtain ⟨a, rfl⟩ := Int.eq_ofNat_of_zero_le hx.1
  obtain ⟨b, rfl⟩ := Int.eq_ofNat_of_zero_le hy.1
  have ha := hx.2
  have hb := hy.2
  rw [b3 (by omega) (by omega)]
  have : a &&& b ≤ a := Nat.and_le_left
  exact ⟨by omega, by omega⟩
section
variable {P : zP} {d t : zD P} {F : Nat → Int} {B : Int → Int} {T : Int}
theorem k_toldLinks (h : CA d F) {p : Int} (p0 : 0 ≤ p) (p1 : p < prs F) : co_toldLinks d p = some (toF F p, d) := by
  have p24 := h.wf.prs_
  have e : co_toldLinks_4 d p 0 0 = co_toldLinks_4 d p (toF F p) 6 := lpS (fun i a => co_toldLinks_4 d p a i) (fun i => pc (tld F p i)) 6 (by omega) (fun i a i0 i1 _ => by
    have z : zin ((p * 6) + i) 144 := of_eq_true (zinT (by omega))
    have tl := h.wf.tld_ p0 p1 i0 i1
    (try dsimp only)
    rw [co_toldLinks_4_e, if_neg (by rw [wr_id (by omega), wr_id (by omega)]; omega), if_pos z, h.tld_ p0 p1 i0 i1, k_bc tl, Option.bind_some])
  rw [co_toldLinks_e, e, co_toldLinks_4_e, if_pos (by rw [wr_id (by omega)]; omega)]
theorem n_toldMany (hF : d.m 133 = F) (hw : WF F) {p : Int} (p0 : 0 ≤ p) (p1 : p < prs F) : m_toldMany d p = some (toF F p, d) := by
  have p24 := hw.prs_
  have e : m_toldMany_4 d p 0 0 = m_toldMany_4 d p (toF F p) 6 := lpS (fun i a => m_toldMany_4 d p a i) (fun i => pc (tld F p i)) 6 (by omega) (fun i a i0 i1 _ => by
    have tl := hw.tld_ p0 p1 i0 i1
    (try dsimp only)
    rw [m_toldMany_4_e, if_neg (by rw [wr_id (by omega), wr_id (by omega)]; omega), n_told hF p0 (by omega) i0 (by omega), Option.bind_some]
    (try dsimp only)
    rw [n_sizeOf tl, Option.bind_some])
  rw [m_toldMany_e, e, m_toldMany_4_e, if_pos (by rw [wr_id (by omega)]; omega)]
theorem k_sharedWithTold (h : CA d F) {E s : Int → Int} {kind p : Int} (p0 : 0 ≤ p) (p1 : p < prs F) (hl : lC d E (lk F kind p) (lng F p 0) (lng F p 1)) : li_sharedWithTold d p = some (shT F kind p, d) := by
  have p24 := h.wf.prs_
  have l1 := h.wf.lng_ (p := p) (s := 0) p0 p1 (by omega) (by omega)
  obtain ⟨a1, a2, a3, a4, a5, a6, a7, a8⟩ := hl
  have e : li_sharedWithTold_4 d p 0 0 = li_sharedWithTold_4 d p (sm (lng F p 0) (fun i => pc (zbin 3 (lk F kind p i) (tld F p i)))) (lng F p 0) := lpS (fun i a => li_sharedWithTold_4 d p a i) (fun i => pc (zbin 3 (lk F kind p i) (tld F p i))) (lng F p 0) (by omega) (fun i a i0 i1 _ => by
    have z : zin ((p * 6) + i) 144 := of_eq_true (zinT (by omega))
    have z6 : zin i 6 := of_eq_true (zinT (by omega))
    have tl := h.wf.tld_ p0 p1 i0 (by omega)
    have sl := (a6 i i0 (by omega)).1
    (try dsimp only)
    rw [li_sharedWithTold_4_e, a1, if_neg (by rw [wr_id (by omega), wr_id (by omega)]; omega), if_pos z6, if_pos z, h.tld_ p0 p1 i0 (by omega), a8 i i0 (by omega), k_bc (and6 sl tl), Option.bind_some])
  have tail : sm (lng F p 0) (fun i => pc (zbin 3 (lk F kind p i) (tld F p i))) = shT F kind p := by
    have key : ∀ m : Nat, lng F p 0 + m ≤ 6 → sm (lng F p 0 + m) (fun i => pc (zbin 3 (lk F kind p i) (tld F p i))) = sm (lng F p 0) (fun i => pc (zbin 3 (lk F kind p i) (tld F p i))) := by
      intro m
      induction m with
      | zero => intro _; rw [show lng F p 0 + ((0 : Nat) : Int) = lng F p 0 by omega]
      | succ m ih =>
        intro hm
        have ez : lk F kind p (lng F p 0 + m) = 0 := (a6 (lng F p 0 + m) (by omega) (by omega)).2.1 (by omega)
        have tl := h.wf.tld_ p0 p1 (i := lng F p 0 + m) (by omega) (by omega)
        obtain ⟨b, hb⟩ := Int.eq_ofNat_of_zero_le tl.1
        have z0 : zbin 3 0 (tld F p (lng F p 0 + m)) = 0 := by
          rw [hb]
          have := b3 (a := 0) (b := b) (by omega) (by omega)
          rw [Nat.zero_and] at this
          exact this
        rw [show lng F p 0 + ((m + 1 : Nat) : Int) = (lng F p 0 + m) + 1 by omega, sm_s _ (by omega), ih (by omega), ez, z0, pc_0, Int.add_zero]
    have := key (6 - lng F p 0).toNat (by omega)
    rw [show lng F p 0 + ((6 - lng F p 0).toNat : Int) = 6 by omega] at this
    exact this.symm
  rw [li_sharedWithTold_e, e, li_sharedWithTold_4_e, a1, if_pos (by omega), tail]
theorem k_agreement (hc : CI d F) {kind : Int} (hk : 0 ≤ kind ∧ kind ≤ 5) : Ok (wl_agreement d kind) (fun v s => v = agF F kind ∧ Fr 115 120 d s) := by
  have p24 := hc.wf.prs_
  rw [wl_agreement_e]
  refine lpM (fun p s (y : Int × Int × zV) => wl_agreement_6 s kind y.1 y.2.1 p y.2.2) (fun p s y => Fr 115 120 d s ∧ y.1 = agA F kind p ∧ y.2.1 = agB F kind p) 0 (prs F) p24.1 d (0, 0, (3, 0)) ⟨Fr.rf, rfl, rfl⟩ (fun s y hi => ?_) (fun p s y p0 p1 hi hnext => ?_)
  · obtain ⟨x, z, g⟩ := y
    obtain ⟨hf, hx, hz⟩ := hi
    have ci : CI s F := hc.Fr hf (by omega)
    have la := agA_le F kind p24.1
    have lb := agB_le F kind p24.1
    (try dsimp only at hx hz ⊢)
    rw [wl_agreement_6_e, ci.ca.prs_, if_pos (by omega), hx, hz]
    unfold agF
    by_cases c : agB F kind (prs F) = 0
    · rw [if_neg (by rw [c]; exact fun x => x rfl), if_pos c]
      exact Ok_ret ⟨rfl, hf⟩
    · rw [if_pos (by rw [wr_id (by omega)]; exact c), if_pos (by rw [wr_id (by omega)]; exact c), if_neg c, zdiv0 (by omega)]
      exact Ok_ret ⟨rfl, hf⟩
  · obtain ⟨x, z, g⟩ := y
    obtain ⟨hf, hx, hz⟩ := hi
    have ci : CI s F := hc.Fr hf (by omega)
    have tl := toF_le F p
    (try dsimp only at hx hz ⊢)
    rw [wl_agreement_6_e, ci.ca.prs_, if_neg (by rw [wr_id (by omega), wr_id (by omega)]; omega), k_toldLinks ci.ca p0 p1, Option.bind_some]
    (try dsimp only)
    by_cases c : toF F p = 0
    · rw [if_pos (by rw [wr_id (by omega)]; omega)]
      refine hnext _ (_, _, _) ⟨hf, ?_, ?_⟩
      · show x = _
        unfold agA at hx ⊢
        rw [sm_s _ p0, if_pos c, Int.add_zero]
        exact hx
      · show z = _
        unfold agB at hz ⊢
        rw [sm_s _ p0, if_pos c, Int.add_zero]
        exact hz
    · rw [if_neg (by rw [wr_id (by omega)]; omega)]
      refine Ok_bind (k_make ci hk.1 hk.2 p0 p1) (fun v u f => ?_)
      have cu : CI u F := ci.Fr f.1 (by omega)
      (try dsimp only)
      rw [k_sharedWithTold (s := lk F kind p) cu.ca p0 p1 f.2, Option.bind_some]
      (try dsimp only)
      rw [k_size f.2, Option.bind_some]
      refine hnext _ (_, _, _) ⟨hf.tr f.1, ?_, ?_⟩
      · show x + shT F kind p = _
        unfold agA at hx ⊢
        rw [sm_s _ p0, if_neg c, hx]
      · show z + (toF F p + tot (lk F kind p)) = _
        unfold agB at hz ⊢
        rw [sm_s _ p0, if_neg c, hz]
theorem n_agreeOf (hF : d.m 133 = F) (hw : WF F) {kind : Int} (hk : 0 ≤ kind ∧ kind ≤ 5) : Ok (m_agreeOf d kind) (fun v s => v = agF F kind ∧ Fr 149 152 d s) := by
  have p24 := hw.prs_
  have y0 : zin 0 18180 := of_eq_true (zinT (by omega))
  have eF : F (zix 0) = prs F := rfl
  rw [m_agreeOf_e]
  refine lpM (fun p s (y : Int × Int × zV) => m_agreeOf_6 s kind y.1 y.2.1 p y.2.2) (fun p s y => Fr 149 152 d s ∧ y.1 = agA F kind p ∧ y.2.1 = agB F kind p) 0 (prs F) p24.1 d (0, 0, (3, 0)) ⟨Fr.rf, rfl, rfl⟩ (fun s y hi => ?_) (fun p s y p0 p1 hi hnext => ?_)
  · obtain ⟨x, z, g⟩ := y
    obtain ⟨hf, hx, hz⟩ := hi
    have sF : s.m 133 = F := by rw [hf 133 (by omega)]; exact hF
    have la := agA_le F kind p24.1
    have lb := agB_le F kind p24.1
    (try dsimp only at hx hz ⊢)
    rw [m_agreeOf_6_e, if_pos y0, sF, eF, if_pos (by omega), hx, hz]
    unfold agF
    by_cases c : agB F kind (prs F) = 0
    · rw [if_neg (by rw [c]; exact fun x => x rfl), if_pos c]
      exact Ok_ret ⟨rfl, hf⟩
    · rw [if_pos (by rw [wr_id (by omega)]; exact c), if_pos (by rw [wr_id (by omega)]; exact c), if_neg c, zdiv0 (by omega), Int.mul_comm]
      exact Ok_ret ⟨rfl, hf⟩
  · obtain ⟨x, z, g⟩ := y
    obtain ⟨hf, hx, hz⟩ := hi
    have sF : s.m 133 = F := by rw [hf 133 (by omega)]; exact hF
    have tl := toF_le F p
    (try dsimp only at hx hz ⊢)
    rw [m_agreeOf_6_e, if_pos y0, sF, eF, if_neg (by rw [wr_id (by omega), wr_id (by omega)]; omega), n_toldMany sF hw p0 p1, Option.bind_some]
    (try dsimp only)
    by_cases c : toF F p = 0
    · rw [if_neg (by rw [c]; exact fun x => x rfl)]
      refine hnext _ (_, _, _) ⟨hf, ?_, ?_⟩
      · show x = _
        unfold agA at hx ⊢
        rw [sm_s _ p0, if_pos c, Int.add_zero]
        exact hx
      · show z = _
        unfold agB at hz ⊢
        rw [sm_s _ p0, if_pos c, Int.add_zero]
        exact hz
    · rw [if_pos (by rw [wr_id (by omega)]; exact c)]
      refine Ok_bind (n_findsLinks sF hw hk.1 hk.2 p0 p1) (fun v u f => ?_)
      have uF : u.m 133 = F := by rw [f.1 133 (by omega)]; exact sF
      (try dsimp only)
      rw [n_linksMany f.2, Option.bind_some]
      (try dsimp only)
      rw [n_toldMany uF hw p0 p1, Option.bind_some]
      (try dsimp only)
      obtain ⟨a3, a4, a5, a6, a7, a8⟩ := f.2
      have e : m_agreeOf_32 u kind (x + 0) (z + tot (lk F kind p) + toF F p) p 0 = m_agreeOf_32 u kind (x + shT F kind p) (z + tot (lk F kind p) + toF F p) p 6 := lpS (fun i a => m_agreeOf_32 u kind (x + a) (z + tot (lk F kind p) + toF F p) p i) (fun i => pc (zbin 3 (lk F kind p i) (tld F p i))) 6 (by omega) (fun i a i0 i1 _ => by
        have z6 : zin i 6 := of_eq_true (zinT (by omega))
        have tl := hw.tld_ p0 p1 i0 i1
        have sl := (a6 i i0 (by omega)).1
        (try dsimp only)
        rw [m_agreeOf_32_e, if_neg (by rw [wr_id (by omega), wr_id (by omega)]; omega), if_pos z6, n_told uF p0 (by omega) i0 (by omega), Option.bind_some]
        (try dsimp only)
        rw [a8 i i0 (by omega), n_sizeOf (and6 sl tl), Option.bind_some]
        (try dsimp only)
        rw [Int.add_assoc])
      rw [Int.add_zero] at e
      rw [e, m_agreeOf_32_e, if_pos (by rw [wr_id (by omega)]; omega)]
      refine hnext _ (_, _, _) ⟨hf.tr f.1, ?_, ?_⟩
      · show x + shT F kind p = _
        unfold agA at hx ⊢
        rw [sm_s _ p0, if_neg c, hx]
      · show z + tot (lk F kind p) + toF F p = _
        unfold agB at hz ⊢
        rw [sm_s _ p0, if_neg c, hz]
        omega
theorem b_agree (h : INV d F B T) {a : Int} (ha : I32 a) : BO d (fun d => wl_agree d a) (fun d => m_agree d a) := by
  by_cases c1 : 0 ≤ a ∧ a ≤ 5
  · refine BO_a (agF F a) h ?_ (fun s hs => ?_)
    · (try dsimp only)
      rw [wl_agree_e, kw_isKind ha, bi_t c1, Option.bind_some]
      (try dsimp only)
      rw [if_neg oz1]
      exact Ok_bind (k_agreement h.ci c1) (fun v u f => Ok_ret ⟨f.1, f.2.q (by omega) (by omega)⟩)
    · (try dsimp only)
      rw [m_agree_e, n_isKind ha, bi_t c1, Option.bind_some]
      (try dsimp only)
      rw [if_neg oz1]
      exact Ok_bind (n_agreeOf hs.f hs.wf c1) (fun v u f => Ok_ret ⟨f.1, f.2.r (by omega)⟩)
  · refine BO_a (-1) h ?_ (fun s hs => ?_)
    · (try dsimp only)
      rw [wl_agree_e, kw_isKind ha, bi_f c1, Option.bind_some]
      (try dsimp only)
      rw [if_pos zz0]
      exact Ok_ret ⟨rfl, qF.rf⟩
    · (try dsimp only)
      rw [m_agree_e, n_isKind ha, bi_f c1, Option.bind_some]
      (try dsimp only)
      rw [if_pos zz0]
      exact Ok_ret ⟨rfl, rF.rf⟩
noncomputable def toN (F : Nat → Int) : Int := sm (prs F) (fun p => toF F p)
theorem b_count (h : INV d F B T) {a : Int} (ha : I32 a) : BO d (fun d => wl_count d a) (fun d => m_count d a) := by
  have ha' := ha
  unfold I32 at ha'
  have p24 := h.wf.prs_
  have y0 : zin 0 18180 := of_eq_true (zinT (by omega))
  have y1 : zin 1 18180 := of_eq_true (zinT (by omega))
  obtain ⟨A, hA⟩ : ∃ A : Int, A = (if a = 0 then prs F else if a = 1 then lst F else if a = 2 then T else if a = 3 then toN F else -1) := ⟨_, rfl⟩
  refine BO_a A h ?_ (fun s hs => ?_)
  · (try dsimp only)
    rw [wl_count_e, wr_id (by omega)]
    by_cases c0 : a = 0
    · rw [if_pos c0, h.ci.ca.prs_]
      exact Ok_ret ⟨by rw [hA, if_pos c0], qF.rf⟩
    rw [if_neg c0]
    by_cases c1 : a = 1
    · rw [if_pos c1, h.ci.ca.lst_]
      exact Ok_ret ⟨by rw [hA, if_neg c0, if_pos c1], qF.rf⟩
    rw [if_neg c1]
    by_cases c2 : a = 2
    · rw [if_pos c2, h.tq.1]
      exact Ok_ret ⟨by rw [hA, if_neg c0, if_neg c1, if_pos c2], qF.rf⟩
    rw [if_neg c2]
    by_cases c3 : a = 3
    · have e : co_allToldLinks_4 d 0 0 = co_allToldLinks_4 d (toN F) (prs F) := lpS (fun p a => co_allToldLinks_4 d a p) (fun p => toF F p) (prs F) p24.1 (fun p a p0 p1 _ => by
        (try dsimp only)
        rw [co_allToldLinks_4_e, h.ci.ca.prs_, if_neg (by rw [wr_id (by omega), wr_id (by omega)]; omega), k_toldLinks h.ci.ca p0 p1, Option.bind_some])
      rw [if_pos c3, co_allToldLinks_e, e, co_allToldLinks_4_e, h.ci.ca.prs_, if_pos (by omega), Option.bind_some]
      exact Ok_ret ⟨by rw [hA, if_neg c0, if_neg c1, if_neg c2, if_pos c3], qF.rf⟩
    · rw [if_neg c3]
      exact Ok_ret ⟨by rw [hA, if_neg c0, if_neg c1, if_neg c2, if_neg c3], qF.rf⟩
  · have eF : F (zix 0) = prs F := rfl
    have e1 : F (zix 1) = lst F := rfl
    have e : m_count_4 s a 0 0 = m_count_4 s a (toN F) (prs F) := lpS (fun p x => m_count_4 s a x p) (fun p => toF F p) (prs F) p24.1 (fun p x p0 p1 _ => by
      (try dsimp only)
      rw [m_count_4_e, if_pos y0, hs.f, eF, if_neg (by rw [wr_id (by omega), wr_id (by omega)]; omega), n_toldMany hs.f hs.wf p0 p1, Option.bind_some])
    (try dsimp only)
    rw [m_count_e, e, m_count_4_e, if_pos y0, hs.f, eF, e1, hs.tq.2.1, if_pos (by omega)]
    by_cases c0 : a = 0
    · rw [if_neg (by rw [c0]; exact fun x => x rfl), if_pos y0]
      exact Ok_ret ⟨by rw [hA, if_pos c0], rF.rf⟩
    rw [if_pos (by rw [wr_id (by omega)]; exact c0)]
    by_cases c1 : a = 1
    · rw [if_neg (by rw [c1]; exact fun x => x rfl), if_pos y1]
      exact Ok_ret ⟨by rw [hA, if_neg c0, if_pos c1], rF.rf⟩
    rw [if_pos (by rw [wr_id (by omega), wr_id (by omega)]; exact c1)]
    by_cases c2 : a = 2
    · rw [if_neg (by rw [c2]; exact fun x => x rfl)]
      exact Ok_ret ⟨by rw [hA, if_neg c0, if_neg c1, if_pos c2], rF.rf⟩
    rw [if_pos (by rw [wr_id (by omega), wr_id (by omega)]; exact c2)]
    by_cases c3 : a = 3
    · rw [if_neg (by rw [c3]; exact fun x => x rfl)]
      exact Ok_ret ⟨by rw [hA, if_neg c0, if_neg c1, if_neg c2, if_pos c3], rF.rf⟩
    · rw [if_pos (by rw [wr_id (by omega), wr_id (by omega)]; exact c3)]
      exact Ok_ret ⟨by rw [hA, if_neg c0, if_neg c1, if_neg c2, if_neg c3], rF.rf⟩
end
