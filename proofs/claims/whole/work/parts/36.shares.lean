/-! NEW SHARES: gathered weights, parted, laid; what both tell; the class's round. -/
def gat (m : Int) (π : Int → Bool) (wt : Int → Int) : Int × (Int → Int) := fo m (0, fun _ => 0) (fun v t => if π v then (t.1 + 1, fun k => if k = t.1 then wt v else t.2 k) else t)
def dsh (m : Int) (π : Int → Bool) (wt : Int → Int) (v : Int) : Int := pt (gat m π wt).1 (gat m π wt).2 (sm v (fun o => bi (π o)))
theorem gat_s {m : Int} {π : Int → Bool} {wt : Int → Int} (h : 0 ≤ m) : gat (m + 1) π wt = if π m then ((gat m π wt).1 + 1, fun k => if k = (gat m π wt).1 then wt m else (gat m π wt).2 k) else gat m π wt := fo_s _ _ h
theorem gat_n {m : Int} {π : Int → Bool} {wt : Int → Int} (h : 0 ≤ m) : (gat m π wt).1 = sm m (fun o => bi (π o)) := by
  refine fo_ind (I := fun k (t : Int × (Int → Int)) => t.1 = sm k (fun o => bi (π o))) h rfl (fun k t h0 h1 hi => ?_)
  (try dsimp only at hi ⊢)
  rw [sm_s _ h0, ← hi]
  by_cases c : π k = true
  · rw [if_pos c, c]; rfl
  · have c' : π k = false := by simpa using c
    rw [if_neg c, c']; simp [bi]
theorem sm_mono {g : Int → Int} {k n : Int} (hk : 0 ≤ k) (hkn : k ≤ n) (h : ∀ j, 0 ≤ j → j < n → 0 ≤ g j) : sm k g ≤ sm n g := by
  obtain ⟨m, rfl⟩ : ∃ m : Nat, n = k + m := ⟨(n - k).toNat, by omega⟩
  induction m with
  | zero => rw [show k + ((0 : Nat) : Int) = k by omega]; exact Int.le_refl _
  | succ m ih =>
    have e : k + ((m + 1 : Nat) : Int) = (k + (m : Int)) + 1 := by omega
    have a := ih (by omega) (fun j a b => h j a (by omega))
    have b := h (k + m) (by omega) (by omega)
    rw [e, sm_s _ (by omega)]
    omega
theorem cnt_bi {π : Int → Bool} {k n : Int} (hk : 0 ≤ k) (hkn : k ≤ n) : 0 ≤ sm k (fun o => bi (π o)) ∧ sm k (fun o => bi (π o)) ≤ k ∧ sm k (fun o => bi (π o)) ≤ sm n (fun o => bi (π o)) := by
  have a := sm_le (g := fun o => bi (π o)) (n := k) (B := 1) hk (fun j _ _ => bi_le _)
  have b := sm_mono (g := fun o => bi (π o)) hk hkn (fun j _ _ => (bi_le _).1)
  omega
theorem cnt_lt {π : Int → Bool} {k n : Int} (hk : 0 ≤ k) (hkn : k < n) (hp : π k = true) : sm k (fun o => bi (π o)) < sm n (fun o => bi (π o)) := by
  have b := (cnt_bi (π := π) (k := k + 1) (n := n) (by omega) (by omega)).2.2
  rw [sm_s _ hk, hp] at b
  have : bi true = 1 := rfl
  omega
theorem gat_ok {m : Int} {π : Int → Bool} {wt : Int → Int} (h : 0 ≤ m) (hw : ∀ v, 0 ≤ v → v < m → 0 ≤ wt v ∧ wt v ≤ 40000000000) : wOK (gat m π wt).1 (gat m π wt).2 := by
  have key : 0 ≤ (gat m π wt).1 ∧ wOK (gat m π wt).1 (gat m π wt).2 := by
    refine fo_ind (I := fun k (t : Int × (Int → Int)) => 0 ≤ t.1 ∧ wOK t.1 t.2) h ⟨Int.le_refl _, fun k a b => by (try dsimp only at b); omega⟩ (fun k t h0 h1 hi => ?_)
    by_cases c : π k = true
    · rw [if_pos c]
      refine ⟨by have := hi.1; (try dsimp only); omega, fun j a b => ?_⟩
      (try dsimp only at b ⊢)
      by_cases e : j = t.1
      · rw [if_pos e]; exact hw k h0 h1
      · rw [if_neg e]; exact hi.2 j a (by omega)
    · rw [if_neg c]; exact hi
  exact key.2
/-! a file with other shares -/
def SameA (F G : Nat → Int) : Prop := ∀ q : Nat, (q < 8 ∨ (24 ≤ q ∧ q < 1144)) → G q = F q
theorem zix_at {x : Int} (h : 0 ≤ x ∧ x ≤ 2147483647) : ((zix x : Nat) : Int) = x := by
  rw [zix_id (by omega)]
  omega
section
variable {F G : Nat → Int}
theorem SameA.prs_ (h : SameA F G) : prs G = prs F := h _ (by have := zix_at (x := 0) (by omega); omega)
theorem SameA.lst_ (h : SameA F G) : lst G = lst F := h _ (by have := zix_at (x := 1) (by omega); omega)
theorem SameA.ltd_ (h : SameA F G) : ltd G = ltd F := h _ (by have := zix_at (x := 2) (by omega); omega)
theorem SameA.plc_ (h : SameA F G) : plc G = plc F := h _ (by have := zix_at (x := 3) (by omega); omega)
theorem SameA.wds_ (h : SameA F G) {s : Int} (h1 : 0 ≤ s) (h2 : s < 2) : wds G s = wds F s := h _ (by have := zix_at (x := 4 + s) (by omega); omega)
theorem SameA.lng_ (h : SameA F G) {p s : Int} (h1 : 0 ≤ p) (h2 : p < 24) (h3 : 0 ≤ s) (h4 : s < 2) : lng G p s = lng F p s := h _ (by have := zix_at (x := (24 + (20 * p)) + s) (by omega); omega)
theorem SameA.wrd_ (h : SameA F G) {p s i : Int} (h1 : 0 ≤ p) (h2 : p < 24) (h3 : 0 ≤ s) (h4 : s < 2) (h5 : 0 ≤ i) (h6 : i < 6) : wrd G p s i = wrd F p s i := h _ (by have := zix_at (x := (((24 + (20 * p)) + 2) + (6 * s)) + i) (by omega); omega)
theorem SameA.tld_ (h : SameA F G) {p i : Int} (h1 : 0 ≤ p) (h2 : p < 24) (h5 : 0 ≤ i) (h6 : i < 6) : tld G p i = tld F p i := h _ (by have := zix_at (x := ((24 + (20 * p)) + 14) + i) (by omega); omega)
theorem SameA.ltn_ (h : SameA F G) {s w : Int} (h1 : 0 ≤ s) (h2 : s < 2) (h3 : 0 ≤ w) (h4 : w < 40) : ltn G s w = ltn F s w := h _ (by have := zix_at (x := 504 + (8 * ((40 * s) + w))) (by omega); omega)
theorem SameA.ltr_ (h : SameA F G) {s w k : Int} (h1 : 0 ≤ s) (h2 : s < 2) (h3 : 0 ≤ w) (h4 : w < 40) (h5 : 0 ≤ k) (h6 : k < 7) : ltr G s w k = ltr F s w k := h _ (by have := zix_at (x := ((504 + (8 * ((40 * s) + w))) + 1) + k) (by omega); omega)
theorem SameA.key_ (h : SameA F G) (hw : WF F) {s w : Int} (h1 : 0 ≤ s) (h2 : s < 2) (h3 : 0 ≤ w) (h4 : w < wds F s) : key G s w = key F s w := by
  have a := hw.wds_ h1 h2
  have b := hw.ltn_ h1 h2 h3 h4
  unfold key
  rw [h.ltn_ h1 h2 h3 (by omega)]
  unfold kof
  exact sm_congr (by omega) (fun k k0 k1 => by (try dsimp only); rw [h.ltr_ h1 h2 h3 (by omega) k0 (by omega)])
theorem SameA.wf (h : SameA F G) (hw : WF F) (h1 : ∀ w k, 0 ≤ w → w < 2 → 0 ≤ k → k < 1600 → -1 ≤ shf G w k ∧ shf G w k ≤ 200000) (h2 : ∀ w p i j, 0 ≤ w → w < 2 → 0 ≤ p → p < prs F → 0 ≤ i → i < lng F p w → 0 ≤ j → j < lng F p (1 - w) → 0 ≤ shr G w (wrd F p w i) (wrd F p (1 - w) j)) (h3 : ∀ w u v, 0 ≤ w → w < 2 → 0 ≤ u → u < 40 → 0 ≤ v → v < 40 → shr G w u v ≠ -1 → u < wds F w ∧ v < wds F (1 - w)) (h4 : ∀ w k, 0 ≤ w → w < 2 → 0 ≤ k → k < 8 → 0 ≤ ner G w k ∧ ner G w k ≤ 200000) : WF G := by
  have a := hw.prs_
  refine ⟨by rw [h.prs_]; exact a, fun p s p0 p1 s0 s1 => ?_, fun p s i p0 p1 s0 s1 i0 i1 => ?_, fun s s0 s1 => ?_, fun s w s0 s1 w0 w1 => ?_, fun s w k s0 s1 w0 w1 k0 k1 => ?_, fun p i p0 p1 i0 i1 => ?_, h1, fun w p i j w0 w1 p0 p1 i0 i1 j0 j1 => ?_, fun w u v w0 w1 u0 u1 v0 v1 hn => ?_, h4, by rw [h.lst_]; exact hw.lst_, by rw [h.ltd_]; exact hw.ltd_, by rw [h.plc_]; exact hw.plc_⟩
  · rw [h.prs_] at p1
    rw [h.lng_ p0 (by omega) s0 s1]
    exact hw.lng_ p0 p1 s0 s1
  · rw [h.prs_] at p1
    rw [h.lng_ p0 (by omega) s0 s1] at i1
    have := hw.lng_ p0 p1 s0 s1
    rw [h.wrd_ p0 (by omega) s0 s1 i0 (by omega), h.wds_ s0 s1]
    exact hw.wrd_ p0 p1 s0 s1 i0 i1
  · rw [h.wds_ s0 s1]; exact hw.wds_ s0 s1
  · rw [h.wds_ s0 s1] at w1
    have := hw.wds_ s0 s1
    rw [h.ltn_ s0 s1 w0 (by omega)]
    exact hw.ltn_ s0 s1 w0 w1
  · rw [h.wds_ s0 s1] at w1
    have := hw.wds_ s0 s1
    rw [h.ltn_ s0 s1 w0 (by omega)] at k1
    have := hw.ltn_ s0 s1 w0 w1
    rw [h.ltr_ s0 s1 w0 (by omega) k0 (by omega)]
    exact hw.ltr_ s0 s1 w0 w1 k0 k1
  · rw [h.prs_] at p1
    rw [h.tld_ p0 (by omega) i0 i1]
    exact hw.tld_ p0 p1 i0 i1
  · rw [h.prs_] at p1
    rw [h.lng_ p0 (by omega) w0 w1] at i1
    rw [h.lng_ p0 (by omega) (by omega) (by omega)] at j1
    have b := hw.lng_ p0 p1 w0 w1
    have c := hw.lng_ p0 p1 (s := 1 - w) (by omega) (by omega)
    rw [h.wrd_ p0 (by omega) w0 w1 i0 (by omega), h.wrd_ p0 (by omega) (by omega) (by omega) j0 (by omega)]
    exact h2 w p i j w0 w1 p0 p1 i0 i1 j0 j1
  · rw [h.wds_ w0 w1, h.wds_ (by omega) (by omega)]
    exact h3 w u v w0 w1 u0 u1 v0 v1 hn
theorem SameA.ca {P : zP} {d : zD P} (h : SameA F G) (hG : WF G) (hp : ∀ w u v, 0 ≤ w → w < 2 → 0 ≤ u → u < 40 → 0 ≤ v → v < 40 → ptn G w u v = ptn F w u v) (hc : CA d F) : CA d G := by
  have hw := hc.wf
  have a := hw.prs_
  refine ⟨hG, by rw [h.prs_]; exact hc.2.1, fun s s0 s1 => ?_, fun s w s0 s1 w0 w1 => ?_, fun s u v s0 s1 u0 u1 v0 v1 => ?_, fun s p s0 s1 p0 p1 => ?_, fun s p i s0 s1 p0 p1 i0 i1 => ?_, fun p i p0 p1 i0 i1 => ?_, by rw [h.ltd_]; exact hc.2.2.2.2.2.2.2.2.1, by rw [h.plc_]; exact hc.2.2.2.2.2.2.2.2.2.1, by rw [h.lst_]; exact hc.2.2.2.2.2.2.2.2.2.2⟩
  · rw [h.wds_ s0 s1]; exact hc.2.2.1 s s0 s1
  · rw [h.wds_ s0 s1] at w1
    rw [h.key_ hw s0 s1 w0 w1]
    exact hc.2.2.2.1 s w s0 s1 w0 w1
  · rw [hp s u v s0 s1 u0 u1 v0 v1]
    exact hc.2.2.2.2.1 s u v s0 s1 u0 u1 v0 v1
  · rw [h.prs_] at p1
    rw [h.lng_ p0 (by omega) s0 s1]
    exact hc.2.2.2.2.2.1 s p s0 s1 p0 p1
  · rw [h.prs_] at p1
    rw [h.lng_ p0 (by omega) s0 s1] at i1
    have := hw.lng_ p0 p1 s0 s1
    rw [h.wrd_ p0 (by omega) s0 s1 i0 (by omega)]
    exact hc.2.2.2.2.2.2.1 s p i s0 s1 p0 p1 i0 i1
  · rw [h.prs_, h.tld_ p0 p1 i0 i1]
    exact hc.2.2.2.2.2.2.2.1 p i p0 p1 i0 i1
end
def nwS (F : Nat → Int) (w : Int) (wt : Int → Int → Int) (u v : Int) : Int := dsh (wds F (1 - w)) (ptn F w u) (wt u) v
def goS (F : Nat → Int) (w n : Int) (nw : Int → Int → Int) : Nat → Int := fun q => if 1144 + 1600 * w ≤ (q : Int) ∧ (q : Int) < 1144 + 1600 * w + 40 * n ∧ F q ≠ -1 then nw (((q : Int) - (1144 + 1600 * w)) / 40) (((q : Int) - (1144 + 1600 * w)) % 40) else F q
def goN (F : Nat → Int) (w : Int) (g : Int → Int) : Nat → Int := fun q => if 8 + 8 * w ≤ (q : Int) ∧ (q : Int) < 16 + 8 * w then g ((q : Int) - (8 + 8 * w)) else F q
def goW (F : Nat → Int) (w u v : Int) : Int := (cnt F w).1 (40 * u + v)
def goF (F : Nat → Int) (w : Int) : Nat → Int := if plc F = 0 then goS F w (wds F w) (nwS F w (goW F w)) else goN (goS F w (wds F w) (nwS F w (goW F w))) w (pt 8 (cnt F w).2)
theorem goS_shr {F : Nat → Int} {w n w' u v : Int} {nw : Int → Int → Int} (h1 : 0 ≤ w) (h2 : w < 2) (h3 : 0 ≤ w') (h4 : w' < 2) (hn : n ≤ 40) (h5 : 0 ≤ u) (h6 : u < 40) (h7 : 0 ≤ v) (h8 : v < 40) : shr (goS F w n nw) w' u v = if w' = w ∧ u < n ∧ shr F w' u v ≠ -1 then nw u v else shr F w' u v := by
  have e := zix_at (x := ((1144 + (1600 * w')) + (40 * u)) + v) (by omega)
  unfold shr goS
  (try dsimp only)
  rw [e]
  by_cases c : w' = w ∧ u < n ∧ F (zix (((1144 + (1600 * w')) + (40 * u)) + v)) ≠ -1
  · rw [if_pos c, if_pos ⟨by omega, by omega, c.2.2⟩, c.1]
    have e1 : (1144 + 1600 * w + 40 * u + v - (1144 + 1600 * w)) / 40 = u := by omega
    have e2 : (1144 + 1600 * w + 40 * u + v - (1144 + 1600 * w)) % 40 = v := by omega
    rw [e1, e2]
  · rw [if_neg c, if_neg (fun q => c ⟨by omega, by omega, q.2.2⟩)]
theorem goS_ner {F : Nat → Int} {w n w' k : Int} {nw : Int → Int → Int} (h1 : 0 ≤ w) (h3 : 0 ≤ w') (h4 : w' < 2) (h5 : 0 ≤ k) (h6 : k < 8) : ner (goS F w n nw) w' k = ner F w' k := by
  have e := zix_at (x := (8 + (8 * w')) + k) (by omega)
  unfold ner goS
  (try dsimp only)
  rw [if_neg (by omega)]
theorem goS_same {F : Nat → Int} {w n : Int} {nw : Int → Int → Int} (h1 : 0 ≤ w) : SameA F (goS F w n nw) := fun q hq => if_neg (by omega)
theorem goN_shr {F : Nat → Int} {w w' u v : Int} {g : Int → Int} (h1 : 0 ≤ w) (h2 : w < 2) (h3 : 0 ≤ w') (h4 : w' < 2) (h5 : 0 ≤ u) (h6 : u < 40) (h7 : 0 ≤ v) (h8 : v < 40) : shr (goN F w g) w' u v = shr F w' u v := by
  have e := zix_at (x := ((1144 + (1600 * w')) + (40 * u)) + v) (by omega)
  unfold shr goN
  (try dsimp only)
  rw [if_neg (by omega)]
theorem goN_ner {F : Nat → Int} {w w' k : Int} {g : Int → Int} (h1 : 0 ≤ w) (h2 : w < 2) (h3 : 0 ≤ w') (h4 : w' < 2) (h5 : 0 ≤ k) (h6 : k < 8) : ner (goN F w g) w' k = if w' = w then g k else ner F w' k := by
  have e := zix_at (x := (8 + (8 * w')) + k) (by omega)
  unfold ner goN
  (try dsimp only)
  rw [e]
  by_cases c : w' = w
  · rw [if_pos c, if_pos (by omega), c]
    congr 1
    omega
  · rw [if_neg c, if_neg (by omega)]
theorem goN_same {F : Nat → Int} {w : Int} {g : Int → Int} (h1 : 0 ≤ w) (h2 : w < 2) : SameA F (goN F w g) := fun q hq => if_neg (by omega)
theorem shf_at {F : Nat → Int} {w k : Int} : shf F w k = shr F w (k / 40) (k % 40) := by
  rw [← shf_shr]
  congr 1
  omega
theorem ptn_f {F : Nat → Int} {w u v : Int} : ptn F w u v = true ↔ shr F w u v ≠ -1 := by simp [ptn]
