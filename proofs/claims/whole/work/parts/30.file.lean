/-! THE FILE AND WHAT IT SAYS; the class's state held against it. -/
def prs (F : Nat → Int) : Int := F (zix 0)
def lst (F : Nat → Int) : Int := F (zix 1)
def ltd (F : Nat → Int) : Int := F (zix 2)
def plc (F : Nat → Int) : Int := F (zix 3)
def wds (F : Nat → Int) (s : Int) : Int := F (zix (4 + s))
def ner (F : Nat → Int) (w k : Int) : Int := F (zix ((8 + (8 * w)) + k))
def lng (F : Nat → Int) (p s : Int) : Int := F (zix ((24 + (20 * p)) + s))
def wrd (F : Nat → Int) (p s i : Int) : Int := F (zix ((((24 + (20 * p)) + 2) + (6 * s)) + i))
def tld (F : Nat → Int) (p i : Int) : Int := F (zix (((24 + (20 * p)) + 14) + i))
def ltn (F : Nat → Int) (s w : Int) : Int := F (zix (504 + (8 * ((40 * s) + w))))
def ltr (F : Nat → Int) (s w k : Int) : Int := F (zix (((504 + (8 * ((40 * s) + w))) + 1) + k))
def shr (F : Nat → Int) (w u v : Int) : Int := F (zix (((1144 + (1600 * w)) + (40 * u)) + v))
def shf (F : Nat → Int) (w k : Int) : Int := F (zix ((1144 + (1600 * w)) + k))
theorem shf_shr {F : Nat → Int} {w u v : Int} : shf F w ((u * 40) + v) = shr F w u v := by
  unfold shf shr
  congr 2
  omega
/-- a word's letters in one number -/
def p32 (k : Int) : Int := ((32 ^ (6 - k).toNat : Nat) : Int)
def kof (n : Int) (g : Int → Int) : Int := sm n (fun k => (g k - 96) * p32 k)
def key (F : Nat → Int) (s w : Int) : Int := kof (ltn F s w) (fun k => ltr F s w k)
def ptn (F : Nat → Int) (w u v : Int) : Bool := !decide (shr F w u v = -1)
/-- what is so of every file -/
def WF (F : Nat → Int) : Prop := (0 ≤ prs F ∧ prs F ≤ 24)
  ∧ (∀ p s, 0 ≤ p → p < prs F → 0 ≤ s → s < 2 → 1 ≤ lng F p s ∧ lng F p s ≤ 6)
  ∧ (∀ p s i, 0 ≤ p → p < prs F → 0 ≤ s → s < 2 → 0 ≤ i → i < lng F p s → 0 ≤ wrd F p s i ∧ wrd F p s i < wds F s)
  ∧ (∀ s, 0 ≤ s → s < 2 → 0 ≤ wds F s ∧ wds F s ≤ 40)
  ∧ (∀ s w, 0 ≤ s → s < 2 → 0 ≤ w → w < wds F s → 1 ≤ ltn F s w ∧ ltn F s w ≤ 7)
  ∧ (∀ s w k, 0 ≤ s → s < 2 → 0 ≤ w → w < wds F s → 0 ≤ k → k < ltn F s w → 97 ≤ ltr F s w k ∧ ltr F s w k ≤ 122)
  ∧ (∀ p i, 0 ≤ p → p < prs F → 0 ≤ i → i < 6 → 0 ≤ tld F p i ∧ tld F p i < 64)
  ∧ (∀ w k, 0 ≤ w → w < 2 → 0 ≤ k → k < 1600 → -1 ≤ shf F w k ∧ shf F w k ≤ 200000)
  ∧ (∀ w p i j, 0 ≤ w → w < 2 → 0 ≤ p → p < prs F → 0 ≤ i → i < lng F p w → 0 ≤ j → j < lng F p (1 - w) → 0 ≤ shr F w (wrd F p w i) (wrd F p (1 - w) j))
  ∧ (∀ w u v, 0 ≤ w → w < 2 → 0 ≤ u → u < 40 → 0 ≤ v → v < 40 → shr F w u v ≠ -1 → u < wds F w ∧ v < wds F (1 - w))
  ∧ (∀ w k, 0 ≤ w → w < 2 → 0 ≤ k → k < 8 → 0 ≤ ner F w k ∧ ner F w k ≤ 200000)
  ∧ (0 ≤ lst F ∧ lst F ≤ 100000) ∧ (ltd F = 0 ∨ ltd F = 1) ∧ (plc F = 0 ∨ plc F = 1)
theorem WF.prs_ {F : Nat → Int} (h : WF F) : 0 ≤ prs F ∧ prs F ≤ 24 := h.1
theorem WF.lng_ {F : Nat → Int} (h : WF F) {p s : Int} (h1 : 0 ≤ p) (h2 : p < prs F) (h3 : 0 ≤ s) (h4 : s < 2) : 1 ≤ lng F p s ∧ lng F p s ≤ 6 := h.2.1 p s h1 h2 h3 h4
theorem WF.wrd_ {F : Nat → Int} (h : WF F) {p s i : Int} (h1 : 0 ≤ p) (h2 : p < prs F) (h3 : 0 ≤ s) (h4 : s < 2) (h5 : 0 ≤ i) (h6 : i < lng F p s) : 0 ≤ wrd F p s i ∧ wrd F p s i < wds F s := h.2.2.1 p s i h1 h2 h3 h4 h5 h6
theorem WF.wds_ {F : Nat → Int} (h : WF F) {s : Int} (h3 : 0 ≤ s) (h4 : s < 2) : 0 ≤ wds F s ∧ wds F s ≤ 40 := h.2.2.2.1 s h3 h4
theorem WF.ltn_ {F : Nat → Int} (h : WF F) {s w : Int} (h3 : 0 ≤ s) (h4 : s < 2) (h5 : 0 ≤ w) (h6 : w < wds F s) : 1 ≤ ltn F s w ∧ ltn F s w ≤ 7 := h.2.2.2.2.1 s w h3 h4 h5 h6
theorem WF.ltr_ {F : Nat → Int} (h : WF F) {s w k : Int} (h3 : 0 ≤ s) (h4 : s < 2) (h5 : 0 ≤ w) (h6 : w < wds F s) (h7 : 0 ≤ k) (h8 : k < ltn F s w) : 97 ≤ ltr F s w k ∧ ltr F s w k ≤ 122 := h.2.2.2.2.2.1 s w k h3 h4 h5 h6 h7 h8
theorem WF.tld_ {F : Nat → Int} (h : WF F) {p i : Int} (h1 : 0 ≤ p) (h2 : p < prs F) (h3 : 0 ≤ i) (h4 : i < 6) : 0 ≤ tld F p i ∧ tld F p i < 64 := h.2.2.2.2.2.2.1 p i h1 h2 h3 h4
theorem WF.shf_ {F : Nat → Int} (h : WF F) {w k : Int} (h1 : 0 ≤ w) (h2 : w < 2) (h3 : 0 ≤ k) (h4 : k < 1600) : -1 ≤ shf F w k ∧ shf F w k ≤ 200000 := h.2.2.2.2.2.2.2.1 w k h1 h2 h3 h4
theorem WF.shr_ {F : Nat → Int} (h : WF F) {w u v : Int} (h1 : 0 ≤ w) (h2 : w < 2) (h3 : 0 ≤ u) (h4 : u < 40) (h5 : 0 ≤ v) (h6 : v < 40) : -1 ≤ shr F w u v ∧ shr F w u v ≤ 200000 := by
  have := h.shf_ h1 h2 (k := u * 40 + v) (by omega) (by omega)
  rw [shf_shr] at this
  exact this
theorem WF.ptn_ {F : Nat → Int} (h : WF F) {w p i j : Int} (h1 : 0 ≤ w) (h2 : w < 2) (h3 : 0 ≤ p) (h4 : p < prs F) (h5 : 0 ≤ i) (h6 : i < lng F p w) (h7 : 0 ≤ j) (h8 : j < lng F p (1 - w)) : 0 ≤ shr F w (wrd F p w i) (wrd F p (1 - w) j) := h.2.2.2.2.2.2.2.2.1 w p i j h1 h2 h3 h4 h5 h6 h7 h8
theorem WF.out {F : Nat → Int} (h : WF F) {w u v : Int} (h1 : 0 ≤ w) (h2 : w < 2) (h3 : 0 ≤ u) (h4 : u < 40) (h5 : 0 ≤ v) (h6 : v < 40) (h7 : shr F w u v ≠ -1) : u < wds F w ∧ v < wds F (1 - w) := h.2.2.2.2.2.2.2.2.2.1 w u v h1 h2 h3 h4 h5 h6 h7
theorem WF.ner_ {F : Nat → Int} (h : WF F) {w k : Int} (h1 : 0 ≤ w) (h2 : w < 2) (h3 : 0 ≤ k) (h4 : k < 8) : 0 ≤ ner F w k ∧ ner F w k ≤ 200000 := h.2.2.2.2.2.2.2.2.2.2.1 w k h1 h2 h3 h4
theorem WF.lst_ {F : Nat → Int} (h : WF F) : 0 ≤ lst F ∧ lst F ≤ 100000 := h.2.2.2.2.2.2.2.2.2.2.2.1
theorem WF.ltd_ {F : Nat → Int} (h : WF F) : ltd F = 0 ∨ ltd F = 1 := h.2.2.2.2.2.2.2.2.2.2.2.2.1
theorem WF.plc_ {F : Nat → Int} (h : WF F) : plc F = 0 ∨ plc F = 1 := h.2.2.2.2.2.2.2.2.2.2.2.2.2
/-- a state of the class from cell b on, without shares and sheets -/
def RepA (m : Nat → Nat → Int) (b : Nat) (F : Nat → Int) : Prop := m (b + 1) 6 = prs F
  ∧ (∀ s, 0 ≤ s → s < 2 → m (b + 2) (zix s) = wds F s)
  ∧ (∀ s w, 0 ≤ s → s < 2 → 0 ≤ w → w < wds F s → m (b + 3 + (1 + zix s)) (zix w) = key F s w)
  ∧ (∀ s u v, 0 ≤ s → s < 2 → 0 ≤ u → u < 40 → 0 ≤ v → v < 40 → 0 ≤ m (b + 6 + (1 + zix s)) (zix u) ∧ m (b + 6 + (1 + zix s)) (zix u) < 1099511627776 ∧ (m (b + 6 + (1 + zix s)) (zix u)).toNat.testBit v.toNat = ptn F s u v)
  ∧ (∀ s p, 0 ≤ s → s < 2 → 0 ≤ p → p < prs F → m (b + 9 + (1 + zix s)) (zix p) = lng F p s)
  ∧ (∀ s p i, 0 ≤ s → s < 2 → 0 ≤ p → p < prs F → 0 ≤ i → i < lng F p s → m (b + 12 + (1 + zix s)) (zix ((p * 6) + i)) = wrd F p s i)
  ∧ (∀ p i, 0 ≤ p → p < 24 → 0 ≤ i → i < 6 → m (b + 15) (zix ((p * 6) + i)) = if p < prs F then tld F p i else 0)
  ∧ m b 5 = ltd F ∧ m b 6 = plc F ∧ m b 7 = lst F
/-- its shares -/
def RepC (m : Nat → Nat → Int) (b : Nat) (F : Nat → Int) : Prop := (∀ w k, 0 ≤ w → w < 2 → 0 ≤ k → k < 1600 → m (b + 22 + (1 + zix w)) (zix k) = if shf F w k = -1 then 0 else shf F w k)
  ∧ (∀ w k, 0 ≤ w → w < 2 → 0 ≤ k → k < 8 → m (b + 25 + (1 + zix w)) (zix k) = ner F w k)
def CA {P : zP} (d : zD P) (F : Nat → Int) : Prop := WF F ∧ RepA d.m 13 F
def CI {P : zP} (d : zD P) (F : Nat → Int) : Prop := CA d F ∧ RepC d.m 13 F
theorem CI.ca {P : zP} {d : zD P} {F : Nat → Int} (h : CI d F) : CA d F := h.1
theorem CI.wf {P : zP} {d : zD P} {F : Nat → Int} (h : CI d F) : WF F := h.1.1
theorem CA.wf {P : zP} {d : zD P} {F : Nat → Int} (h : CA d F) : WF F := h.1
section
variable {P : zP} {d : zD P} {F : Nat → Int}
theorem CA.prs_ (h : CA d F) : d.m 14 6 = prs F := h.2.1
theorem CA.wds_ (h : CA d F) {s : Int} (h1 : 0 ≤ s) (h2 : s < 2) : d.m 15 (zix s) = wds F s := h.2.2.1 s h1 h2
theorem CA.key_ (h : CA d F) {s w : Int} (h1 : 0 ≤ s) (h2 : s < 2) (h3 : 0 ≤ w) (h4 : w < wds F s) : d.m (16 + (1 + zix s)) (zix w) = key F s w := h.2.2.2.1 s w h1 h2 h3 h4
theorem CA.bits (h : CA d F) {s u : Int} (h1 : 0 ≤ s) (h2 : s < 2) (h3 : 0 ≤ u) (h4 : u < 40) : 0 ≤ d.m (19 + (1 + zix s)) (zix u) ∧ d.m (19 + (1 + zix s)) (zix u) < 1099511627776 := ⟨(h.2.2.2.2.1 s u 0 h1 h2 h3 h4 (by omega) (by omega)).1, (h.2.2.2.2.1 s u 0 h1 h2 h3 h4 (by omega) (by omega)).2.1⟩
theorem CA.bit (h : CA d F) {s u v : Int} (h1 : 0 ≤ s) (h2 : s < 2) (h3 : 0 ≤ u) (h4 : u < 40) (h5 : 0 ≤ v) (h6 : v < 40) : (d.m (19 + (1 + zix s)) (zix u)).toNat.testBit v.toNat = ptn F s u v := (h.2.2.2.2.1 s u v h1 h2 h3 h4 h5 h6).2.2
theorem CA.lng_ (h : CA d F) {s p : Int} (h1 : 0 ≤ s) (h2 : s < 2) (h3 : 0 ≤ p) (h4 : p < prs F) : d.m (22 + (1 + zix s)) (zix p) = lng F p s := h.2.2.2.2.2.1 s p h1 h2 h3 h4
theorem CA.wrd_ (h : CA d F) {s p i : Int} (h1 : 0 ≤ s) (h2 : s < 2) (h3 : 0 ≤ p) (h4 : p < prs F) (h5 : 0 ≤ i) (h6 : i < lng F p s) : d.m (25 + (1 + zix s)) (zix ((p * 6) + i)) = wrd F p s i := h.2.2.2.2.2.2.1 s p i h1 h2 h3 h4 h5 h6
theorem CA.tld_ (h : CA d F) {p i : Int} (h1 : 0 ≤ p) (h2 : p < prs F) (h3 : 0 ≤ i) (h4 : i < 6) : d.m 28 (zix ((p * 6) + i)) = tld F p i := by
  have a := h.1.prs_
  have b := h.2.2.2.2.2.2.2.1 p i h1 (by omega) h3 h4
  rw [if_pos h2] at b
  exact b
theorem CA.ltd_ (h : CA d F) : d.m 13 5 = ltd F := h.2.2.2.2.2.2.2.2.1
theorem CA.plc_ (h : CA d F) : d.m 13 6 = plc F := h.2.2.2.2.2.2.2.2.2.1
theorem CA.lst_ (h : CA d F) : d.m 13 7 = lst F := h.2.2.2.2.2.2.2.2.2.2
theorem CI.shf_ (h : CI d F) {w k : Int} (h1 : 0 ≤ w) (h2 : w < 2) (h3 : 0 ≤ k) (h4 : k < 1600) : d.m (35 + (1 + zix w)) (zix k) = if shf F w k = -1 then 0 else shf F w k := h.2.1 w k h1 h2 h3 h4
theorem CI.shr_ (h : CI d F) {w u v : Int} (h1 : 0 ≤ w) (h2 : w < 2) (h3 : 0 ≤ u) (h4 : u < 40) (h5 : 0 ≤ v) (h6 : v < 40) : d.m (35 + (1 + zix w)) (zix ((u * 40) + v)) = if shr F w u v = -1 then 0 else shr F w u v := by
  rw [h.shf_ h1 h2 (by omega) (by omega), shf_shr]
theorem CI.ner_ (h : CI d F) {w k : Int} (h1 : 0 ≤ w) (h2 : w < 2) (h3 : 0 ≤ k) (h4 : k < 8) : d.m (38 + (1 + zix w)) (zix k) = ner F w k := h.2.2 w k h1 h2 h3 h4
theorem zix2 {s : Int} (h1 : 0 ≤ s) (h2 : s < 2) : zix s < 2 := by
  rw [zix_id (by omega)]
  omega
theorem CA.fr {e : zD P} (h : CA d F) (hr : ∀ r, 13 ≤ r → r < 29 → e.m r = d.m r) : CA e F := by
  have e13 := hr 13 (by omega) (by omega)
  have e14 := hr 14 (by omega) (by omega)
  have e15 := hr 15 (by omega) (by omega)
  have e28 := hr 28 (by omega) (by omega)
  have eg : ∀ (b : Nat) (s : Int), 16 ≤ b → b ≤ 25 → 0 ≤ s → s < 2 → e.m (b + (1 + zix s)) = d.m (b + (1 + zix s)) := fun b s h1 h2 h3 h4 => hr _ (by omega) (by have := zix2 h3 h4; omega)
  refine ⟨h.1, by rw [show (13 + 1 : Nat) = 14 from rfl, e14]; exact h.2.1, fun s h1 h2 => ?_, fun s w h1 h2 h3 h4 => ?_, fun s u v h1 h2 h3 h4 h5 h6 => ?_, fun s p h1 h2 h3 h4 => ?_, fun s p i h1 h2 h3 h4 h5 h6 => ?_, fun p i h1 h2 h3 h4 => ?_, ?_, ?_, ?_⟩
  · rw [show (13 + 2 : Nat) = 15 from rfl, e15]; exact h.2.2.1 s h1 h2
  · rw [eg (13 + 3) s (by omega) (by omega) h1 h2]; exact h.2.2.2.1 s w h1 h2 h3 h4
  · rw [eg (13 + 6) s (by omega) (by omega) h1 h2]; exact h.2.2.2.2.1 s u v h1 h2 h3 h4 h5 h6
  · rw [eg (13 + 9) s (by omega) (by omega) h1 h2]; exact h.2.2.2.2.2.1 s p h1 h2 h3 h4
  · rw [eg (13 + 12) s (by omega) (by omega) h1 h2]; exact h.2.2.2.2.2.2.1 s p i h1 h2 h3 h4 h5 h6
  · rw [show (13 + 15 : Nat) = 28 from rfl, e28]; exact h.2.2.2.2.2.2.2.1 p i h1 h2 h3 h4
  · rw [e13]; exact h.2.2.2.2.2.2.2.2.1
  · rw [e13]; exact h.2.2.2.2.2.2.2.2.2.1
  · rw [e13]; exact h.2.2.2.2.2.2.2.2.2.2
theorem CI.fr {e : zD P} (h : CI d F) (hr : ∀ r, 13 ≤ r → r < 41 → e.m r = d.m r) : CI e F := by
  refine ⟨h.1.fr (fun r h1 h2 => hr r h1 (by omega)), fun w k h1 h2 h3 h4 => ?_, fun w k h1 h2 h3 h4 => ?_⟩
  · rw [hr _ (by omega) (by have := zix2 h1 h2; omega)]; exact h.2.1 w k h1 h2 h3 h4
  · rw [hr _ (by omega) (by have := zix2 h1 h2; omega)]; exact h.2.2 w k h1 h2 h3 h4
theorem CI.Fr {e : zD P} {lo hi : Nat} (h : CI d F) (hf : Fr lo hi d e) (h41 : 41 ≤ lo) : CI e F := h.fr (fun r h1 h2 => hf r (by omega))
theorem CA.Fr {e : zD P} {lo hi : Nat} (h : CA d F) (hf : Fr lo hi d e) (h41 : 29 ≤ lo) : CA e F := h.fr (fun r h1 h2 => hf r (by omega))
theorem CI.up (h : CI d F) {r k : Nat} {x : Int} (h41 : 41 ≤ r) : CI (d.up r k x) F := h.fr (fun r' h1 h2 => up_ne (by omega))
theorem CA.up (h : CA d F) {r k : Nat} {x : Int} (h41 : 29 ≤ r) : CA (d.up r k x) F := h.fr (fun r' h1 h2 => up_ne (by omega))
end
