/-! FEED, both sides. -/
theorem m256 {x : Int} {m : Nat} (hm : (256 : Int) ∣ (m : Int)) : x.bmod m % 256 = x % 256 := by
  have h : x.bmod m % (m : Int) = x % (m : Int) := Int.bmod_emod
  rw [← Int.emod_emod_of_dvd (x.bmod m) hm, h, Int.emod_emod_of_dvd x hm]
theorem b255 (a : Int) : zbin 3 a 255 = a % 256 := by
  have e : Int32.ofInt a &&& Int32.ofInt ((255 : Nat) : Int) = Int32.ofInt (((a % 256).toNat : Nat) : Int) := by
    apply Int32.toBitVec_inj.mp
    rw [Int32.toBitVec_and, o32, o32, Int32.toBitVec_ofInt]
    apply BitVec.eq_of_toNat_eq
    rw [BitVec.toNat_and, BitVec.toNat_ofInt, BitVec.toNat_ofNat, BitVec.toNat_ofNat, show (255 % 2 ^ 32 : Nat) = 2 ^ 8 - 1 by decide, Nat.and_two_pow_sub_one_eq_mod]
    have h1 : ((2 ^ 32 : Nat) : Int) = 4294967296 := rfl
    rw [h1]
    omega
  show (Int32.ofInt a &&& Int32.ofInt ((255 : Nat) : Int)).toInt = _
  rw [e, zi32 (by omega)]
  omega
theorem zby256 (z : Int) : zby z % 256 = z % 256 := by
  unfold zby
  rw [Int32.toInt_toInt8, m256 (by decide), Int32.toInt_ofInt, m256 (by decide)]
theorem sr7 {v : Int} {k : Nat} (hk : k < 32) : zbin 7 v k = wr v / ((2 ^ k : Nat) : Int) := by
  show (Int32.ofInt v >>> (Int32.ofInt (k : Int) &&& 31)).toInt = _
  have e : (Int32.ofInt v >>> (Int32.ofInt (k : Int) &&& 31)).toBitVec = (Int32.ofInt v).toBitVec.sshiftRight k := by
    rw [Int32.toBitVec_shiftRight]
    show (Int32.ofInt v).toBitVec.sshiftRight ((Int32.ofInt (k : Int) &&& 31).toBitVec.smod 32).toNat = _
    rw [bs_l k hk]
  show ((Int32.ofInt v >>> (Int32.ofInt (k : Int) &&& 31)).toBitVec).toInt = _
  rw [e, BitVec.toInt_sshiftRight, Int.shiftRight_eq_div_pow]
  rfl
theorem sr8 {v : Int} {k : Nat} (hk : k < 32) : zbin 8 v k % 256 = (v % 4294967296) / ((2 ^ k : Nat) : Int) % 256 := by
  show ((Int32.ofInt v).toUInt32 >>> ((Int32.ofInt (k : Int)).toUInt32 &&& Int32.toUInt32 31)).toInt32.toInt % 256 = _
  have e : (((Int32.ofInt v).toUInt32 >>> ((Int32.ofInt (k : Int)).toUInt32 &&& Int32.toUInt32 31)).toInt32).toBitVec = (Int32.ofInt v).toBitVec >>> k := by
    show ((Int32.ofInt v).toUInt32 >>> ((Int32.ofInt (k : Int)).toUInt32 &&& Int32.toUInt32 31)).toBitVec = _
    rw [UInt32.toBitVec_shiftRight]
    show (Int32.ofInt v).toBitVec >>> (((Int32.ofInt (k : Int)).toUInt32 &&& Int32.toUInt32 31).toBitVec % 32).toNat = _
    rw [bs_u k hk]
  show ((((Int32.ofInt v).toUInt32 >>> ((Int32.ofInt (k : Int)).toUInt32 &&& Int32.toUInt32 31)).toInt32).toBitVec).toInt % 256 = _
  rw [e, BitVec.toInt_eq_toNat_bmod, m256 (by decide), BitVec.toNat_ushiftRight, Int32.toBitVec_ofInt, BitVec.toNat_ofInt, Nat.shiftRight_eq_div_pow]
  have h1 : ((2 ^ 32 : Nat) : Int) = 4294967296 := rfl
  rw [h1, Int.natCast_ediv]
  congr 2
  omega
theorem wr_m (v : Int) : wr v % 4294967296 = v % 4294967296 := by
  unfold wr
  rw [Int32.toInt_ofInt]
  exact Int.bmod_emod
theorem byte_eq (v : Int) {k : Nat} (hk : k = 0 ∨ k = 8 ∨ k = 16 ∨ k = 24) : zbin 3 (zbin 8 v k) 255 = zbin 3 (zby (zby (zbin 7 v k))) 255 := by
  have w := wr_m v
  rw [b255, b255, zby256, zby256, sr7 (by omega), sr8 (by omega), ← w]
  rcases hk with rfl | rfl | rfl | rfl
  · have h : ((2 ^ 0 : Nat) : Int) = 1 := rfl
    rw [h]; omega
  · have h : ((2 ^ 8 : Nat) : Int) = 256 := rfl
    rw [h]; omega
  · have h : ((2 ^ 16 : Nat) : Int) = 65536 := rfl
    rw [h]; omega
  · have h : ((2 ^ 24 : Nat) : Int) = 16777216 := rfl
    rw [h]; omega
/-- four bytes more -/
def putB (B : Int → Int) (T v : Int) : Int → Int := fun k => if T ≤ k ∧ k < T + 4 then zbin 3 (zbin 8 v (24 - 8 * (k - T))) 255 else B k
theorem byte_j (v : Int) {j : Int} (h0 : 0 ≤ j) (h4 : j < 4) : zbin 3 (zby (zby (zbin 7 v (8 * (3 - j))))) 255 = zbin 3 (zbin 8 v (24 - 8 * j)) 255 := by
  have e : 8 * (3 - j) = 24 - 8 * j := by omega
  have e2 : 24 - 8 * j = ((24 - 8 * j).toNat : Int) := by omega
  rw [e, e2]
  exact (byte_eq v (by omega)).symm
section
variable {P : zP} {d t : zD P}
theorem k_tput {B : Int → Int} {T v : Int} (hT : d.m 11 1 = T) (T0 : 0 ≤ T ∧ T ≤ 236) (hB : ∀ k, 0 ≤ k → k < T → d.m 12 (zix k) = B k) : Ok (tp_put d v) (fun _ s => Fx (fun r => r = 11 ∨ r = 12) d s ∧ s.m 11 1 = T + 4 ∧ ∀ k, 0 ≤ k → k < T + 4 → s.m 12 (zix k) = putB B T v k) := by
  rw [tp_put_e]
  refine lpD (fun j s => tp_put_2 s v (24 - 8 * j)) (fun j s => Fx (fun r => r = 11 ∨ r = 12) d s ∧ s.m 11 1 = T + j ∧ ∀ k, 0 ≤ k → k < T + j → s.m 12 (zix k) = putB B T v k) 0 4 (by omega) d ⟨Fx.rf, by rw [hT]; omega, fun k k0 k1 => ?_⟩ (fun s hi => ?_) (fun j s j0 j1 hi hnext => ?_)
  · unfold putB
    rw [if_neg (by omega)]
    exact hB k k0 (by omega)
  · (try dsimp only)
    rw [tp_put_2_e, if_pos (by rw [wr_id (by omega)]; omega)]
    exact Ok_ret hi
  · have z : zin (T + j) 240 := of_eq_true (zinT (by omega))
    (try dsimp only)
    rw [tp_put_2_e, if_neg (by rw [wr_id (by omega)]; omega), hi.2.1, if_neg (by rw [wr_id (by omega), wr_id (by omega)]; omega), if_pos z, up_ne (show (11 : Nat) ≠ 12 by decide), hi.2.1, show 24 - 8 * j + -8 = 24 - 8 * (j + 1) by omega]
    refine hnext _ ?_
    refine ⟨(hi.1.up (Or.inr rfl)).up (Or.inl rfl), ?_, fun k k0 k1 => ?_⟩
    · rw [u_11_1, zfu_n, if_pos rfl]; omega
    · rw [up_ne (by decide), u_12, zfu_z (by omega)]
      by_cases e : k = T + j
      · rw [if_pos e]
        unfold putB
        rw [if_pos (by omega), e, show T + j - T = j by omega]
      · rw [if_neg e]
        exact hi.2.2 k k0 (by omega)
def mT (t s : zD P) : Prop := (∀ r, r ≠ 132 → r ≠ 134 → s.m r = t.m r) ∧ ∀ k, k ≠ 3 → s.m 132 k = t.m 132 k
theorem mT.tr {a b c : zD P} (h : mT a b) (h2 : mT b c) : mT a c := ⟨fun r r1 r2 => (h2.1 r r1 r2).trans (h.1 r r1 r2), fun k k1 => (h2.2 k k1).trans (h.2 k k1)⟩
theorem n_types {B : Int → Int} {T v : Int} (hT : d.m 132 3 = T) (T0 : 0 ≤ T ∧ T ≤ 236) (hB : ∀ k, 0 ≤ k → k < T → zbin 3 (d.m 134 (zix k)) 255 = B k) : Ok (m_types d v) (fun _ s => mT d s ∧ s.m 132 3 = T + 4 ∧ ∀ k, 0 ≤ k → k < T + 4 → zbin 3 (s.m 134 (zix k)) 255 = putB B T v k) := by
  rw [m_types_e]
  refine lpD (fun j s => m_types_2 s v (3 - j)) (fun j s => mT d s ∧ s.m 132 3 = T + j ∧ ∀ k, 0 ≤ k → k < T + j → zbin 3 (s.m 134 (zix k)) 255 = putB B T v k) 0 4 (by omega) d ⟨⟨fun _ _ _ => rfl, fun _ _ => rfl⟩, by rw [hT]; omega, fun k k0 k1 => ?_⟩ (fun s hi => ?_) (fun j s j0 j1 hi hnext => ?_)
  · unfold putB
    rw [if_neg (by omega)]
    exact hB k k0 (by omega)
  · (try dsimp only)
    rw [m_types_2_e, if_pos (by rw [wr_id (by omega)]; omega)]
    exact Ok_ret hi
  · have z : zin (T + j) 240 := of_eq_true (zinT (by omega))
    (try dsimp only)
    rw [m_types_2_e, if_neg (by rw [wr_id (by omega)]; omega), hi.2.1, if_pos z, up_ne (show (132 : Nat) ≠ 134 by decide), hi.2.1, show 3 - j + -1 = 3 - (j + 1) by omega]
    refine hnext _ ?_
    refine ⟨hi.1.tr ⟨fun r r1 r2 => by rw [up_ne r1, up_ne r2], fun k k1 => by rw [u_132_3, zfu_n, if_neg k1, up_ne (by decide)]⟩, ?_, fun k k0 k1 => ?_⟩
    · rw [u_132_3, zfu_n, if_pos rfl]; omega
    · rw [up_ne (by decide), u_134, zfu_z (by omega)]
      by_cases e : k = T + j
      · rw [if_pos e, byte_j v j0 j1]
        unfold putB
        rw [if_pos (by omega), e, show T + j - T = j by omega]
      · rw [if_neg e]
        exact hi.2.2 k k0 (by omega)
def fdB (B : Int → Int) (T a b c e f : Int) : Int → Int := putB (putB (putB (putB (putB B T a) (T + 4) b) (T + 4 + 4) c) (T + 4 + 4 + 4) e) (T + 4 + 4 + 4 + 4) f
theorem k_feed {B : Int → Int} {T : Int} (h : TQ d B T) (a b c e f : Int) : Ok (wl_feed d a b c e f) (fun v s => (T ≤ 220 → v = T + 20 ∧ Fx (fun r => r = 11 ∨ r = 12) d s ∧ s.m 11 1 = T + 20 ∧ ∀ k, 0 ≤ k → k < T + 20 → s.m 12 (zix k) = fdB B T a b c e f k) ∧ (¬ T ≤ 220 → v = -1 ∧ s = d)) := by
  have hT := h.2.2.1
  have oz : ¬ wr 1 = 0 := by rw [wr_id (by omega)]; omega
  rw [wl_feed_e, tp_hasRoom_e, h.1]
  by_cases c1 : T ≤ 220
  · rw [if_neg (by rw [wr_id (by omega), wr_id (by omega)]; omega), Option.bind_some]
    (try dsimp only)
    rw [if_pos oz]
    refine Ok_bind (k_tput h.1 (by omega) (fun k k0 k1 => (h.2.2.2 k k0 k1).1)) (fun v1 s1 f1 => ?_)
    refine Ok_bind (k_tput f1.2.1 (by omega) f1.2.2) (fun v2 s2 f2 => ?_)
    refine Ok_bind (k_tput f2.2.1 (by omega) f2.2.2) (fun v3 s3 f3 => ?_)
    refine Ok_bind (k_tput f3.2.1 (by omega) f3.2.2) (fun v4 s4 f4 => ?_)
    refine Ok_bind (k_tput f4.2.1 (by omega) f4.2.2) (fun v5 s5 f5 => ?_)
    have e5 : s5.m 11 1 = T + 20 := by rw [f5.2.1]; omega
    (try dsimp only)
    rw [e5]
    refine Ok_ret ⟨fun _ => ⟨rfl, (((f1.1.tr f2.1).tr f3.1).tr f4.1).tr f5.1, e5, fun k k0 k1 => f5.2.2 k k0 (by omega)⟩, fun hh => absurd c1 hh⟩
  · rw [if_pos (by rw [wr_id (by omega), wr_id (by omega)]; omega), Option.bind_some]
    (try dsimp only)
    rw [if_neg (fun hh => hh (show wr 0 = 0 from rfl))]
    exact Ok_ret ⟨fun hh => absurd hh c1, fun _ => ⟨rfl, rfl⟩⟩
theorem n_feed {B : Int → Int} {T : Int} (h : TN d B T) (a b c e f : Int) : Ok (m_feed d a b c e f) (fun v s => (T ≤ 220 → v = T + 20 ∧ mT d s ∧ s.m 132 3 = T + 20 ∧ ∀ k, 0 ≤ k → k < T + 20 → zbin 3 (s.m 134 (zix k)) 255 = fdB B T a b c e f k) ∧ (¬ T ≤ 220 → v = -1 ∧ s = d)) := by
  have hT := h.2.1
  rw [m_feed_e, h.1]
  by_cases c1 : T ≤ 220
  · rw [if_pos (by rw [wr_id (by omega), wr_id (by omega)]; omega)]
    refine Ok_bind (n_types h.1 (by omega) (fun k k0 k1 => (h.2.2 k k0 k1).1)) (fun v1 s1 f1 => ?_)
    refine Ok_bind (n_types f1.2.1 (by omega) f1.2.2) (fun v2 s2 f2 => ?_)
    refine Ok_bind (n_types f2.2.1 (by omega) f2.2.2) (fun v3 s3 f3 => ?_)
    refine Ok_bind (n_types f3.2.1 (by omega) f3.2.2) (fun v4 s4 f4 => ?_)
    refine Ok_bind (n_types f4.2.1 (by omega) f4.2.2) (fun v5 s5 f5 => ?_)
    have e5 : s5.m 132 3 = T + 20 := by rw [f5.2.1]; omega
    (try dsimp only)
    rw [e5]
    refine Ok_ret ⟨fun _ => ⟨rfl, (((f1.1.tr f2.1).tr f3.1).tr f4.1).tr f5.1, e5, fun k k0 k1 => f5.2.2 k k0 (by omega)⟩, fun hh => absurd c1 hh⟩
  · rw [if_neg (by rw [wr_id (by omega), wr_id (by omega)]; omega)]
    exact Ok_ret ⟨fun hh => absurd hh c1, fun _ => ⟨rfl, rfl⟩⟩
theorem putB_le {B : Int → Int} {T v : Int} (h : ∀ k, 0 ≤ k → k < T → 0 ≤ B k ∧ B k ≤ 255) : ∀ k, 0 ≤ k → k < T + 4 → 0 ≤ putB B T v k ∧ putB B T v k ≤ 255 := fun k k0 k1 => by
  unfold putB
  by_cases c : T ≤ k ∧ k < T + 4
  · rw [if_pos c, b255]
    omega
  · rw [if_neg c]
    exact h k k0 (by omega)
theorem fdB_le {B : Int → Int} {T : Int} (h : ∀ k, 0 ≤ k → k < T → 0 ≤ B k ∧ B k ≤ 255) (a b c e f : Int) : ∀ k, 0 ≤ k → k < T + 20 → 0 ≤ fdB B T a b c e f k ∧ fdB B T a b c e f k ≤ 255 := fun k k0 k1 => putB_le (putB_le (putB_le (putB_le (putB_le h)))) k k0 (by omega)
end
