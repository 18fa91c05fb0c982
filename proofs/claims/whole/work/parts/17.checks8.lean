/-- a stretch of a code, up to a place -/
def zckS (X : zTabs) (M : zMe) (cc : ByteArray) (pcs : List Nat) (last : Nat) : Nat → Nat → List zI → Bool
  | _, pc, [] => pc == last
  | idx, pc, i :: r => decide (pcs.getD idx 0 = pc) && (match decode cc pc with
    | .ok (ji, len) => zck X M (fun t => pcs.getD t 0) pc ji len i && zckS X M cc pcs last (idx + 1) (pc + len) r
    | _ => false)
theorem zckS_app {X : zTabs} {M : zMe} {cc : ByteArray} {pcs : List Nat} {last : Nat} {l2 : List zI} : ∀ {l1 : List zI} {idx pc : Nat}, zckS X M cc pcs last idx pc l1 = true → zckL X M cc pcs (idx + l1.length) last l2 = true → zckL X M cc pcs idx pc (l1 ++ l2) = true
  | [], idx, pc, h, h2 => by
    have e : pc = last := by simpa [zckS] using h
    subst e
    exact h2
  | i :: r, idx, pc, h, h2 => by
    unfold zckS at h
    rw [Bool.and_eq_true] at h
    obtain ⟨h3, h4⟩ := h
    show zckL X M cc pcs idx pc (i :: (r ++ l2)) = true
    unfold zckL
    rw [Bool.and_eq_true]
    refine ⟨h3, ?_⟩
    split at h4
    · rename_i ji len hd
      rw [Bool.and_eq_true] at h4
      rw [hd]
      show (_ && _) = true
      rw [Bool.and_eq_true]
      refine ⟨h4.1, zckS_app h4.2 ?_⟩
      rw [show idx + 1 + r.length = idx + (i :: r).length by simp; omega]
      exact h2
    · cases h4
set_option maxRecDepth 100000 in
theorem zk_law_0 : zckS zXt ze_334 code zp_334 222 0 0 zc_law_0 = true := by decide +kernel
set_option maxRecDepth 100000 in
theorem zk_law_1 : zckS zXt ze_334 code zp_334 268 40 222 zc_law_1 = true := by decide +kernel
set_option maxRecDepth 100000 in
theorem zk_law_2 : zckS zXt ze_334 code zp_334 322 80 268 zc_law_2 = true := by decide +kernel
set_option maxRecDepth 100000 in
theorem zk_law_3 : zckS zXt ze_334 code zp_334 380 120 322 zc_law_3 = true := by decide +kernel
set_option maxRecDepth 100000 in
theorem zk_law_4 : zckS zXt ze_334 code zp_334 442 160 380 zc_law_4 = true := by decide +kernel
set_option maxRecDepth 100000 in
theorem zk_law_5 : zckS zXt ze_334 code zp_334 500 200 442 zc_law_5 = true := by decide +kernel
set_option maxRecDepth 100000 in
theorem zk_law_6 : zckS zXt ze_334 code zp_334 550 240 500 zc_law_6 = true := by decide +kernel
set_option maxRecDepth 100000 in
theorem zk_law_7 : zckS zXt ze_334 code zp_334 598 280 550 zc_law_7 = true := by decide +kernel
set_option maxRecDepth 100000 in
theorem zk_law_8 : zckS zXt ze_334 code zp_334 646 320 598 zc_law_8 = true := by decide +kernel
set_option maxRecDepth 100000 in
theorem zk_law_9 : zckS zXt ze_334 code zp_334 694 360 646 zc_law_9 = true := by decide +kernel
set_option maxRecDepth 100000 in
theorem zk_law_10 : zckS zXt ze_334 code zp_334 740 400 694 zc_law_10 = true := by decide +kernel
set_option maxRecDepth 100000 in
theorem zk_law_11 : zckS zXt ze_334 code zp_334 786 440 740 zc_law_11 = true := by decide +kernel
set_option maxRecDepth 100000 in
theorem zk_law_12 : zckS zXt ze_334 code zp_334 832 480 786 zc_law_12 = true := by decide +kernel
set_option maxRecDepth 100000 in
theorem zk_law_13 : zckS zXt ze_334 code zp_334 878 520 832 zc_law_13 = true := by decide +kernel
set_option maxRecDepth 100000 in
theorem zk_law_14 : zckS zXt ze_334 code zp_334 924 560 878 zc_law_14 = true := by decide +kernel
set_option maxRecDepth 100000 in
theorem zk_law_15 : zckS zXt ze_334 code zp_334 972 600 924 zc_law_15 = true := by decide +kernel
set_option maxRecDepth 100000 in
theorem zk_law_16 : zckS zXt ze_334 code zp_334 1018 640 972 zc_law_16 = true := by decide +kernel
set_option maxRecDepth 100000 in
theorem zk_law_17 : zckS zXt ze_334 code zp_334 1064 680 1018 zc_law_17 = true := by decide +kernel
set_option maxRecDepth 100000 in
theorem zk_law_18 : zckS zXt ze_334 code zp_334 1114 720 1064 zc_law_18 = true := by decide +kernel
set_option maxRecDepth 100000 in
theorem zk_law_19 : zckS zXt ze_334 code zp_334 1162 760 1114 zc_law_19 = true := by decide +kernel
set_option maxRecDepth 100000 in
theorem zk_law_20 : zckS zXt ze_334 code zp_334 1210 800 1162 zc_law_20 = true := by decide +kernel
set_option maxRecDepth 100000 in
theorem zk_law_21 : zckS zXt ze_334 code zp_334 1258 840 1210 zc_law_21 = true := by decide +kernel
set_option maxRecDepth 100000 in
theorem zk_law_22 : zckS zXt ze_334 code zp_334 1304 880 1258 zc_law_22 = true := by decide +kernel
set_option maxRecDepth 100000 in
theorem zk_law_23 : zckS zXt ze_334 code zp_334 1360 920 1304 zc_law_23 = true := by decide +kernel
set_option maxRecDepth 100000 in
theorem zk_law_24 : zckS zXt ze_334 code zp_334 1410 960 1360 zc_law_24 = true := by decide +kernel
set_option maxRecDepth 100000 in
theorem zk_law_25 : zckS zXt ze_334 code zp_334 1470 1000 1410 zc_law_25 = true := by decide +kernel
set_option maxRecDepth 100000 in
theorem zk_law_26 : zckL zXt ze_334 code zp_334 1040 1470 zc_law_26 = true := by decide +kernel
theorem zk_334 : zckL zXt ze_334 code zp_334 0 0 zc_334 = true := zckS_app zk_law_0 (zckS_app zk_law_1 (zckS_app zk_law_2 (zckS_app zk_law_3 (zckS_app zk_law_4 (zckS_app zk_law_5 (zckS_app zk_law_6 (zckS_app zk_law_7 (zckS_app zk_law_8 (zckS_app zk_law_9 (zckS_app zk_law_10 (zckS_app zk_law_11 (zckS_app zk_law_12 (zckS_app zk_law_13 (zckS_app zk_law_14 (zckS_app zk_law_15 (zckS_app zk_law_16 (zckS_app zk_law_17 (zckS_app zk_law_18 (zckS_app zk_law_19 (zckS_app zk_law_20 (zckS_app zk_law_21 (zckS_app zk_law_22 (zckS_app zk_law_23 (zckS_app zk_law_24 (zckS_app zk_law_25 (zk_law_26))))))))))))))))))))))))))
