/-! Checks of the methods from 0 on. -/
set_option maxRecDepth 100000 in
theorem zk_0 : zckL zXt ze_0 prog_2_method_12_code zp_0 0 0 zc_0 = true := by decide +kernel
theorem zM_0 : zMeth zT zXt zme zpcs 0 := ⟨zk_0, rfl, rfl, fun _ => (by rename_i h; exact Bool.noConfusion h), by decide +kernel, rfl, Nat.le_of_ble_eq_true rfl, (zw_15_ok _ (List.mem_of_getElem? (i := 24) rfl)), Or.inr (Or.inl ⟨rfl, rfl⟩)⟩
set_option maxRecDepth 100000 in
theorem zk_1 : zckL zXt ze_1 prog_2_method_11_code zp_1 0 0 zc_1 = true := by decide +kernel
theorem zM_1 : zMeth zT zXt zme zpcs 1 := ⟨zk_1, rfl, rfl, fun _ => (by rename_i h; exact Bool.noConfusion h), by decide +kernel, rfl, Nat.le_of_ble_eq_true rfl, (zw_14_ok _ (List.mem_of_getElem? (i := 7) rfl)), Or.inr (Or.inr (Or.inr ⟨rfl, rfl⟩))⟩
set_option maxRecDepth 100000 in
theorem zk_2 : zckL zXt ze_2 prog_2_method_14_code zp_2 0 0 zc_2 = true := by decide +kernel
theorem zM_2 : zMeth zT zXt zme zpcs 2 := ⟨zk_2, rfl, rfl, fun _ => (by rename_i h; exact Bool.noConfusion h), by decide +kernel, rfl, Nat.le_of_ble_eq_true rfl, (zw_15_ok _ (List.mem_of_getElem? (i := 31) rfl)), Or.inr (Or.inl ⟨rfl, rfl⟩)⟩
set_option maxRecDepth 100000 in
theorem zk_3 : zckL zXt ze_3 prog_2_method_9_code zp_3 0 0 zc_3 = true := by decide +kernel
theorem zM_3 : zMeth zT zXt zme zpcs 3 := ⟨zk_3, rfl, rfl, fun _ => (by rename_i h; exact Bool.noConfusion h), by decide +kernel, rfl, Nat.le_of_ble_eq_true rfl, (zw_13_ok _ (List.mem_of_getElem? (i := 37) rfl)), Or.inr (Or.inl ⟨rfl, rfl⟩)⟩
set_option maxRecDepth 100000 in
theorem zk_4 : zckL zXt ze_4 prog_2_method_15_code zp_4 0 0 zc_4 = true := by decide +kernel
theorem zM_4 : zMeth zT zXt zme zpcs 4 := ⟨zk_4, rfl, rfl, fun _ => (by rename_i h; exact Bool.noConfusion h), by decide +kernel, rfl, Nat.le_of_ble_eq_true rfl, (zw_17_ok _ (List.mem_of_getElem? (i := 16) rfl)), Or.inr (Or.inr (Or.inr ⟨rfl, rfl⟩))⟩
set_option maxRecDepth 100000 in
theorem zk_5 : zckL zXt ze_5 prog_2_method_10_code zp_5 0 0 zc_5 = true := by decide +kernel
theorem zM_5 : zMeth zT zXt zme zpcs 5 := ⟨zk_5, rfl, rfl, fun _ => (by rename_i h; exact Bool.noConfusion h), by decide +kernel, rfl, Nat.le_of_ble_eq_true rfl, (zw_14_ok _ (List.mem_of_getElem? (i := 3) rfl)), Or.inr (Or.inl ⟨rfl, rfl⟩)⟩
set_option maxRecDepth 100000 in
theorem zk_6 : zckL zXt ze_6 prog_3_method_15_code zp_6 0 0 zc_6 = true := by decide +kernel
theorem zM_6 : zMeth zT zXt zme zpcs 6 := ⟨zk_6, rfl, rfl, fun _ => (by rename_i h; exact Bool.noConfusion h), by decide +kernel, rfl, Nat.le_of_ble_eq_true rfl, (zw_16_ok _ (List.mem_of_getElem? (i := 24) rfl)), Or.inr (Or.inl ⟨rfl, rfl⟩)⟩
set_option maxRecDepth 100000 in
theorem zk_7 : zckL zXt ze_7 prog_3_method_11_code zp_7 0 0 zc_7 = true := by decide +kernel
theorem zM_7 : zMeth zT zXt zme zpcs 7 := ⟨zk_7, rfl, rfl, fun _ => (by rename_i h; exact Bool.noConfusion h), by decide +kernel, rfl, Nat.le_of_ble_eq_true rfl, (zw_16_ok _ (List.mem_of_getElem? (i := 13) rfl)), Or.inr (Or.inl ⟨rfl, rfl⟩)⟩
set_option maxRecDepth 100000 in
theorem zk_8 : zckL zXt ze_8 prog_3_method_3_code zp_8 0 0 zc_8 = true := by decide +kernel
theorem zM_8 : zMeth zT zXt zme zpcs 8 := ⟨zk_8, rfl, rfl, fun _ => (by rename_i h; exact Bool.noConfusion h), by decide +kernel, rfl, Nat.le_of_ble_eq_true rfl, (zw_16_ok _ (List.mem_of_getElem? (i := 7) rfl)), Or.inr (Or.inl ⟨rfl, rfl⟩)⟩
set_option maxRecDepth 100000 in
theorem zk_9 : zckL zXt ze_9 prog_3_method_8_code zp_9 0 0 zc_9 = true := by decide +kernel
theorem zM_9 : zMeth zT zXt zme zpcs 9 := ⟨zk_9, rfl, rfl, fun _ => (by rename_i h; exact Bool.noConfusion h), by decide +kernel, rfl, Nat.le_of_ble_eq_true rfl, (zw_16_ok _ (List.mem_of_getElem? (i := 10) rfl)), Or.inr (Or.inr (Or.inr ⟨rfl, rfl⟩))⟩
set_option maxRecDepth 100000 in
theorem zk_10 : zckL zXt ze_10 prog_3_method_21_code zp_10 0 0 zc_10 = true := by decide +kernel
theorem zM_10 : zMeth zT zXt zme zpcs 10 := ⟨zk_10, rfl, rfl, fun _ => (by rename_i h; exact Bool.noConfusion h), by decide +kernel, rfl, Nat.le_of_ble_eq_true rfl, (zw_16_ok _ (List.mem_of_getElem? (i := 23) rfl)), Or.inr (Or.inl ⟨rfl, rfl⟩)⟩
set_option maxRecDepth 100000 in
theorem zk_11 : zckL zXt ze_11 prog_3_method_20_code zp_11 0 0 zc_11 = true := by decide +kernel
theorem zM_11 : zMeth zT zXt zme zpcs 11 := ⟨zk_11, rfl, rfl, fun _ => (by rename_i h; exact Bool.noConfusion h), by decide +kernel, rfl, Nat.le_of_ble_eq_true rfl, (zw_16_ok _ (List.mem_of_getElem? (i := 22) rfl)), Or.inr (Or.inl ⟨rfl, rfl⟩)⟩
set_option maxRecDepth 100000 in
theorem zk_12 : zckL zXt ze_12 prog_4_method_3_code zp_12 0 0 zc_12 = true := by decide +kernel
theorem zM_12 : zMeth zT zXt zme zpcs 12 := ⟨zk_12, rfl, rfl, fun _ => (by rename_i h; exact Bool.noConfusion h), by decide +kernel, rfl, Nat.le_of_ble_eq_true rfl, (zw_14_ok _ (List.mem_of_getElem? (i := 34) rfl)), Or.inr (Or.inl ⟨rfl, rfl⟩)⟩
set_option maxRecDepth 100000 in
theorem zk_13 : zckL zXt ze_13 prog_5_method_6_code zp_13 0 0 zc_13 = true := by decide +kernel
theorem zM_13 : zMeth zT zXt zme zpcs 13 := ⟨zk_13, rfl, rfl, fun _ => (by rename_i h; exact Bool.noConfusion h), by decide +kernel, rfl, Nat.le_of_ble_eq_true rfl, (zw_14_ok _ (List.mem_of_getElem? (i := 16) rfl)), Or.inr (Or.inr (Or.inl ⟨rfl, rfl⟩))⟩
set_option maxRecDepth 100000 in
theorem zk_14 : zckL zXt ze_14 prog_5_method_2_code zp_14 0 0 zc_14 = true := by decide +kernel
theorem zM_14 : zMeth zT zXt zme zpcs 14 := ⟨zk_14, rfl, rfl, fun _ => (by rename_i h; exact Bool.noConfusion h), by decide +kernel, rfl, Nat.le_of_ble_eq_true rfl, (zw_14_ok _ (List.mem_of_getElem? (i := 6) rfl)), Or.inl ⟨rfl, rfl⟩⟩
set_option maxRecDepth 100000 in
theorem zk_15 : zckL zXt ze_15 prog_5_method_7_code zp_15 0 0 zc_15 = true := by decide +kernel
theorem zM_15 : zMeth zT zXt zme zpcs 15 := ⟨zk_15, rfl, rfl, fun _ => (by rename_i h; exact Bool.noConfusion h), by decide +kernel, rfl, Nat.le_of_ble_eq_true rfl, (zw_14_ok _ (List.mem_of_getElem? (i := 17) rfl)), Or.inl ⟨rfl, rfl⟩⟩
set_option maxRecDepth 100000 in
theorem zk_16 : zckL zXt ze_16 prog_5_method_4_code zp_16 0 0 zc_16 = true := by decide +kernel
theorem zM_16 : zMeth zT zXt zme zpcs 16 := ⟨zk_16, rfl, rfl, fun _ => (by rename_i h; exact Bool.noConfusion h), by decide +kernel, rfl, Nat.le_of_ble_eq_true rfl, (zw_14_ok _ (List.mem_of_getElem? (i := 18) rfl)), Or.inr (Or.inl ⟨rfl, rfl⟩)⟩
set_option maxRecDepth 100000 in
theorem zk_17 : zckL zXt ze_17 prog_5_method_3_code zp_17 0 0 zc_17 = true := by decide +kernel
theorem zM_17 : zMeth zT zXt zme zpcs 17 := ⟨zk_17, rfl, rfl, fun _ => (by rename_i h; exact Bool.noConfusion h), by decide +kernel, rfl, Nat.le_of_ble_eq_true rfl, (zw_14_ok _ (List.mem_of_getElem? (i := 13) rfl)), Or.inl ⟨rfl, rfl⟩⟩
set_option maxRecDepth 100000 in
theorem zk_18 : zckL zXt ze_18 prog_6_method_6_code zp_18 0 0 zc_18 = true := by decide +kernel
theorem zM_18 : zMeth zT zXt zme zpcs 18 := ⟨zk_18, rfl, rfl, fun _ => (by rename_i h; exact Bool.noConfusion h), by decide +kernel, rfl, Nat.le_of_ble_eq_true rfl, (zw_16_ok _ (List.mem_of_getElem? (i := 39) rfl)), Or.inr (Or.inl ⟨rfl, rfl⟩)⟩
set_option maxRecDepth 100000 in
theorem zk_19 : zckL zXt ze_19 prog_6_method_9_code zp_19 0 0 zc_19 = true := by decide +kernel
theorem zM_19 : zMeth zT zXt zme zpcs 19 := ⟨zk_19, rfl, rfl, fun _ => (by rename_i h; exact Bool.noConfusion h), by decide +kernel, rfl, Nat.le_of_ble_eq_true rfl, (zw_17_ok _ (List.mem_of_getElem? (i := 3) rfl)), Or.inr (Or.inl ⟨rfl, rfl⟩)⟩
set_option maxRecDepth 100000 in
theorem zk_20 : zckL zXt ze_20 prog_6_method_7_code zp_20 0 0 zc_20 = true := by decide +kernel
theorem zM_20 : zMeth zT zXt zme zpcs 20 := ⟨zk_20, rfl, rfl, fun _ => (by rename_i h; exact Bool.noConfusion h), by decide +kernel, rfl, Nat.le_of_ble_eq_true rfl, (zw_17_ok _ (List.mem_of_getElem? (i := 1) rfl)), Or.inr (Or.inl ⟨rfl, rfl⟩)⟩
set_option maxRecDepth 100000 in
theorem zk_21 : zckL zXt ze_21 prog_7_method_9_code zp_21 0 0 zc_21 = true := by decide +kernel
theorem zM_21 : zMeth zT zXt zme zpcs 21 := ⟨zk_21, rfl, rfl, fun _ => (by rename_i h; exact Bool.noConfusion h), by decide +kernel, rfl, Nat.le_of_ble_eq_true rfl, (zw_17_ok _ (List.mem_of_getElem? (i := 13) rfl)), Or.inl ⟨rfl, rfl⟩⟩
set_option maxRecDepth 100000 in
theorem zk_22 : zckL zXt ze_22 prog_7_method_7_code zp_22 0 0 zc_22 = true := by decide +kernel
theorem zM_22 : zMeth zT zXt zme zpcs 22 := ⟨zk_22, rfl, rfl, fun _ => (by rename_i h; exact Bool.noConfusion h), by decide +kernel, rfl, Nat.le_of_ble_eq_true rfl, (zw_17_ok _ (List.mem_of_getElem? (i := 11) rfl)), Or.inl ⟨rfl, rfl⟩⟩
set_option maxRecDepth 100000 in
theorem zk_23 : zckL zXt ze_23 prog_7_method_3_code zp_23 0 0 zc_23 = true := by decide +kernel
theorem zM_23 : zMeth zT zXt zme zpcs 23 := ⟨zk_23, rfl, rfl, fun _ => (by rename_i h; exact Bool.noConfusion h), by decide +kernel, rfl, Nat.le_of_ble_eq_true rfl, (zw_17_ok _ (List.mem_of_getElem? (i := 14) rfl)), Or.inr (Or.inl ⟨rfl, rfl⟩)⟩
set_option maxRecDepth 100000 in
theorem zk_24 : zckL zXt ze_24 prog_9_method_2_code zp_24 0 0 zc_24 = true := by decide +kernel
theorem zM_24 : zMeth zT zXt zme zpcs 24 := ⟨zk_24, rfl, rfl, fun _ => (by rename_i h; exact Bool.noConfusion h), by decide +kernel, rfl, Nat.le_of_ble_eq_true rfl, (zw_13_ok _ (List.mem_of_getElem? (i := 21) rfl)), Or.inl ⟨rfl, rfl⟩⟩
set_option maxRecDepth 100000 in
theorem zk_25 : zckL zXt ze_25 prog_9_method_5_code zp_25 0 0 zc_25 = true := by decide +kernel
theorem zM_25 : zMeth zT zXt zme zpcs 25 := ⟨zk_25, rfl, rfl, fun _ => (by rename_i h; exact Bool.noConfusion h), by decide +kernel, rfl, Nat.le_of_ble_eq_true rfl, (zw_13_ok _ (List.mem_of_getElem? (i := 35) rfl)), Or.inr (Or.inl ⟨rfl, rfl⟩)⟩
set_option maxRecDepth 100000 in
theorem zk_26 : zckL zXt ze_26 prog_9_method_3_code zp_26 0 0 zc_26 = true := by decide +kernel
theorem zM_26 : zMeth zT zXt zme zpcs 26 := ⟨zk_26, rfl, rfl, fun _ => (by rename_i h; exact Bool.noConfusion h), by decide +kernel, rfl, Nat.le_of_ble_eq_true rfl, (zw_13_ok _ (List.mem_of_getElem? (i := 23) rfl)), Or.inl ⟨rfl, rfl⟩⟩
set_option maxRecDepth 100000 in
theorem zk_27 : zckL zXt ze_27 prog_9_method_4_code zp_27 0 0 zc_27 = true := by decide +kernel
theorem zM_27 : zMeth zT zXt zme zpcs 27 := ⟨zk_27, rfl, rfl, fun _ => (by rename_i h; exact Bool.noConfusion h), by decide +kernel, rfl, Nat.le_of_ble_eq_true rfl, (zw_13_ok _ (List.mem_of_getElem? (i := 29) rfl)), Or.inl ⟨rfl, rfl⟩⟩
set_option maxRecDepth 100000 in
theorem zk_28 : zckL zXt ze_28 prog_10_method_6_code zp_28 0 0 zc_28 = true := by decide +kernel
theorem zM_28 : zMeth zT zXt zme zpcs 28 := ⟨zk_28, rfl, rfl, fun _ => (by rename_i h; exact Bool.noConfusion h), by decide +kernel, rfl, Nat.le_of_ble_eq_true rfl, (zw_16_ok _ (List.mem_of_getElem? (i := 32) rfl)), Or.inr (Or.inl ⟨rfl, rfl⟩)⟩
set_option maxRecDepth 100000 in
theorem zk_29 : zckL zXt ze_29 prog_11_method_8_code zp_29 0 0 zc_29 = true := by decide +kernel
theorem zM_29 : zMeth zT zXt zme zpcs 29 := ⟨zk_29, rfl, rfl, fun _ => (by rename_i h; exact Bool.noConfusion h), by decide +kernel, rfl, Nat.le_of_ble_eq_true rfl, (zw_17_ok _ (List.mem_of_getElem? (i := 25) rfl)), Or.inr (Or.inl ⟨rfl, rfl⟩)⟩
set_option maxRecDepth 100000 in
theorem zk_30 : zckL zXt ze_30 prog_11_method_5_code zp_30 0 0 zc_30 = true := by decide +kernel
theorem zM_30 : zMeth zT zXt zme zpcs 30 := ⟨zk_30, rfl, rfl, fun _ => (by rename_i h; exact Bool.noConfusion h), by decide +kernel, rfl, Nat.le_of_ble_eq_true rfl, (zw_14_ok _ (List.mem_of_getElem? (i := 26) rfl)), Or.inr (Or.inr (Or.inr ⟨rfl, rfl⟩))⟩
set_option maxRecDepth 100000 in
theorem zk_31 : zckL zXt ze_31 prog_11_method_6_code zp_31 0 0 zc_31 = true := by decide +kernel
theorem zM_31 : zMeth zT zXt zme zpcs 31 := ⟨zk_31, rfl, rfl, fun _ => (by rename_i h; exact Bool.noConfusion h), by decide +kernel, rfl, Nat.le_of_ble_eq_true rfl, (zw_15_ok _ (List.mem_of_getElem? (i := 15) rfl)), Or.inr (Or.inl ⟨rfl, rfl⟩)⟩
set_option maxRecDepth 100000 in
theorem zk_32 : zckL zXt ze_32 prog_11_method_7_code zp_32 0 0 zc_32 = true := by decide +kernel
theorem zM_32 : zMeth zT zXt zme zpcs 32 := ⟨zk_32, rfl, rfl, fun _ => (by rename_i h; exact Bool.noConfusion h), by decide +kernel, rfl, Nat.le_of_ble_eq_true rfl, (zw_15_ok _ (List.mem_of_getElem? (i := 9) rfl)), Or.inr (Or.inl ⟨rfl, rfl⟩)⟩
set_option maxRecDepth 100000 in
theorem zk_33 : zckL zXt ze_33 prog_11_method_17_code zp_33 0 0 zc_33 = true := by decide +kernel
theorem zM_33 : zMeth zT zXt zme zpcs 33 := ⟨zk_33, rfl, rfl, fun _ => (by rename_i h; exact Bool.noConfusion h), by decide +kernel, rfl, Nat.le_of_ble_eq_true rfl, (zw_15_ok _ (List.mem_of_getElem? (i := 11) rfl)), Or.inr (Or.inl ⟨rfl, rfl⟩)⟩
set_option maxRecDepth 100000 in
theorem zk_34 : zckL zXt ze_34 prog_12_method_13_code zp_34 0 0 zc_34 = true := by decide +kernel
theorem zM_34 : zMeth zT zXt zme zpcs 34 := ⟨zk_34, rfl, rfl, fun _ => (by rename_i h; exact Bool.noConfusion h), by decide +kernel, rfl, Nat.le_of_ble_eq_true rfl, (zw_13_ok _ (List.mem_of_getElem? (i := 20) rfl)), Or.inl ⟨rfl, rfl⟩⟩
set_option maxRecDepth 100000 in
theorem zk_35 : zckL zXt ze_35 prog_12_method_6_code zp_35 0 0 zc_35 = true := by decide +kernel
theorem zM_35 : zMeth zT zXt zme zpcs 35 := ⟨zk_35, rfl, rfl, fun _ => (by rename_i h; exact Bool.noConfusion h), by decide +kernel, rfl, Nat.le_of_ble_eq_true rfl, (zw_17_ok _ (List.mem_of_getElem? (i := 32) rfl)), Or.inr (Or.inl ⟨rfl, rfl⟩)⟩
set_option maxRecDepth 100000 in
theorem zk_36 : zckL zXt ze_36 prog_12_method_5_code zp_36 0 0 zc_36 = true := by decide +kernel
theorem zM_36 : zMeth zT zXt zme zpcs 36 := ⟨zk_36, rfl, rfl, fun _ => (by rename_i h; exact Bool.noConfusion h), by decide +kernel, rfl, Nat.le_of_ble_eq_true rfl, (zw_13_ok _ (List.mem_of_getElem? (i := 31) rfl)), Or.inl ⟨rfl, rfl⟩⟩
set_option maxRecDepth 100000 in
theorem zk_37 : zckL zXt ze_37 prog_12_method_19_code zp_37 0 0 zc_37 = true := by decide +kernel
theorem zM_37 : zMeth zT zXt zme zpcs 37 := ⟨zk_37, rfl, rfl, fun _ => (by rename_i h; exact Bool.noConfusion h), by decide +kernel, rfl, Nat.le_of_ble_eq_true rfl, (zw_13_ok _ (List.mem_of_getElem? (i := 26) rfl)), Or.inr (Or.inr (Or.inr ⟨rfl, rfl⟩))⟩
set_option maxRecDepth 100000 in
theorem zk_38 : zckL zXt ze_38 prog_12_method_7_code zp_38 0 0 zc_38 = true := by decide +kernel
theorem zM_38 : zMeth zT zXt zme zpcs 38 := ⟨zk_38, rfl, rfl, fun _ => (by rename_i h; exact Bool.noConfusion h), by decide +kernel, rfl, Nat.le_of_ble_eq_true rfl, (zw_14_ok _ (List.mem_of_getElem? (i := 19) rfl)), Or.inr (Or.inl ⟨rfl, rfl⟩)⟩
set_option maxRecDepth 100000 in
theorem zk_39 : zckL zXt ze_39 prog_12_method_2_code zp_39 0 0 zc_39 = true := by decide +kernel
theorem zM_39 : zMeth zT zXt zme zpcs 39 := ⟨zk_39, rfl, rfl, fun _ => (by rename_i h; exact Bool.noConfusion h), by decide +kernel, rfl, Nat.le_of_ble_eq_true rfl, (zw_13_ok _ (List.mem_of_getElem? (i := 15) rfl)), Or.inr (Or.inr (Or.inr ⟨rfl, rfl⟩))⟩
set_option maxRecDepth 100000 in
theorem zk_40 : zckL zXt ze_40 prog_12_method_17_code zp_40 0 0 zc_40 = true := by decide +kernel
theorem zM_40 : zMeth zT zXt zme zpcs 40 := ⟨zk_40, rfl, rfl, fun _ => (by rename_i h; exact Bool.noConfusion h), by decide +kernel, rfl, Nat.le_of_ble_eq_true rfl, (zw_13_ok _ (List.mem_of_getElem? (i := 25) rfl)), Or.inr (Or.inl ⟨rfl, rfl⟩)⟩
set_option maxRecDepth 100000 in
theorem zk_41 : zckL zXt ze_41 prog_12_method_3_code zp_41 0 0 zc_41 = true := by decide +kernel
theorem zM_41 : zMeth zT zXt zme zpcs 41 := ⟨zk_41, rfl, rfl, fun _ => (by rename_i h; exact Bool.noConfusion h), by decide +kernel, rfl, Nat.le_of_ble_eq_true rfl, (zw_13_ok _ (List.mem_of_getElem? (i := 18) rfl)), Or.inr (Or.inr (Or.inr ⟨rfl, rfl⟩))⟩
set_option maxRecDepth 100000 in
theorem zk_42 : zckL zXt ze_42 prog_12_method_4_code zp_42 0 0 zc_42 = true := by decide +kernel
theorem zM_42 : zMeth zT zXt zme zpcs 42 := ⟨zk_42, rfl, rfl, fun _ => (by rename_i h; exact Bool.noConfusion h), by decide +kernel, rfl, Nat.le_of_ble_eq_true rfl, (zw_13_ok _ (List.mem_of_getElem? (i := 16) rfl)), Or.inl ⟨rfl, rfl⟩⟩
set_option maxRecDepth 100000 in
theorem zk_43 : zckL zXt ze_43 prog_1_method_47_code zp_43 0 0 zc_43 = true := by decide +kernel
theorem zM_43 : zMeth zT zXt zme zpcs 43 := ⟨zk_43, rfl, rfl, fun _ => (by rename_i h; exact Bool.noConfusion h), by decide +kernel, rfl, Nat.le_of_ble_eq_true rfl, (zw_16_ok _ (List.mem_of_getElem? (i := 4) rfl)), Or.inr (Or.inr (Or.inr ⟨rfl, rfl⟩))⟩
set_option maxRecDepth 100000 in
theorem zk_44 : zckL zXt ze_44 prog_1_method_49_code zp_44 0 0 zc_44 = true := by decide +kernel
theorem zM_44 : zMeth zT zXt zme zpcs 44 := ⟨zk_44, rfl, rfl, fun _ => (by rename_i h; exact Bool.noConfusion h), by decide +kernel, rfl, Nat.le_of_ble_eq_true rfl, (zw_15_ok _ (List.mem_of_getElem? (i := 37) rfl)), Or.inr (Or.inr (Or.inr ⟨rfl, rfl⟩))⟩
set_option maxRecDepth 100000 in
theorem zk_45 : zckL zXt ze_45 prog_1_method_46_code zp_45 0 0 zc_45 = true := by decide +kernel
theorem zM_45 : zMeth zT zXt zme zpcs 45 := ⟨zk_45, rfl, rfl, fun _ => (by rename_i h; exact Bool.noConfusion h), by decide +kernel, rfl, Nat.le_of_ble_eq_true rfl, (zw_15_ok _ (List.mem_of_getElem? (i := 2) rfl)), Or.inr (Or.inr (Or.inr ⟨rfl, rfl⟩))⟩
set_option maxRecDepth 100000 in
theorem zk_46 : zckL zXt ze_46 prog_1_method_15_code zp_46 0 0 zc_46 = true := by decide +kernel
theorem zM_46 : zMeth zT zXt zme zpcs 46 := ⟨zk_46, rfl, rfl, fun _ => (by rename_i h; exact Bool.noConfusion h), by decide +kernel, rfl, Nat.le_of_ble_eq_true rfl, (zw_15_ok _ (List.mem_of_getElem? (i := 22) rfl)), Or.inr (Or.inl ⟨rfl, rfl⟩)⟩
set_option maxRecDepth 100000 in
theorem zk_47 : zckL zXt ze_47 prog_1_method_52_code zp_47 0 0 zc_47 = true := by decide +kernel
theorem zM_47 : zMeth zT zXt zme zpcs 47 := ⟨zk_47, rfl, rfl, fun _ => (by rename_i h; exact Bool.noConfusion h), by decide +kernel, rfl, Nat.le_of_ble_eq_true rfl, (zw_14_ok _ (List.mem_of_getElem? (i := 10) rfl)), Or.inr (Or.inl ⟨rfl, rfl⟩)⟩
set_option maxRecDepth 100000 in
theorem zk_48 : zckL zXt ze_48 prog_1_method_12_code zp_48 0 0 zc_48 = true := by decide +kernel
theorem zM_48 : zMeth zT zXt zme zpcs 48 := ⟨zk_48, rfl, rfl, fun _ => (by rename_i h; exact Bool.noConfusion h), by decide +kernel, rfl, Nat.le_of_ble_eq_true rfl, (zw_15_ok _ (List.mem_of_getElem? (i := 18) rfl)), Or.inr (Or.inr (Or.inr ⟨rfl, rfl⟩))⟩
set_option maxRecDepth 100000 in
theorem zk_49 : zckL zXt ze_49 prog_1_method_51_code zp_49 0 0 zc_49 = true := by decide +kernel
theorem zM_49 : zMeth zT zXt zme zpcs 49 := ⟨zk_49, rfl, rfl, fun _ => (by rename_i h; exact Bool.noConfusion h), by decide +kernel, rfl, Nat.le_of_ble_eq_true rfl, (zw_13_ok _ (List.mem_of_getElem? (i := 28) rfl)), Or.inr (Or.inr (Or.inl ⟨rfl, rfl⟩))⟩
set_option maxRecDepth 100000 in
theorem zk_50 : zckL zXt ze_50 prog_14_method_8_code zp_50 0 0 zc_50 = true := by decide +kernel
theorem zM_50 : zMeth zT zXt zme zpcs 50 := ⟨zk_50, rfl, rfl, fun _ => (by rename_i h; exact Bool.noConfusion h), by decide +kernel, rfl, Nat.le_of_ble_eq_true rfl, (zw_18_ok _ (List.mem_of_getElem? (i := 25) rfl)), Or.inl ⟨rfl, rfl⟩⟩
set_option maxRecDepth 100000 in
theorem zk_51 : zckL zXt ze_51 prog_14_method_119_code zp_51 0 0 zc_51 = true := by decide +kernel
theorem zM_51 : zMeth zT zXt zme zpcs 51 := ⟨zk_51, rfl, rfl, fun _ => (by rename_i h; exact Bool.noConfusion h), by decide +kernel, rfl, Nat.le_of_ble_eq_true rfl, (zw_20_ok _ (List.mem_of_getElem? (i := 35) rfl)), Or.inr (Or.inl ⟨rfl, rfl⟩)⟩
set_option maxRecDepth 100000 in
theorem zk_52 : zckL zXt ze_52 prog_14_method_88_code zp_52 0 0 zc_52 = true := by decide +kernel
theorem zM_52 : zMeth zT zXt zme zpcs 52 := ⟨zk_52, rfl, rfl, fun _ => (by rename_i h; exact Bool.noConfusion h), by decide +kernel, rfl, Nat.le_of_ble_eq_true rfl, (zw_20_ok _ (List.mem_of_getElem? (i := 0) rfl)), Or.inl ⟨rfl, rfl⟩⟩
set_option maxRecDepth 100000 in
theorem zk_53 : zckL zXt ze_53 prog_14_method_6_code zp_53 0 0 zc_53 = true := by decide +kernel
theorem zM_53 : zMeth zT zXt zme zpcs 53 := ⟨zk_53, rfl, rfl, fun _ => (by rename_i h; exact Bool.noConfusion h), by decide +kernel, rfl, Nat.le_of_ble_eq_true rfl, (zw_20_ok _ (List.mem_of_getElem? (i := 6) rfl)), Or.inr (Or.inr (Or.inr ⟨rfl, rfl⟩))⟩
set_option maxRecDepth 100000 in
theorem zk_54 : zckL zXt ze_54 prog_14_method_23_code zp_54 0 0 zc_54 = true := by decide +kernel
theorem zM_54 : zMeth zT zXt zme zpcs 54 := ⟨zk_54, rfl, rfl, fun _ => (by rename_i h; exact Bool.noConfusion h), by decide +kernel, rfl, Nat.le_of_ble_eq_true rfl, (zw_18_ok _ (List.mem_of_getElem? (i := 19) rfl)), Or.inr (Or.inl ⟨rfl, rfl⟩)⟩
set_option maxRecDepth 100000 in
theorem zk_55 : zckL zXt ze_55 prog_14_method_2_code zp_55 0 0 zc_55 = true := by decide +kernel
theorem zM_55 : zMeth zT zXt zme zpcs 55 := ⟨zk_55, rfl, rfl, fun _ => (by rename_i h; exact Bool.noConfusion h), by decide +kernel, rfl, Nat.le_of_ble_eq_true rfl, (zw_18_ok _ (List.mem_of_getElem? (i := 14) rfl)), Or.inr (Or.inr (Or.inr ⟨rfl, rfl⟩))⟩
set_option maxRecDepth 100000 in
theorem zk_56 : zckL zXt ze_56 prog_14_method_112_code zp_56 0 0 zc_56 = true := by decide +kernel
theorem zM_56 : zMeth zT zXt zme zpcs 56 := ⟨zk_56, rfl, rfl, fun _ => (by rename_i h; exact Bool.noConfusion h), by decide +kernel, rfl, Nat.le_of_ble_eq_true rfl, (zw_20_ok _ (List.mem_of_getElem? (i := 28) rfl)), Or.inl ⟨rfl, rfl⟩⟩
set_option maxRecDepth 100000 in
theorem zk_57 : zckL zXt ze_57 prog_14_method_14_code zp_57 0 0 zc_57 = true := by decide +kernel
theorem zM_57 : zMeth zT zXt zme zpcs 57 := ⟨zk_57, rfl, rfl, fun _ => (by rename_i h; exact Bool.noConfusion h), by decide +kernel, rfl, Nat.le_of_ble_eq_true rfl, (zw_18_ok _ (List.mem_of_getElem? (i := 8) rfl)), Or.inr (Or.inl ⟨rfl, rfl⟩)⟩
set_option maxRecDepth 100000 in
theorem zk_58 : zckL zXt ze_58 prog_14_method_13_code zp_58 0 0 zc_58 = true := by decide +kernel
theorem zM_58 : zMeth zT zXt zme zpcs 58 := ⟨zk_58, rfl, rfl, fun _ => (by rename_i h; exact Bool.noConfusion h), by decide +kernel, rfl, Nat.le_of_ble_eq_true rfl, (zw_18_ok _ (List.mem_of_getElem? (i := 7) rfl)), Or.inr (Or.inl ⟨rfl, rfl⟩)⟩
set_option maxRecDepth 100000 in
theorem zk_59 : zckL zXt ze_59 prog_14_method_91_code zp_59 0 0 zc_59 = true := by decide +kernel
theorem zM_59 : zMeth zT zXt zme zpcs 59 := ⟨zk_59, rfl, rfl, fun _ => (by rename_i h; exact Bool.noConfusion h), by decide +kernel, rfl, Nat.le_of_ble_eq_true rfl, (zw_20_ok _ (List.mem_of_getElem? (i := 7) rfl)), Or.inr (Or.inl ⟨rfl, rfl⟩)⟩
set_option maxRecDepth 100000 in
theorem zk_60 : zckL zXt ze_60 prog_14_method_9_code zp_60 0 0 zc_60 = true := by decide +kernel
theorem zM_60 : zMeth zT zXt zme zpcs 60 := ⟨zk_60, rfl, rfl, fun _ => (by rename_i h; exact Bool.noConfusion h), by decide +kernel, rfl, Nat.le_of_ble_eq_true rfl, (zw_17_ok _ (List.mem_of_getElem? (i := 38) rfl)), Or.inr (Or.inl ⟨rfl, rfl⟩)⟩
set_option maxRecDepth 100000 in
theorem zk_61 : zckL zXt ze_61 prog_14_method_4_code zp_61 0 0 zc_61 = true := by decide +kernel
theorem zM_61 : zMeth zT zXt zme zpcs 61 := ⟨zk_61, rfl, rfl, fun _ => (by rename_i h; exact Bool.noConfusion h), by decide +kernel, rfl, Nat.le_of_ble_eq_true rfl, (zw_18_ok _ (List.mem_of_getElem? (i := 9) rfl)), Or.inr (Or.inl ⟨rfl, rfl⟩)⟩
set_option maxRecDepth 100000 in
theorem zk_62 : zckL zXt ze_62 prog_14_method_3_code zp_62 0 0 zc_62 = true := by decide +kernel
theorem zM_62 : zMeth zT zXt zme zpcs 62 := ⟨zk_62, rfl, rfl, fun _ => (by rename_i h; exact Bool.noConfusion h), by decide +kernel, rfl, Nat.le_of_ble_eq_true rfl, (zw_18_ok _ (List.mem_of_getElem? (i := 36) rfl)), Or.inr (Or.inl ⟨rfl, rfl⟩)⟩
set_option maxRecDepth 100000 in
theorem zk_63 : zckL zXt ze_63 prog_14_method_135_code zp_63 0 0 zc_63 = true := by decide +kernel
theorem zM_63 : zMeth zT zXt zme zpcs 63 := ⟨zk_63, rfl, rfl, fun _ => (by rename_i h; exact Bool.noConfusion h), by decide +kernel, rfl, Nat.le_of_ble_eq_true rfl, (zw_21_ok _ (List.mem_of_getElem? (i := 11) rfl)), Or.inr (Or.inl ⟨rfl, rfl⟩)⟩
set_option maxRecDepth 100000 in
theorem zk_64 : zckL zXt ze_64 prog_14_method_123_code zp_64 0 0 zc_64 = true := by decide +kernel
theorem zM_64 : zMeth zT zXt zme zpcs 64 := ⟨zk_64, rfl, rfl, fun _ => (by rename_i h; exact Bool.noConfusion h), by decide +kernel, rfl, Nat.le_of_ble_eq_true rfl, (zw_20_ok _ (List.mem_of_getElem? (i := 39) rfl)), Or.inl ⟨rfl, rfl⟩⟩
set_option maxRecDepth 100000 in
theorem zk_65 : zckL zXt ze_65 prog_14_method_61_code zp_65 0 0 zc_65 = true := by decide +kernel
theorem zM_65 : zMeth zT zXt zme zpcs 65 := ⟨zk_65, rfl, rfl, fun _ => (by rename_i h; exact Bool.noConfusion h), by decide +kernel, rfl, Nat.le_of_ble_eq_true rfl, (zw_19_ok _ (List.mem_of_getElem? (i := 11) rfl)), Or.inr (Or.inl ⟨rfl, rfl⟩)⟩
set_option maxRecDepth 100000 in
theorem zk_66 : zckL zXt ze_66 prog_14_method_108_code zp_66 0 0 zc_66 = true := by decide +kernel
theorem zM_66 : zMeth zT zXt zme zpcs 66 := ⟨zk_66, rfl, rfl, fun _ => (by rename_i h; exact Bool.noConfusion h), by decide +kernel, rfl, Nat.le_of_ble_eq_true rfl, (zw_20_ok _ (List.mem_of_getElem? (i := 23) rfl)), Or.inr (Or.inl ⟨rfl, rfl⟩)⟩
set_option maxRecDepth 100000 in
theorem zk_67 : zckL zXt ze_67 prog_14_method_50_code zp_67 0 0 zc_67 = true := by decide +kernel
theorem zM_67 : zMeth zT zXt zme zpcs 67 := ⟨zk_67, rfl, rfl, fun _ => (by rename_i h; exact Bool.noConfusion h), by decide +kernel, rfl, Nat.le_of_ble_eq_true rfl, (zw_18_ok _ (List.mem_of_getElem? (i := 10) rfl)), Or.inl ⟨rfl, rfl⟩⟩
set_option maxRecDepth 100000 in
theorem zk_68 : zckL zXt ze_68 prog_14_method_65_code zp_68 0 0 zc_68 = true := by decide +kernel
theorem zM_68 : zMeth zT zXt zme zpcs 68 := ⟨zk_68, rfl, rfl, fun _ => (by rename_i h; exact Bool.noConfusion h), by decide +kernel, rfl, Nat.le_of_ble_eq_true rfl, (zw_19_ok _ (List.mem_of_getElem? (i := 14) rfl)), Or.inr (Or.inr (Or.inr ⟨rfl, rfl⟩))⟩
set_option maxRecDepth 100000 in
theorem zk_69 : zckL zXt ze_69 prog_14_method_115_code zp_69 0 0 zc_69 = true := by decide +kernel
theorem zM_69 : zMeth zT zXt zme zpcs 69 := ⟨zk_69, rfl, rfl, fun _ => (by rename_i h; exact Bool.noConfusion h), by decide +kernel, rfl, Nat.le_of_ble_eq_true rfl, (zw_20_ok _ (List.mem_of_getElem? (i := 31) rfl)), Or.inr (Or.inl ⟨rfl, rfl⟩)⟩
set_option maxRecDepth 100000 in
theorem zk_70 : zckL zXt ze_70 prog_14_method_16_code zp_70 0 0 zc_70 = true := by decide +kernel
theorem zM_70 : zMeth zT zXt zme zpcs 70 := ⟨zk_70, rfl, rfl, fun _ => (by rename_i h; exact Bool.noConfusion h), by decide +kernel, rfl, Nat.le_of_ble_eq_true rfl, (zw_18_ok _ (List.mem_of_getElem? (i := 0) rfl)), Or.inl ⟨rfl, rfl⟩⟩
set_option maxRecDepth 100000 in
theorem zk_71 : zckL zXt ze_71 prog_14_method_15_code zp_71 0 0 zc_71 = true := by decide +kernel
theorem zM_71 : zMeth zT zXt zme zpcs 71 := ⟨zk_71, rfl, rfl, fun _ => (by rename_i h; exact Bool.noConfusion h), by decide +kernel, rfl, Nat.le_of_ble_eq_true rfl, (zw_18_ok _ (List.mem_of_getElem? (i := 4) rfl)), Or.inr (Or.inl ⟨rfl, rfl⟩)⟩
set_option maxRecDepth 100000 in
theorem zk_72 : zckL zXt ze_72 prog_14_method_5_code zp_72 0 0 zc_72 = true := by decide +kernel
theorem zM_72 : zMeth zT zXt zme zpcs 72 := ⟨zk_72, rfl, rfl, fun _ => (by rename_i h; exact Bool.noConfusion h), by decide +kernel, rfl, Nat.le_of_ble_eq_true rfl, (zw_18_ok _ (List.mem_of_getElem? (i := 35) rfl)), Or.inr (Or.inl ⟨rfl, rfl⟩)⟩
set_option maxRecDepth 100000 in
theorem zk_73 : zckL zXt ze_73 prog_14_method_7_code zp_73 0 0 zc_73 = true := by decide +kernel
theorem zM_73 : zMeth zT zXt zme zpcs 73 := ⟨zk_73, rfl, rfl, fun _ => (by rename_i h; exact Bool.noConfusion h), by decide +kernel, rfl, Nat.le_of_ble_eq_true rfl, (zw_20_ok _ (List.mem_of_getElem? (i := 13) rfl)), Or.inr (Or.inl ⟨rfl, rfl⟩)⟩
set_option maxRecDepth 100000 in
theorem zk_74 : zckL zXt ze_74 prog_14_method_113_code zp_74 0 0 zc_74 = true := by decide +kernel
theorem zM_74 : zMeth zT zXt zme zpcs 74 := ⟨zk_74, rfl, rfl, fun _ => (by rename_i h; exact Bool.noConfusion h), by decide +kernel, rfl, Nat.le_of_ble_eq_true rfl, (zw_20_ok _ (List.mem_of_getElem? (i := 29) rfl)), Or.inl ⟨rfl, rfl⟩⟩
set_option maxRecDepth 100000 in
theorem zk_75 : zckL zXt ze_75 prog_14_method_100_code zp_75 0 0 zc_75 = true := by decide +kernel
theorem zM_75 : zMeth zT zXt zme zpcs 75 := ⟨zk_75, rfl, rfl, fun _ => (by rename_i h; exact Bool.noConfusion h), by decide +kernel, rfl, Nat.le_of_ble_eq_true rfl, (zw_20_ok _ (List.mem_of_getElem? (i := 17) rfl)), Or.inr (Or.inl ⟨rfl, rfl⟩)⟩
set_option maxRecDepth 100000 in
theorem zk_76 : zckL zXt ze_76 prog_14_method_39_code zp_76 0 0 zc_76 = true := by decide +kernel
theorem zM_76 : zMeth zT zXt zme zpcs 76 := ⟨zk_76, rfl, rfl, fun _ => (by rename_i h; exact Bool.noConfusion h), by decide +kernel, rfl, Nat.le_of_ble_eq_true rfl, (zw_18_ok _ (List.mem_of_getElem? (i := 33) rfl)), Or.inr (Or.inl ⟨rfl, rfl⟩)⟩
set_option maxRecDepth 100000 in
theorem zk_77 : zckL zXt ze_77 prog_14_method_11_code zp_77 0 0 zc_77 = true := by decide +kernel
theorem zM_77 : zMeth zT zXt zme zpcs 77 := ⟨zk_77, rfl, rfl, fun _ => (by rename_i h; exact Bool.noConfusion h), by decide +kernel, rfl, Nat.le_of_ble_eq_true rfl, (zw_21_ok _ (List.mem_of_getElem? (i := 3) rfl)), Or.inr (Or.inl ⟨rfl, rfl⟩)⟩
set_option maxRecDepth 100000 in
theorem zk_78 : zckL zXt ze_78 prog_14_method_21_code zp_78 0 0 zc_78 = true := by decide +kernel
theorem zM_78 : zMeth zT zXt zme zpcs 78 := ⟨zk_78, rfl, rfl, fun _ => (by rename_i h; exact Bool.noConfusion h), by decide +kernel, rfl, Nat.le_of_ble_eq_true rfl, (zw_18_ok _ (List.mem_of_getElem? (i := 12) rfl)), Or.inl ⟨rfl, rfl⟩⟩
set_option maxRecDepth 100000 in
theorem zk_79 : zckL zXt ze_79 prog_14_method_116_code zp_79 0 0 zc_79 = true := by decide +kernel
theorem zM_79 : zMeth zT zXt zme zpcs 79 := ⟨zk_79, rfl, rfl, fun _ => (by rename_i h; exact Bool.noConfusion h), by decide +kernel, rfl, Nat.le_of_ble_eq_true rfl, (zw_20_ok _ (List.mem_of_getElem? (i := 33) rfl)), Or.inr (Or.inl ⟨rfl, rfl⟩)⟩
set_option maxRecDepth 100000 in
theorem zk_80 : zckL zXt ze_80 prog_14_method_10_code zp_80 0 0 zc_80 = true := by decide +kernel
theorem zM_80 : zMeth zT zXt zme zpcs 80 := ⟨zk_80, rfl, rfl, fun _ => (by rename_i h; exact Bool.noConfusion h), by decide +kernel, rfl, Nat.le_of_ble_eq_true rfl, (zw_17_ok _ (List.mem_of_getElem? (i := 39) rfl)), Or.inr (Or.inl ⟨rfl, rfl⟩)⟩
set_option maxRecDepth 100000 in
theorem zk_81 : zckL zXt ze_81 prog_14_method_12_code zp_81 0 0 zc_81 = true := by decide +kernel
theorem zM_81 : zMeth zT zXt zme zpcs 81 := ⟨zk_81, rfl, rfl, fun _ => (by rename_i h; exact Bool.noConfusion h), by decide +kernel, rfl, Nat.le_of_ble_eq_true rfl, (zw_18_ok _ (List.mem_of_getElem? (i := 1) rfl)), Or.inr (Or.inl ⟨rfl, rfl⟩)⟩
set_option maxRecDepth 100000 in
theorem zk_82 : zckL zXt ze_82 prog_14_method_44_code zp_82 0 0 zc_82 = true := by decide +kernel
theorem zM_82 : zMeth zT zXt zme zpcs 82 := ⟨zk_82, rfl, rfl, fun _ => (by rename_i h; exact Bool.noConfusion h), by decide +kernel, rfl, Nat.le_of_ble_eq_true rfl, (zw_18_ok _ (List.mem_of_getElem? (i := 39) rfl)), Or.inr (Or.inl ⟨rfl, rfl⟩)⟩
set_option maxRecDepth 100000 in
theorem zk_83 : zckL zXt ze_83 prog_14_method_24_code zp_83 0 0 zc_83 = true := by decide +kernel
theorem zM_83 : zMeth zT zXt zme zpcs 83 := ⟨zk_83, rfl, rfl, fun _ => (by rename_i h; exact Bool.noConfusion h), by decide +kernel, rfl, Nat.le_of_ble_eq_true rfl, (zw_18_ok _ (List.mem_of_getElem? (i := 17) rfl)), Or.inr (Or.inr (Or.inr ⟨rfl, rfl⟩))⟩
