/-! Checks of the methods from 84 on. -/
set_option maxRecDepth 100000 in
theorem zk_84 : zckL zXt ze_84 prog_15_method_49_code zp_84 0 0 zc_84 = true := by decide +kernel
theorem zM_84 : zMeth zT zXt zme zpcs 84 := ⟨zk_84, rfl, rfl, fun _ => (by rename_i h; exact Bool.noConfusion h), by decide +kernel, rfl, Nat.le_of_ble_eq_true rfl, (zw_14_ok _ (List.mem_of_getElem? (i := 12) rfl)), Or.inr (Or.inl ⟨rfl, rfl⟩)⟩
set_option maxRecDepth 100000 in
theorem zk_85 : zckL zXt ze_85 prog_16_method_50_code zp_85 0 0 zc_85 = true := by decide +kernel
theorem zM_85 : zMeth zT zXt zme zpcs 85 := ⟨zk_85, rfl, rfl, fun _ => (by rename_i h; exact Bool.noConfusion h), by decide +kernel, rfl, Nat.le_of_ble_eq_true rfl, (zw_15_ok _ (List.mem_of_getElem? (i := 27) rfl)), Or.inr (Or.inl ⟨rfl, rfl⟩)⟩
set_option maxRecDepth 100000 in
theorem zk_86 : zckL zXt ze_86 prog_19_method_103_code zp_86 0 0 zc_86 = true := by decide +kernel
theorem zM_86 : zMeth zT zXt zme zpcs 86 := ⟨zk_86, rfl, rfl, fun _ => (by rename_i h; exact Bool.noConfusion h), by decide +kernel, rfl, Nat.le_of_ble_eq_true rfl, (zw_13_ok _ (List.mem_of_getElem? (i := 6) rfl)), Or.inl ⟨rfl, rfl⟩⟩
set_option maxRecDepth 100000 in
theorem zk_87 : zckL zXt ze_87 prog_19_method_101_code zp_87 0 0 zc_87 = true := by decide +kernel
theorem zM_87 : zMeth zT zXt zme zpcs 87 := ⟨zk_87, rfl, rfl, fun _ => (by rename_i h; exact Bool.noConfusion h), by decide +kernel, rfl, Nat.le_of_ble_eq_true rfl, (zw_14_ok _ (List.mem_of_getElem? (i := 2) rfl)), Or.inl ⟨rfl, rfl⟩⟩
set_option maxRecDepth 100000 in
theorem zk_88 : zckL zXt ze_88 prog_2_method_1_code zp_88 0 0 zc_88 = true := by decide +kernel
theorem zM_88 : zMeth zT zXt zme zpcs 88 := ⟨zk_88, rfl, rfl, fun _ => rfl, by decide +kernel, rfl, Nat.le_of_ble_eq_true rfl, (zw_13_ok _ (List.mem_of_getElem? (i := 4) rfl)), Or.inl ⟨rfl, rfl⟩⟩
set_option maxRecDepth 100000 in
theorem zk_89 : zckL zXt ze_89 prog_2_method_8_code zp_89 0 0 zc_89 = true := by decide +kernel
theorem zM_89 : zMeth zT zXt zme zpcs 89 := ⟨zk_89, rfl, rfl, fun _ => (by rename_i h; exact Bool.noConfusion h), by decide +kernel, rfl, Nat.le_of_ble_eq_true rfl, (zw_14_ok _ (List.mem_of_getElem? (i := 1) rfl)), Or.inl ⟨rfl, rfl⟩⟩
set_option maxRecDepth 100000 in
theorem zk_90 : zckL zXt ze_90 prog_2_method_13_code zp_90 0 0 zc_90 = true := by decide +kernel
theorem zM_90 : zMeth zT zXt zme zpcs 90 := ⟨zk_90, rfl, rfl, fun _ => (by rename_i h; exact Bool.noConfusion h), by decide +kernel, rfl, Nat.le_of_ble_eq_true rfl, (zw_15_ok _ (List.mem_of_getElem? (i := 26) rfl)), Or.inr (Or.inl ⟨rfl, rfl⟩)⟩
set_option maxRecDepth 100000 in
theorem zk_91 : zckL zXt ze_91 prog_2_method_2_code zp_91 0 0 zc_91 = true := by decide +kernel
theorem zM_91 : zMeth zT zXt zme zpcs 91 := ⟨zk_91, rfl, rfl, fun _ => (by rename_i h; exact Bool.noConfusion h), by decide +kernel, rfl, Nat.le_of_ble_eq_true rfl, (zw_17_ok _ (List.mem_of_getElem? (i := 29) rfl)), Or.inl ⟨rfl, rfl⟩⟩
set_option maxRecDepth 100000 in
theorem zk_92 : zckL zXt ze_92 prog_2_method_16_code zp_92 0 0 zc_92 = true := by decide +kernel
theorem zM_92 : zMeth zT zXt zme zpcs 92 := ⟨zk_92, rfl, rfl, fun _ => (by rename_i h; exact Bool.noConfusion h), by decide +kernel, rfl, Nat.le_of_ble_eq_true rfl, (zw_17_ok _ (List.mem_of_getElem? (i := 17) rfl)), Or.inr (Or.inl ⟨rfl, rfl⟩)⟩
set_option maxRecDepth 100000 in
theorem zk_93 : zckL zXt ze_93 prog_2_method_7_code zp_93 0 0 zc_93 = true := by decide +kernel
theorem zM_93 : zMeth zT zXt zme zpcs 93 := ⟨zk_93, rfl, rfl, fun _ => (by rename_i h; exact Bool.noConfusion h), by decide +kernel, rfl, Nat.le_of_ble_eq_true rfl, (zw_15_ok _ (List.mem_of_getElem? (i := 0) rfl)), Or.inr (Or.inl ⟨rfl, rfl⟩)⟩
set_option maxRecDepth 100000 in
theorem zk_94 : zckL zXt ze_94 prog_3_method_1_code zp_94 0 0 zc_94 = true := by decide +kernel
theorem zM_94 : zMeth zT zXt zme zpcs 94 := ⟨zk_94, rfl, rfl, fun _ => rfl, by decide +kernel, rfl, Nat.le_of_ble_eq_true rfl, (zw_13_ok _ (List.mem_of_getElem? (i := 10) rfl)), Or.inl ⟨rfl, rfl⟩⟩
set_option maxRecDepth 100000 in
theorem zk_95 : zckL zXt ze_95 prog_3_method_16_code zp_95 0 0 zc_95 = true := by decide +kernel
theorem zM_95 : zMeth zT zXt zme zpcs 95 := ⟨zk_95, rfl, rfl, fun _ => (by rename_i h; exact Bool.noConfusion h), by decide +kernel, rfl, Nat.le_of_ble_eq_true rfl, (zw_16_ok _ (List.mem_of_getElem? (i := 25) rfl)), Or.inr (Or.inl ⟨rfl, rfl⟩)⟩
set_option maxRecDepth 100000 in
theorem zk_96 : zckL zXt ze_96 prog_3_method_9_code zp_96 0 0 zc_96 = true := by decide +kernel
theorem zM_96 : zMeth zT zXt zme zpcs 96 := ⟨zk_96, rfl, rfl, fun _ => (by rename_i h; exact Bool.noConfusion h), by decide +kernel, rfl, Nat.le_of_ble_eq_true rfl, (zw_16_ok _ (List.mem_of_getElem? (i := 11) rfl)), Or.inr (Or.inr (Or.inr ⟨rfl, rfl⟩))⟩
set_option maxRecDepth 100000 in
theorem zk_97 : zckL zXt ze_97 prog_3_method_10_code zp_97 0 0 zc_97 = true := by decide +kernel
theorem zM_97 : zMeth zT zXt zme zpcs 97 := ⟨zk_97, rfl, rfl, fun _ => (by rename_i h; exact Bool.noConfusion h), by decide +kernel, rfl, Nat.le_of_ble_eq_true rfl, (zw_16_ok _ (List.mem_of_getElem? (i := 12) rfl)), Or.inr (Or.inr (Or.inr ⟨rfl, rfl⟩))⟩
set_option maxRecDepth 100000 in
theorem zk_98 : zckL zXt ze_98 prog_3_method_13_code zp_98 0 0 zc_98 = true := by decide +kernel
theorem zM_98 : zMeth zT zXt zme zpcs 98 := ⟨zk_98, rfl, rfl, fun _ => (by rename_i h; exact Bool.noConfusion h), by decide +kernel, rfl, Nat.le_of_ble_eq_true rfl, (zw_16_ok _ (List.mem_of_getElem? (i := 18) rfl)), Or.inr (Or.inl ⟨rfl, rfl⟩)⟩
set_option maxRecDepth 100000 in
theorem zk_99 : zckL zXt ze_99 prog_3_method_14_code zp_99 0 0 zc_99 = true := by decide +kernel
theorem zM_99 : zMeth zT zXt zme zpcs 99 := ⟨zk_99, rfl, rfl, fun _ => (by rename_i h; exact Bool.noConfusion h), by decide +kernel, rfl, Nat.le_of_ble_eq_true rfl, (zw_17_ok _ (List.mem_of_getElem? (i := 20) rfl)), Or.inr (Or.inl ⟨rfl, rfl⟩)⟩
set_option maxRecDepth 100000 in
theorem zk_100 : zckL zXt ze_100 prog_4_method_1_code zp_100 0 0 zc_100 = true := by decide +kernel
theorem zM_100 : zMeth zT zXt zme zpcs 100 := ⟨zk_100, rfl, rfl, fun _ => rfl, by decide +kernel, rfl, Nat.le_of_ble_eq_true rfl, (zw_13_ok _ (List.mem_of_getElem? (i := 7) rfl)), Or.inl ⟨rfl, rfl⟩⟩
set_option maxRecDepth 100000 in
theorem zk_101 : zckL zXt ze_101 prog_4_method_7_code zp_101 0 0 zc_101 = true := by decide +kernel
theorem zM_101 : zMeth zT zXt zme zpcs 101 := ⟨zk_101, rfl, rfl, fun _ => (by rename_i h; exact Bool.noConfusion h), by decide +kernel, rfl, Nat.le_of_ble_eq_true rfl, (zw_14_ok _ (List.mem_of_getElem? (i := 31) rfl)), Or.inr (Or.inl ⟨rfl, rfl⟩)⟩
set_option maxRecDepth 100000 in
theorem zk_102 : zckL zXt ze_102 prog_5_method_1_code zp_102 0 0 zc_102 = true := by decide +kernel
theorem zM_102 : zMeth zT zXt zme zpcs 102 := ⟨zk_102, rfl, rfl, fun _ => rfl, by decide +kernel, rfl, Nat.le_of_ble_eq_true rfl, (zw_13_ok _ (List.mem_of_getElem? (i := 9) rfl)), Or.inl ⟨rfl, rfl⟩⟩
set_option maxRecDepth 100000 in
theorem zk_103 : zckL zXt ze_103 prog_5_method_5_code zp_103 0 0 zc_103 = true := by decide +kernel
theorem zM_103 : zMeth zT zXt zme zpcs 103 := ⟨zk_103, rfl, rfl, fun _ => (by rename_i h; exact Bool.noConfusion h), by decide +kernel, rfl, Nat.le_of_ble_eq_true rfl, (zw_14_ok _ (List.mem_of_getElem? (i := 15) rfl)), Or.inl ⟨rfl, rfl⟩⟩
set_option maxRecDepth 100000 in
theorem zk_104 : zckL zXt ze_104 prog_6_method_1_code zp_104 0 0 zc_104 = true := by decide +kernel
theorem zM_104 : zMeth zT zXt zme zpcs 104 := ⟨zk_104, rfl, rfl, fun _ => rfl, by decide +kernel, rfl, Nat.le_of_ble_eq_true rfl, (zw_13_ok _ (List.mem_of_getElem? (i := 12) rfl)), Or.inl ⟨rfl, rfl⟩⟩
set_option maxRecDepth 100000 in
theorem zk_105 : zckL zXt ze_105 prog_6_method_10_code zp_105 0 0 zc_105 = true := by decide +kernel
theorem zM_105 : zMeth zT zXt zme zpcs 105 := ⟨zk_105, rfl, rfl, fun _ => (by rename_i h; exact Bool.noConfusion h), by decide +kernel, rfl, Nat.le_of_ble_eq_true rfl, (zw_17_ok _ (List.mem_of_getElem? (i := 4) rfl)), Or.inr (Or.inl ⟨rfl, rfl⟩)⟩
set_option maxRecDepth 100000 in
theorem zk_106 : zckL zXt ze_106 prog_6_method_5_code zp_106 0 0 zc_106 = true := by decide +kernel
theorem zM_106 : zMeth zT zXt zme zpcs 106 := ⟨zk_106, rfl, rfl, fun _ => (by rename_i h; exact Bool.noConfusion h), by decide +kernel, rfl, Nat.le_of_ble_eq_true rfl, (zw_16_ok _ (List.mem_of_getElem? (i := 38) rfl)), Or.inl ⟨rfl, rfl⟩⟩
set_option maxRecDepth 100000 in
theorem zk_107 : zckL zXt ze_107 prog_6_method_4_code zp_107 0 0 zc_107 = true := by decide +kernel
theorem zM_107 : zMeth zT zXt zme zpcs 107 := ⟨zk_107, rfl, rfl, fun _ => (by rename_i h; exact Bool.noConfusion h), by decide +kernel, rfl, Nat.le_of_ble_eq_true rfl, (zw_16_ok _ (List.mem_of_getElem? (i := 37) rfl)), Or.inr (Or.inr (Or.inl ⟨rfl, rfl⟩))⟩
set_option maxRecDepth 100000 in
theorem zk_108 : zckL zXt ze_108 prog_6_method_8_code zp_108 0 0 zc_108 = true := by decide +kernel
theorem zM_108 : zMeth zT zXt zme zpcs 108 := ⟨zk_108, rfl, rfl, fun _ => (by rename_i h; exact Bool.noConfusion h), by decide +kernel, rfl, Nat.le_of_ble_eq_true rfl, (zw_17_ok _ (List.mem_of_getElem? (i := 2) rfl)), Or.inr (Or.inl ⟨rfl, rfl⟩)⟩
set_option maxRecDepth 100000 in
theorem zk_109 : zckL zXt ze_109 prog_7_method_1_code zp_109 0 0 zc_109 = true := by decide +kernel
theorem zM_109 : zMeth zT zXt zme zpcs 109 := ⟨zk_109, rfl, rfl, fun _ => rfl, by decide +kernel, rfl, Nat.le_of_ble_eq_true rfl, (zw_13_ok _ (List.mem_of_getElem? (i := 13) rfl)), Or.inl ⟨rfl, rfl⟩⟩
set_option maxRecDepth 100000 in
theorem zk_110 : zckL zXt ze_110 prog_8_method_9_code zp_110 0 0 zc_110 = true := by decide +kernel
theorem zM_110 : zMeth zT zXt zme zpcs 110 := ⟨zk_110, rfl, rfl, fun _ => (by rename_i h; exact Bool.noConfusion h), by decide +kernel, rfl, Nat.le_of_ble_eq_true rfl, (zw_15_ok _ (List.mem_of_getElem? (i := 13) rfl)), Or.inl ⟨rfl, rfl⟩⟩
set_option maxRecDepth 100000 in
theorem zk_111 : zckL zXt ze_111 prog_9_method_1_code zp_111 0 0 zc_111 = true := by decide +kernel
theorem zM_111 : zMeth zT zXt zme zpcs 111 := ⟨zk_111, rfl, rfl, fun _ => rfl, by decide +kernel, rfl, Nat.le_of_ble_eq_true rfl, (zw_13_ok _ (List.mem_of_getElem? (i := 5) rfl)), Or.inl ⟨rfl, rfl⟩⟩
set_option maxRecDepth 100000 in
theorem zk_112 : zckL zXt ze_112 prog_9_method_6_code zp_112 0 0 zc_112 = true := by decide +kernel
theorem zM_112 : zMeth zT zXt zme zpcs 112 := ⟨zk_112, rfl, rfl, fun _ => (by rename_i h; exact Bool.noConfusion h), by decide +kernel, rfl, Nat.le_of_ble_eq_true rfl, (zw_13_ok _ (List.mem_of_getElem? (i := 36) rfl)), Or.inr (Or.inr (Or.inl ⟨rfl, rfl⟩))⟩
set_option maxRecDepth 100000 in
theorem zk_113 : zckL zXt ze_113 prog_9_method_8_code zp_113 0 0 zc_113 = true := by decide +kernel
theorem zM_113 : zMeth zT zXt zme zpcs 113 := ⟨zk_113, rfl, rfl, fun _ => (by rename_i h; exact Bool.noConfusion h), by decide +kernel, rfl, Nat.le_of_ble_eq_true rfl, (zw_14_ok _ (List.mem_of_getElem? (i := 24) rfl)), Or.inl ⟨rfl, rfl⟩⟩
set_option maxRecDepth 100000 in
theorem zk_114 : zckL zXt ze_114 prog_10_method_1_code zp_114 0 0 zc_114 = true := by decide +kernel
theorem zM_114 : zMeth zT zXt zme zpcs 114 := ⟨zk_114, rfl, rfl, fun _ => rfl, by decide +kernel, rfl, Nat.le_of_ble_eq_true rfl, (zw_13_ok _ (List.mem_of_getElem? (i := 11) rfl)), Or.inl ⟨rfl, rfl⟩⟩
set_option maxRecDepth 100000 in
theorem zk_115 : zckL zXt ze_115 prog_11_method_9_code zp_115 0 0 zc_115 = true := by decide +kernel
theorem zM_115 : zMeth zT zXt zme zpcs 115 := ⟨zk_115, rfl, rfl, fun _ => (by rename_i h; exact Bool.noConfusion h), by decide +kernel, rfl, Nat.le_of_ble_eq_true rfl, (zw_15_ok _ (List.mem_of_getElem? (i := 30) rfl)), Or.inr (Or.inl ⟨rfl, rfl⟩)⟩
set_option maxRecDepth 100000 in
theorem zk_116 : zckL zXt ze_116 prog_11_method_16_code zp_116 0 0 zc_116 = true := by decide +kernel
theorem zM_116 : zMeth zT zXt zme zpcs 116 := ⟨zk_116, rfl, rfl, fun _ => (by rename_i h; exact Bool.noConfusion h), by decide +kernel, rfl, Nat.le_of_ble_eq_true rfl, (zw_15_ok _ (List.mem_of_getElem? (i := 10) rfl)), Or.inr (Or.inl ⟨rfl, rfl⟩)⟩
set_option maxRecDepth 100000 in
theorem zk_117 : zckL zXt ze_117 prog_11_method_11_code zp_117 0 0 zc_117 = true := by decide +kernel
theorem zM_117 : zMeth zT zXt zme zpcs 117 := ⟨zk_117, rfl, rfl, fun _ => (by rename_i h; exact Bool.noConfusion h), by decide +kernel, rfl, Nat.le_of_ble_eq_true rfl, (zw_15_ok _ (List.mem_of_getElem? (i := 29) rfl)), Or.inr (Or.inl ⟨rfl, rfl⟩)⟩
set_option maxRecDepth 100000 in
theorem zk_118 : zckL zXt ze_118 prog_11_method_13_code zp_118 0 0 zc_118 = true := by decide +kernel
theorem zM_118 : zMeth zT zXt zme zpcs 118 := ⟨zk_118, rfl, rfl, fun _ => (by rename_i h; exact Bool.noConfusion h), by decide +kernel, rfl, Nat.le_of_ble_eq_true rfl, (zw_15_ok _ (List.mem_of_getElem? (i := 8) rfl)), Or.inr (Or.inl ⟨rfl, rfl⟩)⟩
set_option maxRecDepth 100000 in
theorem zk_119 : zckL zXt ze_119 prog_11_method_3_code zp_119 0 0 zc_119 = true := by decide +kernel
theorem zM_119 : zMeth zT zXt zme zpcs 119 := ⟨zk_119, rfl, rfl, fun _ => (by rename_i h; exact Bool.noConfusion h), by decide +kernel, rfl, Nat.le_of_ble_eq_true rfl, (zw_15_ok _ (List.mem_of_getElem? (i := 3) rfl)), Or.inl ⟨rfl, rfl⟩⟩
set_option maxRecDepth 100000 in
theorem zk_120 : zckL zXt ze_120 prog_12_method_1_code zp_120 0 0 zc_120 = true := by decide +kernel
theorem zM_120 : zMeth zT zXt zme zpcs 120 := ⟨zk_120, rfl, rfl, fun _ => rfl, by decide +kernel, rfl, Nat.le_of_ble_eq_true rfl, (zw_13_ok _ (List.mem_of_getElem? (i := 2) rfl)), Or.inl ⟨rfl, rfl⟩⟩
set_option maxRecDepth 100000 in
theorem zk_121 : zckL zXt ze_121 prog_12_method_18_code zp_121 0 0 zc_121 = true := by decide +kernel
theorem zM_121 : zMeth zT zXt zme zpcs 121 := ⟨zk_121, rfl, rfl, fun _ => (by rename_i h; exact Bool.noConfusion h), by decide +kernel, rfl, Nat.le_of_ble_eq_true rfl, (zw_13_ok _ (List.mem_of_getElem? (i := 24) rfl)), Or.inr (Or.inr (Or.inr ⟨rfl, rfl⟩))⟩
set_option maxRecDepth 100000 in
theorem zk_122 : zckL zXt ze_122 prog_12_method_16_code zp_122 0 0 zc_122 = true := by decide +kernel
theorem zM_122 : zMeth zT zXt zme zpcs 122 := ⟨zk_122, rfl, rfl, fun _ => (by rename_i h; exact Bool.noConfusion h), by decide +kernel, rfl, Nat.le_of_ble_eq_true rfl, (zw_13_ok _ (List.mem_of_getElem? (i := 30) rfl)), Or.inr (Or.inr (Or.inr ⟨rfl, rfl⟩))⟩
set_option maxRecDepth 100000 in
theorem zk_123 : zckL zXt ze_123 prog_1_method_21_code zp_123 0 0 zc_123 = true := by decide +kernel
theorem zM_123 : zMeth zT zXt zme zpcs 123 := ⟨zk_123, rfl, rfl, fun _ => (by rename_i h; exact Bool.noConfusion h), by decide +kernel, rfl, Nat.le_of_ble_eq_true rfl, (zw_15_ok _ (List.mem_of_getElem? (i := 36) rfl)), Or.inr (Or.inl ⟨rfl, rfl⟩)⟩
set_option maxRecDepth 100000 in
theorem zk_124 : zckL zXt ze_124 prog_1_method_2_code zp_124 0 0 zc_124 = true := by decide +kernel
theorem zM_124 : zMeth zT zXt zme zpcs 124 := ⟨zk_124, rfl, rfl, fun _ => (by rename_i h; exact Bool.noConfusion h), by decide +kernel, rfl, Nat.le_of_ble_eq_true rfl, (zw_13_ok _ (List.mem_of_getElem? (i := 14) rfl)), Or.inr (Or.inl ⟨rfl, rfl⟩)⟩
set_option maxRecDepth 100000 in
theorem zk_125 : zckL zXt ze_125 prog_1_method_50_code zp_125 0 0 zc_125 = true := by decide +kernel
theorem zM_125 : zMeth zT zXt zme zpcs 125 := ⟨zk_125, rfl, rfl, fun _ => (by rename_i h; exact Bool.noConfusion h), by decide +kernel, rfl, Nat.le_of_ble_eq_true rfl, (zw_16_ok _ (List.mem_of_getElem? (i := 1) rfl)), Or.inr (Or.inr (Or.inr ⟨rfl, rfl⟩))⟩
set_option maxRecDepth 100000 in
theorem zk_126 : zckL zXt ze_126 prog_1_method_48_code zp_126 0 0 zc_126 = true := by decide +kernel
theorem zM_126 : zMeth zT zXt zme zpcs 126 := ⟨zk_126, rfl, rfl, fun _ => (by rename_i h; exact Bool.noConfusion h), by decide +kernel, rfl, Nat.le_of_ble_eq_true rfl, (zw_15_ok _ (List.mem_of_getElem? (i := 21) rfl)), Or.inr (Or.inr (Or.inr ⟨rfl, rfl⟩))⟩
set_option maxRecDepth 100000 in
theorem zk_127 : zckL zXt ze_127 prog_1_method_53_code zp_127 0 0 zc_127 = true := by decide +kernel
theorem zM_127 : zMeth zT zXt zme zpcs 127 := ⟨zk_127, rfl, rfl, fun _ => (by rename_i h; exact Bool.noConfusion h), by decide +kernel, rfl, Nat.le_of_ble_eq_true rfl, (zw_14_ok _ (List.mem_of_getElem? (i := 9) rfl)), Or.inr (Or.inl ⟨rfl, rfl⟩)⟩
set_option maxRecDepth 100000 in
theorem zk_128 : zckL zXt ze_128 prog_1_method_13_code zp_128 0 0 zc_128 = true := by decide +kernel
theorem zM_128 : zMeth zT zXt zme zpcs 128 := ⟨zk_128, rfl, rfl, fun _ => (by rename_i h; exact Bool.noConfusion h), by decide +kernel, rfl, Nat.le_of_ble_eq_true rfl, (zw_15_ok _ (List.mem_of_getElem? (i := 19) rfl)), Or.inr (Or.inl ⟨rfl, rfl⟩)⟩
set_option maxRecDepth 100000 in
theorem zk_129 : zckL zXt ze_129 prog_1_method_55_code zp_129 0 0 zc_129 = true := by decide +kernel
theorem zM_129 : zMeth zT zXt zme zpcs 129 := ⟨zk_129, rfl, rfl, fun _ => (by rename_i h; exact Bool.noConfusion h), by decide +kernel, rfl, Nat.le_of_ble_eq_true rfl, (zw_14_ok _ (List.mem_of_getElem? (i := 11) rfl)), Or.inr (Or.inl ⟨rfl, rfl⟩)⟩
set_option maxRecDepth 100000 in
theorem zk_130 : zckL zXt ze_130 prog_1_method_16_code zp_130 0 0 zc_130 = true := by decide +kernel
theorem zM_130 : zMeth zT zXt zme zpcs 130 := ⟨zk_130, rfl, rfl, fun _ => (by rename_i h; exact Bool.noConfusion h), by decide +kernel, rfl, Nat.le_of_ble_eq_true rfl, (zw_15_ok _ (List.mem_of_getElem? (i := 23) rfl)), Or.inr (Or.inl ⟨rfl, rfl⟩)⟩
set_option maxRecDepth 100000 in
theorem zk_131 : zckL zXt ze_131 prog_14_method_94_code zp_131 0 0 zc_131 = true := by decide +kernel
theorem zM_131 : zMeth zT zXt zme zpcs 131 := ⟨zk_131, rfl, rfl, fun _ => (by rename_i h; exact Bool.noConfusion h), by decide +kernel, rfl, Nat.le_of_ble_eq_true rfl, (zw_20_ok _ (List.mem_of_getElem? (i := 9) rfl)), Or.inl ⟨rfl, rfl⟩⟩
set_option maxRecDepth 100000 in
theorem zk_132 : zckL zXt ze_132 prog_14_method_85_code zp_132 0 0 zc_132 = true := by decide +kernel
theorem zM_132 : zMeth zT zXt zme zpcs 132 := ⟨zk_132, rfl, rfl, fun _ => (by rename_i h; exact Bool.noConfusion h), by decide +kernel, rfl, Nat.le_of_ble_eq_true rfl, (zw_20_ok _ (List.mem_of_getElem? (i := 2) rfl)), Or.inr (Or.inl ⟨rfl, rfl⟩)⟩
set_option maxRecDepth 100000 in
theorem zk_133 : zckL zXt ze_133 prog_14_method_103_code zp_133 0 0 zc_133 = true := by decide +kernel
theorem zM_133 : zMeth zT zXt zme zpcs 133 := ⟨zk_133, rfl, rfl, fun _ => (by rename_i h; exact Bool.noConfusion h), by decide +kernel, rfl, Nat.le_of_ble_eq_true rfl, (zw_20_ok _ (List.mem_of_getElem? (i := 18) rfl)), Or.inr (Or.inl ⟨rfl, rfl⟩)⟩
set_option maxRecDepth 100000 in
theorem zk_134 : zckL zXt ze_134 prog_14_method_118_code zp_134 0 0 zc_134 = true := by decide +kernel
theorem zM_134 : zMeth zT zXt zme zpcs 134 := ⟨zk_134, rfl, rfl, fun _ => (by rename_i h; exact Bool.noConfusion h), by decide +kernel, rfl, Nat.le_of_ble_eq_true rfl, (zw_20_ok _ (List.mem_of_getElem? (i := 32) rfl)), Or.inr (Or.inl ⟨rfl, rfl⟩)⟩
set_option maxRecDepth 100000 in
theorem zk_135 : zckL zXt ze_135 prog_14_method_104_code zp_135 0 0 zc_135 = true := by decide +kernel
theorem zM_135 : zMeth zT zXt zme zpcs 135 := ⟨zk_135, rfl, rfl, fun _ => (by rename_i h; exact Bool.noConfusion h), by decide +kernel, rfl, Nat.le_of_ble_eq_true rfl, (zw_20_ok _ (List.mem_of_getElem? (i := 19) rfl)), Or.inr (Or.inl ⟨rfl, rfl⟩)⟩
set_option maxRecDepth 100000 in
theorem zk_136 : zckL zXt ze_136 prog_14_method_22_code zp_136 0 0 zc_136 = true := by decide +kernel
theorem zM_136 : zMeth zT zXt zme zpcs 136 := ⟨zk_136, rfl, rfl, fun _ => (by rename_i h; exact Bool.noConfusion h), by decide +kernel, rfl, Nat.le_of_ble_eq_true rfl, (zw_18_ok _ (List.mem_of_getElem? (i := 11) rfl)), Or.inr (Or.inl ⟨rfl, rfl⟩)⟩
set_option maxRecDepth 100000 in
theorem zk_137 : zckL zXt ze_137 prog_14_method_81_code zp_137 0 0 zc_137 = true := by decide +kernel
theorem zM_137 : zMeth zT zXt zme zpcs 137 := ⟨zk_137, rfl, rfl, fun _ => (by rename_i h; exact Bool.noConfusion h), by decide +kernel, rfl, Nat.le_of_ble_eq_true rfl, (zw_19_ok _ (List.mem_of_getElem? (i := 33) rfl)), Or.inr (Or.inr (Or.inl ⟨rfl, rfl⟩))⟩
set_option maxRecDepth 100000 in
theorem zk_138 : zckL zXt ze_138 prog_14_method_106_code zp_138 0 0 zc_138 = true := by decide +kernel
theorem zM_138 : zMeth zT zXt zme zpcs 138 := ⟨zk_138, rfl, rfl, fun _ => (by rename_i h; exact Bool.noConfusion h), by decide +kernel, rfl, Nat.le_of_ble_eq_true rfl, (zw_20_ok _ (List.mem_of_getElem? (i := 21) rfl)), Or.inr (Or.inl ⟨rfl, rfl⟩)⟩
set_option maxRecDepth 100000 in
theorem zk_139 : zckL zXt ze_139 prog_14_method_92_code zp_139 0 0 zc_139 = true := by decide +kernel
theorem zM_139 : zMeth zT zXt zme zpcs 139 := ⟨zk_139, rfl, rfl, fun _ => (by rename_i h; exact Bool.noConfusion h), by decide +kernel, rfl, Nat.le_of_ble_eq_true rfl, (zw_20_ok _ (List.mem_of_getElem? (i := 8) rfl)), Or.inr (Or.inr (Or.inr ⟨rfl, rfl⟩))⟩
set_option maxRecDepth 100000 in
theorem zk_140 : zckL zXt ze_140 prog_14_method_101_code zp_140 0 0 zc_140 = true := by decide +kernel
theorem zM_140 : zMeth zT zXt zme zpcs 140 := ⟨zk_140, rfl, rfl, fun _ => (by rename_i h; exact Bool.noConfusion h), by decide +kernel, rfl, Nat.le_of_ble_eq_true rfl, (zw_20_ok _ (List.mem_of_getElem? (i := 16) rfl)), Or.inr (Or.inr (Or.inr ⟨rfl, rfl⟩))⟩
set_option maxRecDepth 100000 in
theorem zk_141 : zckL zXt ze_141 prog_14_method_87_code zp_141 0 0 zc_141 = true := by decide +kernel
theorem zM_141 : zMeth zT zXt zme zpcs 141 := ⟨zk_141, rfl, rfl, fun _ => (by rename_i h; exact Bool.noConfusion h), by decide +kernel, rfl, Nat.le_of_ble_eq_true rfl, (zw_20_ok _ (List.mem_of_getElem? (i := 3) rfl)), Or.inr (Or.inr (Or.inr ⟨rfl, rfl⟩))⟩
set_option maxRecDepth 100000 in
theorem zk_142 : zckL zXt ze_142 prog_14_method_27_code zp_142 0 0 zc_142 = true := by decide +kernel
theorem zM_142 : zMeth zT zXt zme zpcs 142 := ⟨zk_142, rfl, rfl, fun _ => (by rename_i h; exact Bool.noConfusion h), by decide +kernel, rfl, Nat.le_of_ble_eq_true rfl, (zw_18_ok _ (List.mem_of_getElem? (i := 23) rfl)), Or.inr (Or.inr (Or.inr ⟨rfl, rfl⟩))⟩
set_option maxRecDepth 100000 in
theorem zk_143 : zckL zXt ze_143 prog_14_method_20_code zp_143 0 0 zc_143 = true := by decide +kernel
theorem zM_143 : zMeth zT zXt zme zpcs 143 := ⟨zk_143, rfl, rfl, fun _ => (by rename_i h; exact Bool.noConfusion h), by decide +kernel, rfl, Nat.le_of_ble_eq_true rfl, (zw_19_ok _ (List.mem_of_getElem? (i := 37) rfl)), Or.inr (Or.inr (Or.inr ⟨rfl, rfl⟩))⟩
set_option maxRecDepth 100000 in
theorem zk_144 : zckL zXt ze_144 prog_14_method_73_code zp_144 0 0 zc_144 = true := by decide +kernel
theorem zM_144 : zMeth zT zXt zme zpcs 144 := ⟨zk_144, rfl, rfl, fun _ => (by rename_i h; exact Bool.noConfusion h), by decide +kernel, rfl, Nat.le_of_ble_eq_true rfl, (zw_19_ok _ (List.mem_of_getElem? (i := 25) rfl)), Or.inr (Or.inr (Or.inr ⟨rfl, rfl⟩))⟩
set_option maxRecDepth 100000 in
theorem zk_145 : zckL zXt ze_145 prog_14_method_17_code zp_145 0 0 zc_145 = true := by decide +kernel
theorem zM_145 : zMeth zT zXt zme zpcs 145 := ⟨zk_145, rfl, rfl, fun _ => (by rename_i h; exact Bool.noConfusion h), by decide +kernel, rfl, Nat.le_of_ble_eq_true rfl, (zw_19_ok _ (List.mem_of_getElem? (i := 31) rfl)), Or.inr (Or.inr (Or.inr ⟨rfl, rfl⟩))⟩
set_option maxRecDepth 100000 in
theorem zk_146 : zckL zXt ze_146 prog_14_method_53_code zp_146 0 0 zc_146 = true := by decide +kernel
theorem zM_146 : zMeth zT zXt zme zpcs 146 := ⟨zk_146, rfl, rfl, fun _ => (by rename_i h; exact Bool.noConfusion h), by decide +kernel, rfl, Nat.le_of_ble_eq_true rfl, (zw_18_ok _ (List.mem_of_getElem? (i := 3) rfl)), Or.inr (Or.inr (Or.inr ⟨rfl, rfl⟩))⟩
set_option maxRecDepth 100000 in
theorem zk_147 : zckL zXt ze_147 prog_14_method_18_code zp_147 0 0 zc_147 = true := by decide +kernel
theorem zM_147 : zMeth zT zXt zme zpcs 147 := ⟨zk_147, rfl, rfl, fun _ => (by rename_i h; exact Bool.noConfusion h), by decide +kernel, rfl, Nat.le_of_ble_eq_true rfl, (zw_19_ok _ (List.mem_of_getElem? (i := 5) rfl)), Or.inr (Or.inr (Or.inr ⟨rfl, rfl⟩))⟩
set_option maxRecDepth 100000 in
theorem zk_148 : zckL zXt ze_148 prog_14_method_48_code zp_148 0 0 zc_148 = true := by decide +kernel
theorem zM_148 : zMeth zT zXt zme zpcs 148 := ⟨zk_148, rfl, rfl, fun _ => (by rename_i h; exact Bool.noConfusion h), by decide +kernel, rfl, Nat.le_of_ble_eq_true rfl, (zw_19_ok _ (List.mem_of_getElem? (i := 3) rfl)), Or.inr (Or.inr (Or.inr ⟨rfl, rfl⟩))⟩
set_option maxRecDepth 100000 in
theorem zk_149 : zckL zXt ze_149 prog_14_method_19_code zp_149 0 0 zc_149 = true := by decide +kernel
theorem zM_149 : zMeth zT zXt zme zpcs 149 := ⟨zk_149, rfl, rfl, fun _ => (by rename_i h; exact Bool.noConfusion h), by decide +kernel, rfl, Nat.le_of_ble_eq_true rfl, (zw_19_ok _ (List.mem_of_getElem? (i := 17) rfl)), Or.inr (Or.inr (Or.inr ⟨rfl, rfl⟩))⟩
set_option maxRecDepth 100000 in
theorem zk_150 : zckL zXt ze_150 prog_14_method_138_code zp_150 0 0 zc_150 = true := by decide +kernel
theorem zM_150 : zMeth zT zXt zme zpcs 150 := ⟨zk_150, rfl, rfl, fun _ => (by rename_i h; exact Bool.noConfusion h), by decide +kernel, rfl, Nat.le_of_ble_eq_true rfl, (zw_21_ok _ (List.mem_of_getElem? (i := 13) rfl)), Or.inr (Or.inl ⟨rfl, rfl⟩)⟩
set_option maxRecDepth 100000 in
theorem zk_151 : zckL zXt ze_151 prog_14_method_68_code zp_151 0 0 zc_151 = true := by decide +kernel
theorem zM_151 : zMeth zT zXt zme zpcs 151 := ⟨zk_151, rfl, rfl, fun _ => (by rename_i h; exact Bool.noConfusion h), by decide +kernel, rfl, Nat.le_of_ble_eq_true rfl, (zw_19_ok _ (List.mem_of_getElem? (i := 18) rfl)), Or.inr (Or.inl ⟨rfl, rfl⟩)⟩
set_option maxRecDepth 100000 in
theorem zk_152 : zckL zXt ze_152 prog_14_method_51_code zp_152 0 0 zc_152 = true := by decide +kernel
theorem zM_152 : zMeth zT zXt zme zpcs 152 := ⟨zk_152, rfl, rfl, fun _ => (by rename_i h; exact Bool.noConfusion h), by decide +kernel, rfl, Nat.le_of_ble_eq_true rfl, (zw_18_ok _ (List.mem_of_getElem? (i := 6) rfl)), Or.inr (Or.inl ⟨rfl, rfl⟩)⟩
set_option maxRecDepth 100000 in
theorem zk_153 : zckL zXt ze_153 prog_14_method_140_code zp_153 0 0 zc_153 = true := by decide +kernel
theorem zM_153 : zMeth zT zXt zme zpcs 153 := ⟨zk_153, rfl, rfl, fun _ => (by rename_i h; exact Bool.noConfusion h), by decide +kernel, rfl, Nat.le_of_ble_eq_true rfl, (zw_21_ok _ (List.mem_of_getElem? (i := 16) rfl)), Or.inr (Or.inl ⟨rfl, rfl⟩)⟩
set_option maxRecDepth 100000 in
theorem zk_154 : zckL zXt ze_154 prog_14_method_96_code zp_154 0 0 zc_154 = true := by decide +kernel
theorem zM_154 : zMeth zT zXt zme zpcs 154 := ⟨zk_154, rfl, rfl, fun _ => (by rename_i h; exact Bool.noConfusion h), by decide +kernel, rfl, Nat.le_of_ble_eq_true rfl, (zw_20_ok _ (List.mem_of_getElem? (i := 12) rfl)), Or.inr (Or.inl ⟨rfl, rfl⟩)⟩
set_option maxRecDepth 100000 in
theorem zk_155 : zckL zXt ze_155 prog_14_method_117_code zp_155 0 0 zc_155 = true := by decide +kernel
theorem zM_155 : zMeth zT zXt zme zpcs 155 := ⟨zk_155, rfl, rfl, fun _ => (by rename_i h; exact Bool.noConfusion h), by decide +kernel, rfl, Nat.le_of_ble_eq_true rfl, (zw_20_ok _ (List.mem_of_getElem? (i := 34) rfl)), Or.inr (Or.inl ⟨rfl, rfl⟩)⟩
set_option maxRecDepth 100000 in
theorem zk_156 : zckL zXt ze_156 prog_14_method_56_code zp_156 0 0 zc_156 = true := by decide +kernel
theorem zM_156 : zMeth zT zXt zme zpcs 156 := ⟨zk_156, rfl, rfl, fun _ => (by rename_i h; exact Bool.noConfusion h), by decide +kernel, rfl, Nat.le_of_ble_eq_true rfl, (zw_19_ok _ (List.mem_of_getElem? (i := 10) rfl)), Or.inr (Or.inl ⟨rfl, rfl⟩)⟩
set_option maxRecDepth 100000 in
theorem zk_157 : zckL zXt ze_157 prog_14_method_40_code zp_157 0 0 zc_157 = true := by decide +kernel
theorem zM_157 : zMeth zT zXt zme zpcs 157 := ⟨zk_157, rfl, rfl, fun _ => (by rename_i h; exact Bool.noConfusion h), by decide +kernel, rfl, Nat.le_of_ble_eq_true rfl, (zw_18_ok _ (List.mem_of_getElem? (i := 34) rfl)), Or.inr (Or.inl ⟨rfl, rfl⟩)⟩
set_option maxRecDepth 100000 in
theorem zk_158 : zckL zXt ze_158 prog_14_method_26_code zp_158 0 0 zc_158 = true := by decide +kernel
theorem zM_158 : zMeth zT zXt zme zpcs 158 := ⟨zk_158, rfl, rfl, fun _ => (by rename_i h; exact Bool.noConfusion h), by decide +kernel, rfl, Nat.le_of_ble_eq_true rfl, (zw_18_ok _ (List.mem_of_getElem? (i := 20) rfl)), Or.inr (Or.inr (Or.inr ⟨rfl, rfl⟩))⟩
set_option maxRecDepth 100000 in
theorem zk_159 : zckL zXt ze_159 prog_14_method_111_code zp_159 0 0 zc_159 = true := by decide +kernel
theorem zM_159 : zMeth zT zXt zme zpcs 159 := ⟨zk_159, rfl, rfl, fun _ => (by rename_i h; exact Bool.noConfusion h), by decide +kernel, rfl, Nat.le_of_ble_eq_true rfl, (zw_20_ok _ (List.mem_of_getElem? (i := 27) rfl)), Or.inr (Or.inl ⟨rfl, rfl⟩)⟩
set_option maxRecDepth 100000 in
theorem zk_160 : zckL zXt ze_160 prog_14_method_70_code zp_160 0 0 zc_160 = true := by decide +kernel
theorem zM_160 : zMeth zT zXt zme zpcs 160 := ⟨zk_160, rfl, rfl, fun _ => (by rename_i h; exact Bool.noConfusion h), by decide +kernel, rfl, Nat.le_of_ble_eq_true rfl, (zw_19_ok _ (List.mem_of_getElem? (i := 21) rfl)), Or.inr (Or.inl ⟨rfl, rfl⟩)⟩
set_option maxRecDepth 100000 in
theorem zk_161 : zckL zXt ze_161 prog_14_method_25_code zp_161 0 0 zc_161 = true := by decide +kernel
theorem zM_161 : zMeth zT zXt zme zpcs 161 := ⟨zk_161, rfl, rfl, fun _ => (by rename_i h; exact Bool.noConfusion h), by decide +kernel, rfl, Nat.le_of_ble_eq_true rfl, (zw_18_ok _ (List.mem_of_getElem? (i := 24) rfl)), Or.inr (Or.inr (Or.inr ⟨rfl, rfl⟩))⟩
set_option maxRecDepth 100000 in
theorem zk_162 : zckL zXt ze_162 prog_14_method_128_code zp_162 0 0 zc_162 = true := by decide +kernel
theorem zM_162 : zMeth zT zXt zme zpcs 162 := ⟨zk_162, rfl, rfl, fun _ => (by rename_i h; exact Bool.noConfusion h), by decide +kernel, rfl, Nat.le_of_ble_eq_true rfl, (zw_21_ok _ (List.mem_of_getElem? (i := 4) rfl)), Or.inr (Or.inl ⟨rfl, rfl⟩)⟩
set_option maxRecDepth 100000 in
theorem zk_163 : zckL zXt ze_163 prog_14_method_139_code zp_163 0 0 zc_163 = true := by decide +kernel
theorem zM_163 : zMeth zT zXt zme zpcs 163 := ⟨zk_163, rfl, rfl, fun _ => (by rename_i h; exact Bool.noConfusion h), by decide +kernel, rfl, Nat.le_of_ble_eq_true rfl, (zw_21_ok _ (List.mem_of_getElem? (i := 14) rfl)), Or.inr (Or.inr (Or.inr ⟨rfl, rfl⟩))⟩
set_option maxRecDepth 100000 in
theorem zk_164 : zckL zXt ze_164 prog_2_method_17_code zp_164 0 0 zc_164 = true := by decide +kernel
theorem zM_164 : zMeth zT zXt zme zpcs 164 := ⟨zk_164, rfl, rfl, fun _ => (by rename_i h; exact Bool.noConfusion h), by decide +kernel, rfl, Nat.le_of_ble_eq_true rfl, (zw_17_ok _ (List.mem_of_getElem? (i := 35) rfl)), Or.inr (Or.inl ⟨rfl, rfl⟩)⟩
set_option maxRecDepth 100000 in
theorem zk_165 : zckL zXt ze_165 prog_2_method_6_code zp_165 0 0 zc_165 = true := by decide +kernel
theorem zM_165 : zMeth zT zXt zme zpcs 165 := ⟨zk_165, rfl, rfl, fun _ => (by rename_i h; exact Bool.noConfusion h), by decide +kernel, rfl, Nat.le_of_ble_eq_true rfl, (zw_14_ok _ (List.mem_of_getElem? (i := 39) rfl)), Or.inr (Or.inr (Or.inr ⟨rfl, rfl⟩))⟩
set_option maxRecDepth 100000 in
theorem zk_166 : zckL zXt ze_166 prog_2_method_5_code zp_166 0 0 zc_166 = true := by decide +kernel
theorem zM_166 : zMeth zT zXt zme zpcs 166 := ⟨zk_166, rfl, rfl, fun _ => (by rename_i h; exact Bool.noConfusion h), by decide +kernel, rfl, Nat.le_of_ble_eq_true rfl, (zw_13_ok _ (List.mem_of_getElem? (i := 38) rfl)), Or.inl ⟨rfl, rfl⟩⟩
set_option maxRecDepth 100000 in
theorem zk_167 : zckL zXt ze_167 prog_2_method_4_code zp_167 0 0 zc_167 = true := by decide +kernel
theorem zM_167 : zMeth zT zXt zme zpcs 167 := ⟨zk_167, rfl, rfl, fun _ => (by rename_i h; exact Bool.noConfusion h), by decide +kernel, rfl, Nat.le_of_ble_eq_true rfl, (zw_13_ok _ (List.mem_of_getElem? (i := 34) rfl)), Or.inr (Or.inl ⟨rfl, rfl⟩)⟩
