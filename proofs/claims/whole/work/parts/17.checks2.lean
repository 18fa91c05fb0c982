/-! Checks of the methods from 168 on. -/
set_option maxRecDepth 100000 in
theorem zk_168 : zckL zXt ze_168 prog_3_method_17_code zp_168 0 0 zc_168 = true := by decide +kernel
theorem zM_168 : zMeth zT zXt zme zpcs 168 := ⟨zk_168, rfl, rfl, fun _ => (by rename_i h; exact Bool.noConfusion h), by decide +kernel, rfl, Nat.le_of_ble_eq_true rfl, (zw_16_ok _ (List.mem_of_getElem? (i := 26) rfl)), Or.inr (Or.inl ⟨rfl, rfl⟩)⟩
set_option maxRecDepth 100000 in
theorem zk_169 : zckL zXt ze_169 prog_3_method_7_code zp_169 0 0 zc_169 = true := by decide +kernel
theorem zM_169 : zMeth zT zXt zme zpcs 169 := ⟨zk_169, rfl, rfl, fun _ => (by rename_i h; exact Bool.noConfusion h), by decide +kernel, rfl, Nat.le_of_ble_eq_true rfl, (zw_16_ok _ (List.mem_of_getElem? (i := 14) rfl)), Or.inl ⟨rfl, rfl⟩⟩
set_option maxRecDepth 100000 in
theorem zk_170 : zckL zXt ze_170 prog_3_method_6_code zp_170 0 0 zc_170 = true := by decide +kernel
theorem zM_170 : zMeth zT zXt zme zpcs 170 := ⟨zk_170, rfl, rfl, fun _ => (by rename_i h; exact Bool.noConfusion h), by decide +kernel, rfl, Nat.le_of_ble_eq_true rfl, (zw_16_ok _ (List.mem_of_getElem? (i := 9) rfl)), Or.inr (Or.inr (Or.inr ⟨rfl, rfl⟩))⟩
set_option maxRecDepth 100000 in
theorem zk_171 : zckL zXt ze_171 prog_3_method_19_code zp_171 0 0 zc_171 = true := by decide +kernel
theorem zM_171 : zMeth zT zXt zme zpcs 171 := ⟨zk_171, rfl, rfl, fun _ => (by rename_i h; exact Bool.noConfusion h), by decide +kernel, rfl, Nat.le_of_ble_eq_true rfl, (zw_16_ok _ (List.mem_of_getElem? (i := 21) rfl)), Or.inr (Or.inr (Or.inr ⟨rfl, rfl⟩))⟩
set_option maxRecDepth 100000 in
theorem zk_172 : zckL zXt ze_172 prog_3_method_12_code zp_172 0 0 zc_172 = true := by decide +kernel
theorem zM_172 : zMeth zT zXt zme zpcs 172 := ⟨zk_172, rfl, rfl, fun _ => (by rename_i h; exact Bool.noConfusion h), by decide +kernel, rfl, Nat.le_of_ble_eq_true rfl, (zw_16_ok _ (List.mem_of_getElem? (i := 17) rfl)), Or.inr (Or.inl ⟨rfl, rfl⟩)⟩
set_option maxRecDepth 100000 in
theorem zk_173 : zckL zXt ze_173 prog_4_method_6_code zp_173 0 0 zc_173 = true := by decide +kernel
theorem zM_173 : zMeth zT zXt zme zpcs 173 := ⟨zk_173, rfl, rfl, fun _ => (by rename_i h; exact Bool.noConfusion h), by decide +kernel, rfl, Nat.le_of_ble_eq_true rfl, (zw_14_ok _ (List.mem_of_getElem? (i := 30) rfl)), Or.inr (Or.inl ⟨rfl, rfl⟩)⟩
set_option maxRecDepth 100000 in
theorem zk_174 : zckL zXt ze_174 prog_4_method_9_code zp_174 0 0 zc_174 = true := by decide +kernel
theorem zM_174 : zMeth zT zXt zme zpcs 174 := ⟨zk_174, rfl, rfl, fun _ => (by rename_i h; exact Bool.noConfusion h), by decide +kernel, rfl, Nat.le_of_ble_eq_true rfl, (zw_14_ok _ (List.mem_of_getElem? (i := 37) rfl)), Or.inr (Or.inr (Or.inr ⟨rfl, rfl⟩))⟩
set_option maxRecDepth 100000 in
theorem zk_175 : zckL zXt ze_175 prog_7_method_6_code zp_175 0 0 zc_175 = true := by decide +kernel
theorem zM_175 : zMeth zT zXt zme zpcs 175 := ⟨zk_175, rfl, rfl, fun _ => (by rename_i h; exact Bool.noConfusion h), by decide +kernel, rfl, Nat.le_of_ble_eq_true rfl, (zw_17_ok _ (List.mem_of_getElem? (i := 10) rfl)), Or.inr (Or.inr (Or.inr ⟨rfl, rfl⟩))⟩
set_option maxRecDepth 100000 in
theorem zk_176 : zckL zXt ze_176 prog_7_method_2_code zp_176 0 0 zc_176 = true := by decide +kernel
theorem zM_176 : zMeth zT zXt zme zpcs 176 := ⟨zk_176, rfl, rfl, fun _ => (by rename_i h; exact Bool.noConfusion h), by decide +kernel, rfl, Nat.le_of_ble_eq_true rfl, (zw_17_ok _ (List.mem_of_getElem? (i := 7) rfl)), Or.inr (Or.inr (Or.inr ⟨rfl, rfl⟩))⟩
set_option maxRecDepth 100000 in
theorem zk_177 : zckL zXt ze_177 prog_7_method_8_code zp_177 0 0 zc_177 = true := by decide +kernel
theorem zM_177 : zMeth zT zXt zme zpcs 177 := ⟨zk_177, rfl, rfl, fun _ => (by rename_i h; exact Bool.noConfusion h), by decide +kernel, rfl, Nat.le_of_ble_eq_true rfl, (zw_17_ok _ (List.mem_of_getElem? (i := 12) rfl)), Or.inl ⟨rfl, rfl⟩⟩
set_option maxRecDepth 100000 in
theorem zk_178 : zckL zXt ze_178 prog_8_method_1_code zp_178 0 0 zc_178 = true := by decide +kernel
theorem zM_178 : zMeth zT zXt zme zpcs 178 := ⟨zk_178, rfl, rfl, fun _ => rfl, by decide +kernel, rfl, Nat.le_of_ble_eq_true rfl, (zw_13_ok _ (List.mem_of_getElem? (i := 8) rfl)), Or.inl ⟨rfl, rfl⟩⟩
set_option maxRecDepth 100000 in
theorem zk_179 : zckL zXt ze_179 prog_8_method_7_code zp_179 0 0 zc_179 = true := by decide +kernel
theorem zM_179 : zMeth zT zXt zme zpcs 179 := ⟨zk_179, rfl, rfl, fun _ => (by rename_i h; exact Bool.noConfusion h), by decide +kernel, rfl, Nat.le_of_ble_eq_true rfl, (zw_15_ok _ (List.mem_of_getElem? (i := 12) rfl)), Or.inl ⟨rfl, rfl⟩⟩
set_option maxRecDepth 100000 in
theorem zk_180 : zckL zXt ze_180 prog_8_method_10_code zp_180 0 0 zc_180 = true := by decide +kernel
theorem zM_180 : zMeth zT zXt zme zpcs 180 := ⟨zk_180, rfl, rfl, fun _ => (by rename_i h; exact Bool.noConfusion h), by decide +kernel, rfl, Nat.le_of_ble_eq_true rfl, (zw_15_ok _ (List.mem_of_getElem? (i := 14) rfl)), Or.inl ⟨rfl, rfl⟩⟩
set_option maxRecDepth 100000 in
theorem zk_181 : zckL zXt ze_181 prog_8_method_4_code zp_181 0 0 zc_181 = true := by decide +kernel
theorem zM_181 : zMeth zT zXt zme zpcs 181 := ⟨zk_181, rfl, rfl, fun _ => (by rename_i h; exact Bool.noConfusion h), by decide +kernel, rfl, Nat.le_of_ble_eq_true rfl, (zw_14_ok _ (List.mem_of_getElem? (i := 14) rfl)), Or.inl ⟨rfl, rfl⟩⟩
set_option maxRecDepth 100000 in
theorem zk_182 : zckL zXt ze_182 prog_9_method_7_code zp_182 0 0 zc_182 = true := by decide +kernel
theorem zM_182 : zMeth zT zXt zme zpcs 182 := ⟨zk_182, rfl, rfl, fun _ => (by rename_i h; exact Bool.noConfusion h), by decide +kernel, rfl, Nat.le_of_ble_eq_true rfl, (zw_14_ok _ (List.mem_of_getElem? (i := 29) rfl)), Or.inr (Or.inl ⟨rfl, rfl⟩)⟩
set_option maxRecDepth 100000 in
theorem zk_183 : zckL zXt ze_183 prog_10_method_2_code zp_183 0 0 zc_183 = true := by decide +kernel
theorem zM_183 : zMeth zT zXt zme zpcs 183 := ⟨zk_183, rfl, rfl, fun _ => (by rename_i h; exact Bool.noConfusion h), by decide +kernel, rfl, Nat.le_of_ble_eq_true rfl, (zw_16_ok _ (List.mem_of_getElem? (i := 28) rfl)), Or.inr (Or.inr (Or.inr ⟨rfl, rfl⟩))⟩
set_option maxRecDepth 100000 in
theorem zk_184 : zckL zXt ze_184 prog_10_method_5_code zp_184 0 0 zc_184 = true := by decide +kernel
theorem zM_184 : zMeth zT zXt zme zpcs 184 := ⟨zk_184, rfl, rfl, fun _ => (by rename_i h; exact Bool.noConfusion h), by decide +kernel, rfl, Nat.le_of_ble_eq_true rfl, (zw_16_ok _ (List.mem_of_getElem? (i := 33) rfl)), Or.inr (Or.inr (Or.inl ⟨rfl, rfl⟩))⟩
set_option maxRecDepth 100000 in
theorem zk_185 : zckL zXt ze_185 prog_11_method_1_code zp_185 0 0 zc_185 = true := by decide +kernel
theorem zM_185 : zMeth zT zXt zme zpcs 185 := ⟨zk_185, rfl, rfl, fun _ => rfl, by decide +kernel, rfl, Nat.le_of_ble_eq_true rfl, (zw_13_ok _ (List.mem_of_getElem? (i := 3) rfl)), Or.inl ⟨rfl, rfl⟩⟩
set_option maxRecDepth 100000 in
theorem zk_186 : zckL zXt ze_186 prog_11_method_14_code zp_186 0 0 zc_186 = true := by decide +kernel
theorem zM_186 : zMeth zT zXt zme zpcs 186 := ⟨zk_186, rfl, rfl, fun _ => (by rename_i h; exact Bool.noConfusion h), by decide +kernel, rfl, Nat.le_of_ble_eq_true rfl, (zw_15_ok _ (List.mem_of_getElem? (i := 39) rfl)), Or.inr (Or.inr (Or.inl ⟨rfl, rfl⟩))⟩
set_option maxRecDepth 100000 in
theorem zk_187 : zckL zXt ze_187 prog_11_method_10_code zp_187 0 0 zc_187 = true := by decide +kernel
theorem zM_187 : zMeth zT zXt zme zpcs 187 := ⟨zk_187, rfl, rfl, fun _ => (by rename_i h; exact Bool.noConfusion h), by decide +kernel, rfl, Nat.le_of_ble_eq_true rfl, (zw_15_ok _ (List.mem_of_getElem? (i := 28) rfl)), Or.inr (Or.inl ⟨rfl, rfl⟩)⟩
set_option maxRecDepth 100000 in
theorem zk_188 : zckL zXt ze_188 prog_11_method_4_code zp_188 0 0 zc_188 = true := by decide +kernel
theorem zM_188 : zMeth zT zXt zme zpcs 188 := ⟨zk_188, rfl, rfl, fun _ => (by rename_i h; exact Bool.noConfusion h), by decide +kernel, rfl, Nat.le_of_ble_eq_true rfl, (zw_14_ok _ (List.mem_of_getElem? (i := 23) rfl)), Or.inl ⟨rfl, rfl⟩⟩
set_option maxRecDepth 100000 in
theorem zk_189 : zckL zXt ze_189 prog_11_method_15_code zp_189 0 0 zc_189 = true := by decide +kernel
theorem zM_189 : zMeth zT zXt zme zpcs 189 := ⟨zk_189, rfl, rfl, fun _ => (by rename_i h; exact Bool.noConfusion h), by decide +kernel, rfl, Nat.le_of_ble_eq_true rfl, (zw_15_ok _ (List.mem_of_getElem? (i := 7) rfl)), Or.inr (Or.inr (Or.inl ⟨rfl, rfl⟩))⟩
set_option maxRecDepth 100000 in
theorem zk_190 : zckL zXt ze_190 prog_12_method_15_code zp_190 0 0 zc_190 = true := by decide +kernel
theorem zM_190 : zMeth zT zXt zme zpcs 190 := ⟨zk_190, rfl, rfl, fun _ => (by rename_i h; exact Bool.noConfusion h), by decide +kernel, rfl, Nat.le_of_ble_eq_true rfl, (zw_13_ok _ (List.mem_of_getElem? (i := 27) rfl)), Or.inr (Or.inr (Or.inl ⟨rfl, rfl⟩))⟩
set_option maxRecDepth 100000 in
theorem zk_191 : zckL zXt ze_191 prog_1_method_54_code zp_191 0 0 zc_191 = true := by decide +kernel
theorem zM_191 : zMeth zT zXt zme zpcs 191 := ⟨zk_191, rfl, rfl, fun _ => (by rename_i h; exact Bool.noConfusion h), by decide +kernel, rfl, Nat.le_of_ble_eq_true rfl, (zw_14_ok _ (List.mem_of_getElem? (i := 8) rfl)), Or.inr (Or.inl ⟨rfl, rfl⟩)⟩
set_option maxRecDepth 100000 in
theorem zk_192 : zckL zXt ze_192 prog_1_method_19_code zp_192 0 0 zc_192 = true := by decide +kernel
theorem zM_192 : zMeth zT zXt zme zpcs 192 := ⟨zk_192, rfl, rfl, fun _ => (by rename_i h; exact Bool.noConfusion h), by decide +kernel, rfl, Nat.le_of_ble_eq_true rfl, (zw_15_ok _ (List.mem_of_getElem? (i := 34) rfl)), Or.inr (Or.inl ⟨rfl, rfl⟩)⟩
set_option maxRecDepth 100000 in
theorem zk_193 : zckL zXt ze_193 prog_1_method_34_code zp_193 0 0 zc_193 = true := by decide +kernel
theorem zM_193 : zMeth zT zXt zme zpcs 193 := ⟨zk_193, rfl, rfl, fun _ => (by rename_i h; exact Bool.noConfusion h), by decide +kernel, rfl, Nat.le_of_ble_eq_true rfl, (zw_17_ok _ (List.mem_of_getElem? (i := 15) rfl)), Or.inr (Or.inl ⟨rfl, rfl⟩)⟩
set_option maxRecDepth 100000 in
theorem zk_194 : zckL zXt ze_194 prog_14_method_77_code zp_194 0 0 zc_194 = true := by decide +kernel
theorem zM_194 : zMeth zT zXt zme zpcs 194 := ⟨zk_194, rfl, rfl, fun _ => (by rename_i h; exact Bool.noConfusion h), by decide +kernel, rfl, Nat.le_of_ble_eq_true rfl, (zw_19_ok _ (List.mem_of_getElem? (i := 28) rfl)), Or.inr (Or.inr (Or.inr ⟨rfl, rfl⟩))⟩
set_option maxRecDepth 100000 in
theorem zk_195 : zckL zXt ze_195 prog_14_method_80_code zp_195 0 0 zc_195 = true := by decide +kernel
theorem zM_195 : zMeth zT zXt zme zpcs 195 := ⟨zk_195, rfl, rfl, fun _ => (by rename_i h; exact Bool.noConfusion h), by decide +kernel, rfl, Nat.le_of_ble_eq_true rfl, (zw_19_ok _ (List.mem_of_getElem? (i := 30) rfl)), Or.inr (Or.inl ⟨rfl, rfl⟩)⟩
set_option maxRecDepth 100000 in
theorem zk_196 : zckL zXt ze_196 prog_14_method_102_code zp_196 0 0 zc_196 = true := by decide +kernel
theorem zM_196 : zMeth zT zXt zme zpcs 196 := ⟨zk_196, rfl, rfl, fun _ => (by rename_i h; exact Bool.noConfusion h), by decide +kernel, rfl, Nat.le_of_ble_eq_true rfl, (zw_20_ok _ (List.mem_of_getElem? (i := 15) rfl)), Or.inr (Or.inl ⟨rfl, rfl⟩)⟩
set_option maxRecDepth 100000 in
theorem zk_197 : zckL zXt ze_197 prog_14_method_142_code zp_197 0 0 zc_197 = true := by decide +kernel
theorem zM_197 : zMeth zT zXt zme zpcs 197 := ⟨zk_197, rfl, rfl, fun _ => (by rename_i h; exact Bool.noConfusion h), by decide +kernel, rfl, Nat.le_of_ble_eq_true rfl, (zw_21_ok _ (List.mem_of_getElem? (i := 17) rfl)), Or.inr (Or.inl ⟨rfl, rfl⟩)⟩
set_option maxRecDepth 100000 in
theorem zk_198 : zckL zXt ze_198 prog_14_method_52_code zp_198 0 0 zc_198 = true := by decide +kernel
theorem zM_198 : zMeth zT zXt zme zpcs 198 := ⟨zk_198, rfl, rfl, fun _ => (by rename_i h; exact Bool.noConfusion h), by decide +kernel, rfl, Nat.le_of_ble_eq_true rfl, (zw_18_ok _ (List.mem_of_getElem? (i := 5) rfl)), Or.inr (Or.inr (Or.inl ⟨rfl, rfl⟩))⟩
set_option maxRecDepth 100000 in
theorem zk_199 : zckL zXt ze_199 prog_14_method_82_code zp_199 0 0 zc_199 = true := by decide +kernel
theorem zM_199 : zMeth zT zXt zme zpcs 199 := ⟨zk_199, rfl, rfl, fun _ => (by rename_i h; exact Bool.noConfusion h), by decide +kernel, rfl, Nat.le_of_ble_eq_true rfl, (zw_19_ok _ (List.mem_of_getElem? (i := 32) rfl)), Or.inr (Or.inr (Or.inl ⟨rfl, rfl⟩))⟩
set_option maxRecDepth 100000 in
theorem zk_200 : zckL zXt ze_200 prog_14_method_93_code zp_200 0 0 zc_200 = true := by decide +kernel
theorem zM_200 : zMeth zT zXt zme zpcs 200 := ⟨zk_200, rfl, rfl, fun _ => (by rename_i h; exact Bool.noConfusion h), by decide +kernel, rfl, Nat.le_of_ble_eq_true rfl, (zw_20_ok _ (List.mem_of_getElem? (i := 5) rfl)), Or.inr (Or.inr (Or.inr ⟨rfl, rfl⟩))⟩
set_option maxRecDepth 100000 in
theorem zk_201 : zckL zXt ze_201 prog_14_method_67_code zp_201 0 0 zc_201 = true := by decide +kernel
theorem zM_201 : zMeth zT zXt zme zpcs 201 := ⟨zk_201, rfl, rfl, fun _ => (by rename_i h; exact Bool.noConfusion h), by decide +kernel, rfl, Nat.le_of_ble_eq_true rfl, (zw_19_ok _ (List.mem_of_getElem? (i := 16) rfl)), Or.inr (Or.inl ⟨rfl, rfl⟩)⟩
set_option maxRecDepth 100000 in
theorem zk_202 : zckL zXt ze_202 prog_14_method_66_code zp_202 0 0 zc_202 = true := by decide +kernel
theorem zM_202 : zMeth zT zXt zme zpcs 202 := ⟨zk_202, rfl, rfl, fun _ => (by rename_i h; exact Bool.noConfusion h), by decide +kernel, rfl, Nat.le_of_ble_eq_true rfl, (zw_19_ok _ (List.mem_of_getElem? (i := 15) rfl)), Or.inr (Or.inl ⟨rfl, rfl⟩)⟩
set_option maxRecDepth 100000 in
theorem zk_203 : zckL zXt ze_203 prog_14_method_28_code zp_203 0 0 zc_203 = true := by decide +kernel
theorem zM_203 : zMeth zT zXt zme zpcs 203 := ⟨zk_203, rfl, rfl, fun _ => (by rename_i h; exact Bool.noConfusion h), by decide +kernel, rfl, Nat.le_of_ble_eq_true rfl, (zw_18_ok _ (List.mem_of_getElem? (i := 22) rfl)), Or.inr (Or.inl ⟨rfl, rfl⟩)⟩
set_option maxRecDepth 100000 in
theorem zk_204 : zckL zXt ze_204 prog_14_method_109_code zp_204 0 0 zc_204 = true := by decide +kernel
theorem zM_204 : zMeth zT zXt zme zpcs 204 := ⟨zk_204, rfl, rfl, fun _ => (by rename_i h; exact Bool.noConfusion h), by decide +kernel, rfl, Nat.le_of_ble_eq_true rfl, (zw_20_ok _ (List.mem_of_getElem? (i := 24) rfl)), Or.inr (Or.inr (Or.inl ⟨rfl, rfl⟩))⟩
set_option maxRecDepth 100000 in
theorem zk_205 : zckL zXt ze_205 prog_14_method_72_code zp_205 0 0 zc_205 = true := by decide +kernel
theorem zM_205 : zMeth zT zXt zme zpcs 205 := ⟨zk_205, rfl, rfl, fun _ => (by rename_i h; exact Bool.noConfusion h), by decide +kernel, rfl, Nat.le_of_ble_eq_true rfl, (zw_19_ok _ (List.mem_of_getElem? (i := 23) rfl)), Or.inr (Or.inl ⟨rfl, rfl⟩)⟩
set_option maxRecDepth 100000 in
theorem zk_206 : zckL zXt ze_206 prog_14_method_71_code zp_206 0 0 zc_206 = true := by decide +kernel
theorem zM_206 : zMeth zT zXt zme zpcs 206 := ⟨zk_206, rfl, rfl, fun _ => (by rename_i h; exact Bool.noConfusion h), by decide +kernel, rfl, Nat.le_of_ble_eq_true rfl, (zw_19_ok _ (List.mem_of_getElem? (i := 22) rfl)), Or.inr (Or.inl ⟨rfl, rfl⟩)⟩
set_option maxRecDepth 100000 in
theorem zk_207 : zckL zXt ze_207 prog_14_method_125_code zp_207 0 0 zc_207 = true := by decide +kernel
theorem zM_207 : zMeth zT zXt zme zpcs 207 := ⟨zk_207, rfl, rfl, fun _ => (by rename_i h; exact Bool.noConfusion h), by decide +kernel, rfl, Nat.le_of_ble_eq_true rfl, (zw_21_ok _ (List.mem_of_getElem? (i := 1) rfl)), Or.inr (Or.inl ⟨rfl, rfl⟩)⟩
set_option maxRecDepth 100000 in
theorem zk_208 : zckL zXt ze_208 prog_14_method_124_code zp_208 0 0 zc_208 = true := by decide +kernel
theorem zM_208 : zMeth zT zXt zme zpcs 208 := ⟨zk_208, rfl, rfl, fun _ => (by rename_i h; exact Bool.noConfusion h), by decide +kernel, rfl, Nat.le_of_ble_eq_true rfl, (zw_20_ok _ (List.mem_of_getElem? (i := 38) rfl)), Or.inl ⟨rfl, rfl⟩⟩
set_option maxRecDepth 100000 in
theorem zk_209 : zckL zXt ze_209 prog_14_method_74_code zp_209 0 0 zc_209 = true := by decide +kernel
theorem zM_209 : zMeth zT zXt zme zpcs 209 := ⟨zk_209, rfl, rfl, fun _ => (by rename_i h; exact Bool.noConfusion h), by decide +kernel, rfl, Nat.le_of_ble_eq_true rfl, (zw_19_ok _ (List.mem_of_getElem? (i := 24) rfl)), Or.inr (Or.inl ⟨rfl, rfl⟩)⟩
set_option maxRecDepth 100000 in
theorem zk_210 : zckL zXt ze_210 prog_14_method_69_code zp_210 0 0 zc_210 = true := by decide +kernel
theorem zM_210 : zMeth zT zXt zme zpcs 210 := ⟨zk_210, rfl, rfl, fun _ => (by rename_i h; exact Bool.noConfusion h), by decide +kernel, rfl, Nat.le_of_ble_eq_true rfl, (zw_19_ok _ (List.mem_of_getElem? (i := 19) rfl)), Or.inr (Or.inl ⟨rfl, rfl⟩)⟩
set_option maxRecDepth 100000 in
theorem zk_211 : zckL zXt ze_211 prog_14_method_129_code zp_211 0 0 zc_211 = true := by decide +kernel
theorem zM_211 : zMeth zT zXt zme zpcs 211 := ⟨zk_211, rfl, rfl, fun _ => (by rename_i h; exact Bool.noConfusion h), by decide +kernel, rfl, Nat.le_of_ble_eq_true rfl, (zw_21_ok _ (List.mem_of_getElem? (i := 2) rfl)), Or.inr (Or.inl ⟨rfl, rfl⟩)⟩
set_option maxRecDepth 100000 in
theorem zk_212 : zckL zXt ze_212 prog_14_method_57_code zp_212 0 0 zc_212 = true := by decide +kernel
theorem zM_212 : zMeth zT zXt zme zpcs 212 := ⟨zk_212, rfl, rfl, fun _ => (by rename_i h; exact Bool.noConfusion h), by decide +kernel, rfl, Nat.le_of_ble_eq_true rfl, (zw_19_ok _ (List.mem_of_getElem? (i := 9) rfl)), Or.inr (Or.inr (Or.inl ⟨rfl, rfl⟩))⟩
set_option maxRecDepth 100000 in
theorem zk_213 : zckL zXt ze_213 prog_2_method_3_code zp_213 0 0 zc_213 = true := by decide +kernel
theorem zM_213 : zMeth zT zXt zme zpcs 213 := ⟨zk_213, rfl, rfl, fun _ => (by rename_i h; exact Bool.noConfusion h), by decide +kernel, rfl, Nat.le_of_ble_eq_true rfl, (zw_13_ok _ (List.mem_of_getElem? (i := 33) rfl)), Or.inr (Or.inl ⟨rfl, rfl⟩)⟩
set_option maxRecDepth 100000 in
theorem zk_214 : zckL zXt ze_214 prog_3_method_18_code zp_214 0 0 zc_214 = true := by decide +kernel
theorem zM_214 : zMeth zT zXt zme zpcs 214 := ⟨zk_214, rfl, rfl, fun _ => (by rename_i h; exact Bool.noConfusion h), by decide +kernel, rfl, Nat.le_of_ble_eq_true rfl, (zw_16_ok _ (List.mem_of_getElem? (i := 20) rfl)), Or.inr (Or.inl ⟨rfl, rfl⟩)⟩
set_option maxRecDepth 100000 in
theorem zk_215 : zckL zXt ze_215 prog_3_method_4_code zp_215 0 0 zc_215 = true := by decide +kernel
theorem zM_215 : zMeth zT zXt zme zpcs 215 := ⟨zk_215, rfl, rfl, fun _ => (by rename_i h; exact Bool.noConfusion h), by decide +kernel, rfl, Nat.le_of_ble_eq_true rfl, (zw_16_ok _ (List.mem_of_getElem? (i := 6) rfl)), Or.inr (Or.inl ⟨rfl, rfl⟩)⟩
set_option maxRecDepth 100000 in
theorem zk_216 : zckL zXt ze_216 prog_3_method_5_code zp_216 0 0 zc_216 = true := by decide +kernel
theorem zM_216 : zMeth zT zXt zme zpcs 216 := ⟨zk_216, rfl, rfl, fun _ => (by rename_i h; exact Bool.noConfusion h), by decide +kernel, rfl, Nat.le_of_ble_eq_true rfl, (zw_16_ok _ (List.mem_of_getElem? (i := 8) rfl)), Or.inl ⟨rfl, rfl⟩⟩
set_option maxRecDepth 100000 in
theorem zk_217 : zckL zXt ze_217 prog_4_method_4_code zp_217 0 0 zc_217 = true := by decide +kernel
theorem zM_217 : zMeth zT zXt zme zpcs 217 := ⟨zk_217, rfl, rfl, fun _ => (by rename_i h; exact Bool.noConfusion h), by decide +kernel, rfl, Nat.le_of_ble_eq_true rfl, (zw_14_ok _ (List.mem_of_getElem? (i := 28) rfl)), Or.inl ⟨rfl, rfl⟩⟩
set_option maxRecDepth 100000 in
theorem zk_218 : zckL zXt ze_218 prog_4_method_8_code zp_218 0 0 zc_218 = true := by decide +kernel
theorem zM_218 : zMeth zT zXt zme zpcs 218 := ⟨zk_218, rfl, rfl, fun _ => (by rename_i h; exact Bool.noConfusion h), by decide +kernel, rfl, Nat.le_of_ble_eq_true rfl, (zw_14_ok _ (List.mem_of_getElem? (i := 36) rfl)), Or.inr (Or.inr (Or.inr ⟨rfl, rfl⟩))⟩
set_option maxRecDepth 100000 in
theorem zk_219 : zckL zXt ze_219 prog_4_method_5_code zp_219 0 0 zc_219 = true := by decide +kernel
theorem zM_219 : zMeth zT zXt zme zpcs 219 := ⟨zk_219, rfl, rfl, fun _ => (by rename_i h; exact Bool.noConfusion h), by decide +kernel, rfl, Nat.le_of_ble_eq_true rfl, (zw_14_ok _ (List.mem_of_getElem? (i := 33) rfl)), Or.inl ⟨rfl, rfl⟩⟩
set_option maxRecDepth 100000 in
theorem zk_220 : zckL zXt ze_220 prog_6_method_3_code zp_220 0 0 zc_220 = true := by decide +kernel
theorem zM_220 : zMeth zT zXt zme zpcs 220 := ⟨zk_220, rfl, rfl, fun _ => (by rename_i h; exact Bool.noConfusion h), by decide +kernel, rfl, Nat.le_of_ble_eq_true rfl, (zw_16_ok _ (List.mem_of_getElem? (i := 36) rfl)), Or.inl ⟨rfl, rfl⟩⟩
set_option maxRecDepth 100000 in
theorem zk_221 : zckL zXt ze_221 prog_7_method_5_code zp_221 0 0 zc_221 = true := by decide +kernel
theorem zM_221 : zMeth zT zXt zme zpcs 221 := ⟨zk_221, rfl, rfl, fun _ => (by rename_i h; exact Bool.noConfusion h), by decide +kernel, rfl, Nat.le_of_ble_eq_true rfl, (zw_17_ok _ (List.mem_of_getElem? (i := 9) rfl)), Or.inl ⟨rfl, rfl⟩⟩
set_option maxRecDepth 100000 in
theorem zk_222 : zckL zXt ze_222 prog_8_method_5_code zp_222 0 0 zc_222 = true := by decide +kernel
theorem zM_222 : zMeth zT zXt zme zpcs 222 := ⟨zk_222, rfl, rfl, fun _ => (by rename_i h; exact Bool.noConfusion h), by decide +kernel, rfl, Nat.le_of_ble_eq_true rfl, (zw_15_ok _ (List.mem_of_getElem? (i := 6) rfl)), Or.inl ⟨rfl, rfl⟩⟩
set_option maxRecDepth 100000 in
theorem zk_223 : zckL zXt ze_223 prog_8_method_3_code zp_223 0 0 zc_223 = true := by decide +kernel
theorem zM_223 : zMeth zT zXt zme zpcs 223 := ⟨zk_223, rfl, rfl, fun _ => (by rename_i h; exact Bool.noConfusion h), by decide +kernel, rfl, Nat.le_of_ble_eq_true rfl, (zw_14_ok _ (List.mem_of_getElem? (i := 5) rfl)), Or.inl ⟨rfl, rfl⟩⟩
set_option maxRecDepth 100000 in
theorem zk_224 : zckL zXt ze_224 prog_10_method_4_code zp_224 0 0 zc_224 = true := by decide +kernel
theorem zM_224 : zMeth zT zXt zme zpcs 224 := ⟨zk_224, rfl, rfl, fun _ => (by rename_i h; exact Bool.noConfusion h), by decide +kernel, rfl, Nat.le_of_ble_eq_true rfl, (zw_16_ok _ (List.mem_of_getElem? (i := 31) rfl)), Or.inl ⟨rfl, rfl⟩⟩
set_option maxRecDepth 100000 in
theorem zk_225 : zckL zXt ze_225 prog_11_method_2_code zp_225 0 0 zc_225 = true := by decide +kernel
theorem zM_225 : zMeth zT zXt zme zpcs 225 := ⟨zk_225, rfl, rfl, fun _ => (by rename_i h; exact Bool.noConfusion h), by decide +kernel, rfl, Nat.le_of_ble_eq_true rfl, (zw_17_ok _ (List.mem_of_getElem? (i := 28) rfl)), Or.inl ⟨rfl, rfl⟩⟩
set_option maxRecDepth 100000 in
theorem zk_226 : zckL zXt ze_226 prog_11_method_12_code zp_226 0 0 zc_226 = true := by decide +kernel
theorem zM_226 : zMeth zT zXt zme zpcs 226 := ⟨zk_226, rfl, rfl, fun _ => (by rename_i h; exact Bool.noConfusion h), by decide +kernel, rfl, Nat.le_of_ble_eq_true rfl, (zw_17_ok _ (List.mem_of_getElem? (i := 23) rfl)), Or.inr (Or.inl ⟨rfl, rfl⟩)⟩
set_option maxRecDepth 100000 in
theorem zk_227 : zckL zXt ze_227 prog_12_method_12_code zp_227 0 0 zc_227 = true := by decide +kernel
theorem zM_227 : zMeth zT zXt zme zpcs 227 := ⟨zk_227, rfl, rfl, fun _ => (by rename_i h; exact Bool.noConfusion h), by decide +kernel, rfl, Nat.le_of_ble_eq_true rfl, (zw_15_ok _ (List.mem_of_getElem? (i := 33) rfl)), Or.inr (Or.inr (Or.inl ⟨rfl, rfl⟩))⟩
set_option maxRecDepth 100000 in
theorem zk_228 : zckL zXt ze_228 prog_12_method_14_code zp_228 0 0 zc_228 = true := by decide +kernel
theorem zM_228 : zMeth zT zXt zme zpcs 228 := ⟨zk_228, rfl, rfl, fun _ => (by rename_i h; exact Bool.noConfusion h), by decide +kernel, rfl, Nat.le_of_ble_eq_true rfl, (zw_13_ok _ (List.mem_of_getElem? (i := 22) rfl)), Or.inr (Or.inr (Or.inr ⟨rfl, rfl⟩))⟩
set_option maxRecDepth 100000 in
theorem zk_229 : zckL zXt ze_229 prog_1_method_1_code zp_229 0 0 zc_229 = true := by decide +kernel
theorem zM_229 : zMeth zT zXt zme zpcs 229 := ⟨zk_229, rfl, rfl, fun _ => rfl, by decide +kernel, rfl, Nat.le_of_ble_eq_true rfl, (zw_13_ok _ (List.mem_of_getElem? (i := 0) rfl)), Or.inl ⟨rfl, rfl⟩⟩
set_option maxRecDepth 100000 in
theorem zk_230 : zckL zXt ze_230 prog_1_method_20_code zp_230 0 0 zc_230 = true := by decide +kernel
theorem zM_230 : zMeth zT zXt zme zpcs 230 := ⟨zk_230, rfl, rfl, fun _ => (by rename_i h; exact Bool.noConfusion h), by decide +kernel, rfl, Nat.le_of_ble_eq_true rfl, (zw_15_ok _ (List.mem_of_getElem? (i := 35) rfl)), Or.inr (Or.inl ⟨rfl, rfl⟩)⟩
set_option maxRecDepth 100000 in
theorem zk_231 : zckL zXt ze_231 prog_1_method_45_code zp_231 0 0 zc_231 = true := by decide +kernel
theorem zM_231 : zMeth zT zXt zme zpcs 231 := ⟨zk_231, rfl, rfl, fun _ => (by rename_i h; exact Bool.noConfusion h), by decide +kernel, rfl, Nat.le_of_ble_eq_true rfl, (zw_17_ok _ (List.mem_of_getElem? (i := 34) rfl)), Or.inr (Or.inl ⟨rfl, rfl⟩)⟩
set_option maxRecDepth 100000 in
theorem zk_232 : zckL zXt ze_232 prog_1_method_22_code zp_232 0 0 zc_232 = true := by decide +kernel
theorem zM_232 : zMeth zT zXt zme zpcs 232 := ⟨zk_232, rfl, rfl, fun _ => (by rename_i h; exact Bool.noConfusion h), by decide +kernel, rfl, Nat.le_of_ble_eq_true rfl, (zw_15_ok _ (List.mem_of_getElem? (i := 38) rfl)), Or.inr (Or.inr (Or.inl ⟨rfl, rfl⟩))⟩
set_option maxRecDepth 100000 in
theorem zk_233 : zckL zXt ze_233 prog_1_method_14_code zp_233 0 0 zc_233 = true := by decide +kernel
theorem zM_233 : zMeth zT zXt zme zpcs 233 := ⟨zk_233, rfl, rfl, fun _ => (by rename_i h; exact Bool.noConfusion h), by decide +kernel, rfl, Nat.le_of_ble_eq_true rfl, (zw_15_ok _ (List.mem_of_getElem? (i := 20) rfl)), Or.inr (Or.inl ⟨rfl, rfl⟩)⟩
set_option maxRecDepth 100000 in
theorem zk_234 : zckL zXt ze_234 prog_1_method_17_code zp_234 0 0 zc_234 = true := by decide +kernel
theorem zM_234 : zMeth zT zXt zme zpcs 234 := ⟨zk_234, rfl, rfl, fun _ => (by rename_i h; exact Bool.noConfusion h), by decide +kernel, rfl, Nat.le_of_ble_eq_true rfl, (zw_15_ok _ (List.mem_of_getElem? (i := 25) rfl)), Or.inr (Or.inl ⟨rfl, rfl⟩)⟩
set_option maxRecDepth 100000 in
theorem zk_235 : zckL zXt ze_235 prog_14_method_79_code zp_235 0 0 zc_235 = true := by decide +kernel
theorem zM_235 : zMeth zT zXt zme zpcs 235 := ⟨zk_235, rfl, rfl, fun _ => (by rename_i h; exact Bool.noConfusion h), by decide +kernel, rfl, Nat.le_of_ble_eq_true rfl, (zw_19_ok _ (List.mem_of_getElem? (i := 29) rfl)), Or.inr (Or.inl ⟨rfl, rfl⟩)⟩
set_option maxRecDepth 100000 in
theorem zk_236 : zckL zXt ze_236 prog_14_method_76_code zp_236 0 0 zc_236 = true := by decide +kernel
theorem zM_236 : zMeth zT zXt zme zpcs 236 := ⟨zk_236, rfl, rfl, fun _ => (by rename_i h; exact Bool.noConfusion h), by decide +kernel, rfl, Nat.le_of_ble_eq_true rfl, (zw_19_ok _ (List.mem_of_getElem? (i := 26) rfl)), Or.inr (Or.inl ⟨rfl, rfl⟩)⟩
set_option maxRecDepth 100000 in
theorem zk_237 : zckL zXt ze_237 prog_14_method_86_code zp_237 0 0 zc_237 = true := by decide +kernel
theorem zM_237 : zMeth zT zXt zme zpcs 237 := ⟨zk_237, rfl, rfl, fun _ => (by rename_i h; exact Bool.noConfusion h), by decide +kernel, rfl, Nat.le_of_ble_eq_true rfl, (zw_20_ok _ (List.mem_of_getElem? (i := 1) rfl)), Or.inr (Or.inr (Or.inr ⟨rfl, rfl⟩))⟩
set_option maxRecDepth 100000 in
theorem zk_238 : zckL zXt ze_238 prog_14_method_29_code zp_238 0 0 zc_238 = true := by decide +kernel
theorem zM_238 : zMeth zT zXt zme zpcs 238 := ⟨zk_238, rfl, rfl, fun _ => (by rename_i h; exact Bool.noConfusion h), by decide +kernel, rfl, Nat.le_of_ble_eq_true rfl, (zw_18_ok _ (List.mem_of_getElem? (i := 21) rfl)), Or.inr (Or.inr (Or.inr ⟨rfl, rfl⟩))⟩
set_option maxRecDepth 100000 in
theorem zk_239 : zckL zXt ze_239 prog_14_method_58_code zp_239 0 0 zc_239 = true := by decide +kernel
theorem zM_239 : zMeth zT zXt zme zpcs 239 := ⟨zk_239, rfl, rfl, fun _ => (by rename_i h; exact Bool.noConfusion h), by decide +kernel, rfl, Nat.le_of_ble_eq_true rfl, (zw_19_ok _ (List.mem_of_getElem? (i := 8) rfl)), Or.inl ⟨rfl, rfl⟩⟩
set_option maxRecDepth 100000 in
theorem zk_240 : zckL zXt ze_240 prog_14_method_54_code zp_240 0 0 zc_240 = true := by decide +kernel
theorem zM_240 : zMeth zT zXt zme zpcs 240 := ⟨zk_240, rfl, rfl, fun _ => (by rename_i h; exact Bool.noConfusion h), by decide +kernel, rfl, Nat.le_of_ble_eq_true rfl, (zw_18_ok _ (List.mem_of_getElem? (i := 2) rfl)), Or.inl ⟨rfl, rfl⟩⟩
set_option maxRecDepth 100000 in
theorem zk_241 : zckL zXt ze_241 prog_14_method_126_code zp_241 0 0 zc_241 = true := by decide +kernel
theorem zM_241 : zMeth zT zXt zme zpcs 241 := ⟨zk_241, rfl, rfl, fun _ => (by rename_i h; exact Bool.noConfusion h), by decide +kernel, rfl, Nat.le_of_ble_eq_true rfl, (zw_21_ok _ (List.mem_of_getElem? (i := 0) rfl)), Or.inr (Or.inl ⟨rfl, rfl⟩)⟩
set_option maxRecDepth 100000 in
theorem zk_242 : zckL zXt ze_242 prog_14_method_122_code zp_242 0 0 zc_242 = true := by decide +kernel
theorem zM_242 : zMeth zT zXt zme zpcs 242 := ⟨zk_242, rfl, rfl, fun _ => (by rename_i h; exact Bool.noConfusion h), by decide +kernel, rfl, Nat.le_of_ble_eq_true rfl, (zw_20_ok _ (List.mem_of_getElem? (i := 37) rfl)), Or.inr (Or.inr (Or.inr ⟨rfl, rfl⟩))⟩
set_option maxRecDepth 100000 in
theorem zk_243 : zckL zXt ze_243 prog_14_method_78_code zp_243 0 0 zc_243 = true := by decide +kernel
theorem zM_243 : zMeth zT zXt zme zpcs 243 := ⟨zk_243, rfl, rfl, fun _ => (by rename_i h; exact Bool.noConfusion h), by decide +kernel, rfl, Nat.le_of_ble_eq_true rfl, (zw_19_ok _ (List.mem_of_getElem? (i := 27) rfl)), Or.inr (Or.inl ⟨rfl, rfl⟩)⟩
set_option maxRecDepth 100000 in
theorem zk_244 : zckL zXt ze_244 prog_14_method_132_code zp_244 0 0 zc_244 = true := by decide +kernel
theorem zM_244 : zMeth zT zXt zme zpcs 244 := ⟨zk_244, rfl, rfl, fun _ => (by rename_i h; exact Bool.noConfusion h), by decide +kernel, rfl, Nat.le_of_ble_eq_true rfl, (zw_21_ok _ (List.mem_of_getElem? (i := 9) rfl)), Or.inr (Or.inl ⟨rfl, rfl⟩)⟩
set_option maxRecDepth 100000 in
theorem zk_245 : zckL zXt ze_245 prog_14_method_75_code zp_245 0 0 zc_245 = true := by decide +kernel
theorem zM_245 : zMeth zT zXt zme zpcs 245 := ⟨zk_245, rfl, rfl, fun _ => (by rename_i h; exact Bool.noConfusion h), by decide +kernel, rfl, Nat.le_of_ble_eq_true rfl, (zw_19_ok _ (List.mem_of_getElem? (i := 20) rfl)), Or.inr (Or.inl ⟨rfl, rfl⟩)⟩
set_option maxRecDepth 100000 in
theorem zk_246 : zckL zXt ze_246 prog_3_method_2_code zp_246 0 0 zc_246 = true := by decide +kernel
theorem zM_246 : zMeth zT zXt zme zpcs 246 := ⟨zk_246, rfl, rfl, fun _ => (by rename_i h; exact Bool.noConfusion h), by decide +kernel, rfl, Nat.le_of_ble_eq_true rfl, (zw_16_ok _ (List.mem_of_getElem? (i := 5) rfl)), Or.inl ⟨rfl, rfl⟩⟩
set_option maxRecDepth 100000 in
theorem zk_247 : zckL zXt ze_247 prog_4_method_2_code zp_247 0 0 zc_247 = true := by decide +kernel
theorem zM_247 : zMeth zT zXt zme zpcs 247 := ⟨zk_247, rfl, rfl, fun _ => (by rename_i h; exact Bool.noConfusion h), by decide +kernel, rfl, Nat.le_of_ble_eq_true rfl, (zw_14_ok _ (List.mem_of_getElem? (i := 27) rfl)), Or.inl ⟨rfl, rfl⟩⟩
set_option maxRecDepth 100000 in
theorem zk_248 : zckL zXt ze_248 prog_7_method_4_code zp_248 0 0 zc_248 = true := by decide +kernel
theorem zM_248 : zMeth zT zXt zme zpcs 248 := ⟨zk_248, rfl, rfl, fun _ => (by rename_i h; exact Bool.noConfusion h), by decide +kernel, rfl, Nat.le_of_ble_eq_true rfl, (zw_17_ok _ (List.mem_of_getElem? (i := 8) rfl)), Or.inl ⟨rfl, rfl⟩⟩
set_option maxRecDepth 100000 in
theorem zk_249 : zckL zXt ze_249 prog_8_method_2_code zp_249 0 0 zc_249 = true := by decide +kernel
theorem zM_249 : zMeth zT zXt zme zpcs 249 := ⟨zk_249, rfl, rfl, fun _ => (by rename_i h; exact Bool.noConfusion h), by decide +kernel, rfl, Nat.le_of_ble_eq_true rfl, (zw_14_ok _ (List.mem_of_getElem? (i := 4) rfl)), Or.inl ⟨rfl, rfl⟩⟩
set_option maxRecDepth 100000 in
theorem zk_250 : zckL zXt ze_250 prog_8_method_6_code zp_250 0 0 zc_250 = true := by decide +kernel
theorem zM_250 : zMeth zT zXt zme zpcs 250 := ⟨zk_250, rfl, rfl, fun _ => (by rename_i h; exact Bool.noConfusion h), by decide +kernel, rfl, Nat.le_of_ble_eq_true rfl, (zw_15_ok _ (List.mem_of_getElem? (i := 5) rfl)), Or.inl ⟨rfl, rfl⟩⟩
set_option maxRecDepth 100000 in
theorem zk_251 : zckL zXt ze_251 prog_10_method_3_code zp_251 0 0 zc_251 = true := by decide +kernel
theorem zM_251 : zMeth zT zXt zme zpcs 251 := ⟨zk_251, rfl, rfl, fun _ => (by rename_i h; exact Bool.noConfusion h), by decide +kernel, rfl, Nat.le_of_ble_eq_true rfl, (zw_16_ok _ (List.mem_of_getElem? (i := 30) rfl)), Or.inr (Or.inr (Or.inl ⟨rfl, rfl⟩))⟩
