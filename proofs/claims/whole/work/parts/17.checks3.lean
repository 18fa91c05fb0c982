/-! Checks of the methods from 252 on. -/
set_option maxRecDepth 100000 in
theorem zk_252 : zckL zXt ze_252 prog_12_method_8_code zp_252 0 0 zc_252 = true := by decide +kernel
theorem zM_252 : zMeth zT zXt zme zpcs 252 := ⟨zk_252, rfl, rfl, fun _ => (by rename_i h; exact Bool.noConfusion h), by decide +kernel, rfl, Nat.le_of_ble_eq_true rfl, (zw_13_ok _ (List.mem_of_getElem? (i := 19) rfl)), Or.inr (Or.inr (Or.inr ⟨rfl, rfl⟩))⟩
set_option maxRecDepth 100000 in
theorem zk_253 : zckL zXt ze_253 prog_12_method_11_code zp_253 0 0 zc_253 = true := by decide +kernel
theorem zM_253 : zMeth zT zXt zme zpcs 253 := ⟨zk_253, rfl, rfl, fun _ => (by rename_i h; exact Bool.noConfusion h), by decide +kernel, rfl, Nat.le_of_ble_eq_true rfl, (zw_17_ok _ (List.mem_of_getElem? (i := 6) rfl)), Or.inr (Or.inr (Or.inr ⟨rfl, rfl⟩))⟩
set_option maxRecDepth 100000 in
theorem zk_254 : zckL zXt ze_254 prog_12_method_10_code zp_254 0 0 zc_254 = true := by decide +kernel
theorem zM_254 : zMeth zT zXt zme zpcs 254 := ⟨zk_254, rfl, rfl, fun _ => (by rename_i h; exact Bool.noConfusion h), by decide +kernel, rfl, Nat.le_of_ble_eq_true rfl, (zw_14_ok _ (List.mem_of_getElem? (i := 22) rfl)), Or.inr (Or.inr (Or.inr ⟨rfl, rfl⟩))⟩
set_option maxRecDepth 100000 in
theorem zk_255 : zckL zXt ze_255 prog_1_method_38_code zp_255 0 0 zc_255 = true := by decide +kernel
theorem zM_255 : zMeth zT zXt zme zpcs 255 := ⟨zk_255, rfl, rfl, fun _ => (by rename_i h; exact Bool.noConfusion h), by decide +kernel, rfl, Nat.le_of_ble_eq_true rfl, (zw_17_ok _ (List.mem_of_getElem? (i := 22) rfl)), Or.inr (Or.inl ⟨rfl, rfl⟩)⟩
set_option maxRecDepth 100000 in
theorem zk_256 : zckL zXt ze_256 prog_1_method_18_code zp_256 0 0 zc_256 = true := by decide +kernel
theorem zM_256 : zMeth zT zXt zme zpcs 256 := ⟨zk_256, rfl, rfl, fun _ => (by rename_i h; exact Bool.noConfusion h), by decide +kernel, rfl, Nat.le_of_ble_eq_true rfl, (zw_15_ok _ (List.mem_of_getElem? (i := 32) rfl)), Or.inr (Or.inl ⟨rfl, rfl⟩)⟩
set_option maxRecDepth 100000 in
theorem zk_257 : zckL zXt ze_257 prog_1_method_44_code zp_257 0 0 zc_257 = true := by decide +kernel
theorem zM_257 : zMeth zT zXt zme zpcs 257 := ⟨zk_257, rfl, rfl, fun _ => (by rename_i h; exact Bool.noConfusion h), by decide +kernel, rfl, Nat.le_of_ble_eq_true rfl, (zw_17_ok _ (List.mem_of_getElem? (i := 33) rfl)), Or.inr (Or.inr (Or.inr ⟨rfl, rfl⟩))⟩
set_option maxRecDepth 100000 in
theorem zk_258 : zckL zXt ze_258 prog_1_method_41_code zp_258 0 0 zc_258 = true := by decide +kernel
theorem zM_258 : zMeth zT zXt zme zpcs 258 := ⟨zk_258, rfl, rfl, fun _ => (by rename_i h; exact Bool.noConfusion h), by decide +kernel, rfl, Nat.le_of_ble_eq_true rfl, (zw_17_ok _ (List.mem_of_getElem? (i := 27) rfl)), Or.inr (Or.inl ⟨rfl, rfl⟩)⟩
set_option maxRecDepth 100000 in
theorem zk_259 : zckL zXt ze_259 prog_1_method_23_code zp_259 0 0 zc_259 = true := by decide +kernel
theorem zM_259 : zMeth zT zXt zme zpcs 259 := ⟨zk_259, rfl, rfl, fun _ => (by rename_i h; exact Bool.noConfusion h), by decide +kernel, rfl, Nat.le_of_ble_eq_true rfl, (zw_16_ok _ (List.mem_of_getElem? (i := 0) rfl)), Or.inr (Or.inl ⟨rfl, rfl⟩)⟩
set_option maxRecDepth 100000 in
theorem zk_260 : zckL zXt ze_260 prog_1_method_42_code zp_260 0 0 zc_260 = true := by decide +kernel
theorem zM_260 : zMeth zT zXt zme zpcs 260 := ⟨zk_260, rfl, rfl, fun _ => (by rename_i h; exact Bool.noConfusion h), by decide +kernel, rfl, Nat.le_of_ble_eq_true rfl, (zw_17_ok _ (List.mem_of_getElem? (i := 30) rfl)), Or.inr (Or.inr (Or.inr ⟨rfl, rfl⟩))⟩
set_option maxRecDepth 100000 in
theorem zk_261 : zckL zXt ze_261 prog_14_method_59_code zp_261 0 0 zc_261 = true := by decide +kernel
theorem zM_261 : zMeth zT zXt zme zpcs 261 := ⟨zk_261, rfl, rfl, fun _ => (by rename_i h; exact Bool.noConfusion h), by decide +kernel, rfl, Nat.le_of_ble_eq_true rfl, (zw_19_ok _ (List.mem_of_getElem? (i := 7) rfl)), Or.inl ⟨rfl, rfl⟩⟩
set_option maxRecDepth 100000 in
theorem zk_262 : zckL zXt ze_262 prog_14_method_43_code zp_262 0 0 zc_262 = true := by decide +kernel
theorem zM_262 : zMeth zT zXt zme zpcs 262 := ⟨zk_262, rfl, rfl, fun _ => (by rename_i h; exact Bool.noConfusion h), by decide +kernel, rfl, Nat.le_of_ble_eq_true rfl, (zw_19_ok _ (List.mem_of_getElem? (i := 1) rfl)), Or.inl ⟨rfl, rfl⟩⟩
set_option maxRecDepth 100000 in
theorem zk_263 : zckL zXt ze_263 prog_14_method_90_code zp_263 0 0 zc_263 = true := by decide +kernel
theorem zM_263 : zMeth zT zXt zme zpcs 263 := ⟨zk_263, rfl, rfl, fun _ => (by rename_i h; exact Bool.noConfusion h), by decide +kernel, rfl, Nat.le_of_ble_eq_true rfl, (zw_20_ok _ (List.mem_of_getElem? (i := 4) rfl)), Or.inl ⟨rfl, rfl⟩⟩
set_option maxRecDepth 100000 in
theorem zk_264 : zckL zXt ze_264 prog_14_method_89_code zp_264 0 0 zc_264 = true := by decide +kernel
theorem zM_264 : zMeth zT zXt zme zpcs 264 := ⟨zk_264, rfl, rfl, fun _ => (by rename_i h; exact Bool.noConfusion h), by decide +kernel, rfl, Nat.le_of_ble_eq_true rfl, (zw_19_ok _ (List.mem_of_getElem? (i := 39) rfl)), Or.inl ⟨rfl, rfl⟩⟩
set_option maxRecDepth 100000 in
theorem zk_265 : zckL zXt ze_265 prog_14_method_55_code zp_265 0 0 zc_265 = true := by decide +kernel
theorem zM_265 : zMeth zT zXt zme zpcs 265 := ⟨zk_265, rfl, rfl, fun _ => (by rename_i h; exact Bool.noConfusion h), by decide +kernel, rfl, Nat.le_of_ble_eq_true rfl, (zw_17_ok _ (List.mem_of_getElem? (i := 37) rfl)), Or.inl ⟨rfl, rfl⟩⟩
set_option maxRecDepth 100000 in
theorem zk_266 : zckL zXt ze_266 prog_14_method_83_code zp_266 0 0 zc_266 = true := by decide +kernel
theorem zM_266 : zMeth zT zXt zme zpcs 266 := ⟨zk_266, rfl, rfl, fun _ => (by rename_i h; exact Bool.noConfusion h), by decide +kernel, rfl, Nat.le_of_ble_eq_true rfl, (zw_19_ok _ (List.mem_of_getElem? (i := 34) rfl)), Or.inr (Or.inl ⟨rfl, rfl⟩)⟩
set_option maxRecDepth 100000 in
theorem zk_267 : zckL zXt ze_267 prog_14_method_30_code zp_267 0 0 zc_267 = true := by decide +kernel
theorem zM_267 : zMeth zT zXt zme zpcs 267 := ⟨zk_267, rfl, rfl, fun _ => (by rename_i h; exact Bool.noConfusion h), by decide +kernel, rfl, Nat.le_of_ble_eq_true rfl, (zw_18_ok _ (List.mem_of_getElem? (i := 18) rfl)), Or.inr (Or.inr (Or.inr ⟨rfl, rfl⟩))⟩
set_option maxRecDepth 100000 in
theorem zk_268 : zckL zXt ze_268 prog_14_method_133_code zp_268 0 0 zc_268 = true := by decide +kernel
theorem zM_268 : zMeth zT zXt zme zpcs 268 := ⟨zk_268, rfl, rfl, fun _ => (by rename_i h; exact Bool.noConfusion h), by decide +kernel, rfl, Nat.le_of_ble_eq_true rfl, (zw_21_ok _ (List.mem_of_getElem? (i := 8) rfl)), Or.inr (Or.inl ⟨rfl, rfl⟩)⟩
set_option maxRecDepth 100000 in
theorem zk_269 : zckL zXt ze_269 prog_6_method_2_code zp_269 0 0 zc_269 = true := by decide +kernel
theorem zM_269 : zMeth zT zXt zme zpcs 269 := ⟨zk_269, rfl, rfl, fun _ => (by rename_i h; exact Bool.noConfusion h), by decide +kernel, rfl, Nat.le_of_ble_eq_true rfl, (zw_16_ok _ (List.mem_of_getElem? (i := 35) rfl)), Or.inl ⟨rfl, rfl⟩⟩
set_option maxRecDepth 100000 in
theorem zk_270 : zckL zXt ze_270 prog_8_method_8_code zp_270 0 0 zc_270 = true := by decide +kernel
theorem zM_270 : zMeth zT zXt zme zpcs 270 := ⟨zk_270, rfl, rfl, fun _ => (by rename_i h; exact Bool.noConfusion h), by decide +kernel, rfl, Nat.le_of_ble_eq_true rfl, (zw_15_ok _ (List.mem_of_getElem? (i := 4) rfl)), Or.inl ⟨rfl, rfl⟩⟩
set_option maxRecDepth 100000 in
theorem zk_271 : zckL zXt ze_271 prog_12_method_9_code zp_271 0 0 zc_271 = true := by decide +kernel
theorem zM_271 : zMeth zT zXt zme zpcs 271 := ⟨zk_271, rfl, rfl, fun _ => (by rename_i h; exact Bool.noConfusion h), by decide +kernel, rfl, Nat.le_of_ble_eq_true rfl, (zw_14_ok _ (List.mem_of_getElem? (i := 21) rfl)), Or.inr (Or.inr (Or.inr ⟨rfl, rfl⟩))⟩
set_option maxRecDepth 100000 in
theorem zk_272 : zckL zXt ze_272 prog_1_method_36_code zp_272 0 0 zc_272 = true := by decide +kernel
theorem zM_272 : zMeth zT zXt zme zpcs 272 := ⟨zk_272, rfl, rfl, fun _ => (by rename_i h; exact Bool.noConfusion h), by decide +kernel, rfl, Nat.le_of_ble_eq_true rfl, (zw_17_ok _ (List.mem_of_getElem? (i := 19) rfl)), Or.inr (Or.inl ⟨rfl, rfl⟩)⟩
set_option maxRecDepth 100000 in
theorem zk_273 : zckL zXt ze_273 prog_1_method_27_code zp_273 0 0 zc_273 = true := by decide +kernel
theorem zM_273 : zMeth zT zXt zme zpcs 273 := ⟨zk_273, rfl, rfl, fun _ => (by rename_i h; exact Bool.noConfusion h), by decide +kernel, rfl, Nat.le_of_ble_eq_true rfl, (zw_16_ok _ (List.mem_of_getElem? (i := 16) rfl)), Or.inr (Or.inl ⟨rfl, rfl⟩)⟩
set_option maxRecDepth 100000 in
theorem zk_274 : zckL zXt ze_274 prog_1_method_11_code zp_274 0 0 zc_274 = true := by decide +kernel
theorem zM_274 : zMeth zT zXt zme zpcs 274 := ⟨zk_274, rfl, rfl, fun _ => (by rename_i h; exact Bool.noConfusion h), by decide +kernel, rfl, Nat.le_of_ble_eq_true rfl, (zw_15_ok _ (List.mem_of_getElem? (i := 17) rfl)), Or.inr (Or.inr (Or.inr ⟨rfl, rfl⟩))⟩
set_option maxRecDepth 100000 in
theorem zk_275 : zckL zXt ze_275 prog_1_method_43_code zp_275 0 0 zc_275 = true := by decide +kernel
theorem zM_275 : zMeth zT zXt zme zpcs 275 := ⟨zk_275, rfl, rfl, fun _ => (by rename_i h; exact Bool.noConfusion h), by decide +kernel, rfl, Nat.le_of_ble_eq_true rfl, (zw_17_ok _ (List.mem_of_getElem? (i := 31) rfl)), Or.inr (Or.inl ⟨rfl, rfl⟩)⟩
set_option maxRecDepth 100000 in
theorem zk_276 : zckL zXt ze_276 prog_1_method_24_code zp_276 0 0 zc_276 = true := by decide +kernel
theorem zM_276 : zMeth zT zXt zme zpcs 276 := ⟨zk_276, rfl, rfl, fun _ => (by rename_i h; exact Bool.noConfusion h), by decide +kernel, rfl, Nat.le_of_ble_eq_true rfl, (zw_16_ok _ (List.mem_of_getElem? (i := 2) rfl)), Or.inr (Or.inl ⟨rfl, rfl⟩)⟩
set_option maxRecDepth 100000 in
theorem zk_277 : zckL zXt ze_277 prog_1_method_29_code zp_277 0 0 zc_277 = true := by decide +kernel
theorem zM_277 : zMeth zT zXt zme zpcs 277 := ⟨zk_277, rfl, rfl, fun _ => (by rename_i h; exact Bool.noConfusion h), by decide +kernel, rfl, Nat.le_of_ble_eq_true rfl, (zw_16_ok _ (List.mem_of_getElem? (i := 27) rfl)), Or.inr (Or.inl ⟨rfl, rfl⟩)⟩
set_option maxRecDepth 100000 in
theorem zk_278 : zckL zXt ze_278 prog_1_method_8_code zp_278 0 0 zc_278 = true := by decide +kernel
theorem zM_278 : zMeth zT zXt zme zpcs 278 := ⟨zk_278, rfl, rfl, fun _ => (by rename_i h; exact Bool.noConfusion h), by decide +kernel, rfl, Nat.le_of_ble_eq_true rfl, (zw_14_ok _ (List.mem_of_getElem? (i := 38) rfl)), Or.inr (Or.inl ⟨rfl, rfl⟩)⟩
set_option maxRecDepth 100000 in
theorem zk_279 : zckL zXt ze_279 prog_1_method_10_code zp_279 0 0 zc_279 = true := by decide +kernel
theorem zM_279 : zMeth zT zXt zme zpcs 279 := ⟨zk_279, rfl, rfl, fun _ => (by rename_i h; exact Bool.noConfusion h), by decide +kernel, rfl, Nat.le_of_ble_eq_true rfl, (zw_15_ok _ (List.mem_of_getElem? (i := 16) rfl)), Or.inr (Or.inl ⟨rfl, rfl⟩)⟩
set_option maxRecDepth 100000 in
theorem zk_280 : zckL zXt ze_280 prog_1_method_25_code zp_280 0 0 zc_280 = true := by decide +kernel
theorem zM_280 : zMeth zT zXt zme zpcs 280 := ⟨zk_280, rfl, rfl, fun _ => (by rename_i h; exact Bool.noConfusion h), by decide +kernel, rfl, Nat.le_of_ble_eq_true rfl, (zw_16_ok _ (List.mem_of_getElem? (i := 3) rfl)), Or.inr (Or.inl ⟨rfl, rfl⟩)⟩
set_option maxRecDepth 100000 in
theorem zk_281 : zckL zXt ze_281 prog_1_method_5_code zp_281 0 0 zc_281 = true := by decide +kernel
theorem zM_281 : zMeth zT zXt zme zpcs 281 := ⟨zk_281, rfl, rfl, fun _ => (by rename_i h; exact Bool.noConfusion h), by decide +kernel, rfl, Nat.le_of_ble_eq_true rfl, (zw_14_ok _ (List.mem_of_getElem? (i := 25) rfl)), Or.inr (Or.inl ⟨rfl, rfl⟩)⟩
set_option maxRecDepth 100000 in
theorem zk_282 : zckL zXt ze_282 prog_1_method_28_code zp_282 0 0 zc_282 = true := by decide +kernel
theorem zM_282 : zMeth zT zXt zme zpcs 282 := ⟨zk_282, rfl, rfl, fun _ => (by rename_i h; exact Bool.noConfusion h), by decide +kernel, rfl, Nat.le_of_ble_eq_true rfl, (zw_16_ok _ (List.mem_of_getElem? (i := 19) rfl)), Or.inr (Or.inl ⟨rfl, rfl⟩)⟩
set_option maxRecDepth 100000 in
theorem zk_283 : zckL zXt ze_283 prog_1_method_30_code zp_283 0 0 zc_283 = true := by decide +kernel
theorem zM_283 : zMeth zT zXt zme zpcs 283 := ⟨zk_283, rfl, rfl, fun _ => (by rename_i h; exact Bool.noConfusion h), by decide +kernel, rfl, Nat.le_of_ble_eq_true rfl, (zw_16_ok _ (List.mem_of_getElem? (i := 29) rfl)), Or.inr (Or.inr (Or.inl ⟨rfl, rfl⟩))⟩
set_option maxRecDepth 100000 in
theorem zk_284 : zckL zXt ze_284 prog_1_method_7_code zp_284 0 0 zc_284 = true := by decide +kernel
theorem zM_284 : zMeth zT zXt zme zpcs 284 := ⟨zk_284, rfl, rfl, fun _ => (by rename_i h; exact Bool.noConfusion h), by decide +kernel, rfl, Nat.le_of_ble_eq_true rfl, (zw_13_ok _ (List.mem_of_getElem? (i := 32) rfl)), Or.inr (Or.inl ⟨rfl, rfl⟩)⟩
set_option maxRecDepth 100000 in
theorem zk_285 : zckL zXt ze_285 prog_1_method_37_code zp_285 0 0 zc_285 = true := by decide +kernel
theorem zM_285 : zMeth zT zXt zme zpcs 285 := ⟨zk_285, rfl, rfl, fun _ => (by rename_i h; exact Bool.noConfusion h), by decide +kernel, rfl, Nat.le_of_ble_eq_true rfl, (zw_17_ok _ (List.mem_of_getElem? (i := 21) rfl)), Or.inr (Or.inl ⟨rfl, rfl⟩)⟩
set_option maxRecDepth 100000 in
theorem zk_286 : zckL zXt ze_286 prog_14_method_1_code zp_286 0 0 zc_286 = true := by decide +kernel
theorem zM_286 : zMeth zT zXt zme zpcs 286 := ⟨zk_286, rfl, rfl, fun _ => rfl, by decide +kernel, rfl, Nat.le_of_ble_eq_true rfl, (zw_17_ok _ (List.mem_of_getElem? (i := 36) rfl)), Or.inl ⟨rfl, rfl⟩⟩
set_option maxRecDepth 100000 in
theorem zk_287 : zckL zXt ze_287 prog_14_method_64_code zp_287 0 0 zc_287 = true := by decide +kernel
theorem zM_287 : zMeth zT zXt zme zpcs 287 := ⟨zk_287, rfl, rfl, fun _ => (by rename_i h; exact Bool.noConfusion h), by decide +kernel, rfl, Nat.le_of_ble_eq_true rfl, (zw_19_ok _ (List.mem_of_getElem? (i := 13) rfl)), Or.inr (Or.inr (Or.inr ⟨rfl, rfl⟩))⟩
set_option maxRecDepth 100000 in
theorem zk_288 : zckL zXt ze_288 prog_14_method_84_code zp_288 0 0 zc_288 = true := by decide +kernel
theorem zM_288 : zMeth zT zXt zme zpcs 288 := ⟨zk_288, rfl, rfl, fun _ => (by rename_i h; exact Bool.noConfusion h), by decide +kernel, rfl, Nat.le_of_ble_eq_true rfl, (zw_19_ok _ (List.mem_of_getElem? (i := 35) rfl)), Or.inr (Or.inl ⟨rfl, rfl⟩)⟩
set_option maxRecDepth 100000 in
theorem zk_289 : zckL zXt ze_289 prog_14_method_49_code zp_289 0 0 zc_289 = true := by decide +kernel
theorem zM_289 : zMeth zT zXt zme zpcs 289 := ⟨zk_289, rfl, rfl, fun _ => (by rename_i h; exact Bool.noConfusion h), by decide +kernel, rfl, Nat.le_of_ble_eq_true rfl, (zw_19_ok _ (List.mem_of_getElem? (i := 2) rfl)), Or.inr (Or.inl ⟨rfl, rfl⟩)⟩
set_option maxRecDepth 100000 in
theorem zk_290 : zckL zXt ze_290 prog_14_method_63_code zp_290 0 0 zc_290 = true := by decide +kernel
theorem zM_290 : zMeth zT zXt zme zpcs 290 := ⟨zk_290, rfl, rfl, fun _ => (by rename_i h; exact Bool.noConfusion h), by decide +kernel, rfl, Nat.le_of_ble_eq_true rfl, (zw_19_ok _ (List.mem_of_getElem? (i := 12) rfl)), Or.inr (Or.inl ⟨rfl, rfl⟩)⟩
set_option maxRecDepth 100000 in
theorem zk_291 : zckL zXt ze_291 prog_14_method_95_code zp_291 0 0 zc_291 = true := by decide +kernel
theorem zM_291 : zMeth zT zXt zme zpcs 291 := ⟨zk_291, rfl, rfl, fun _ => (by rename_i h; exact Bool.noConfusion h), by decide +kernel, rfl, Nat.le_of_ble_eq_true rfl, (zw_19_ok _ (List.mem_of_getElem? (i := 38) rfl)), Or.inl ⟨rfl, rfl⟩⟩
set_option maxRecDepth 100000 in
theorem zk_292 : zckL zXt ze_292 prog_14_method_60_code zp_292 0 0 zc_292 = true := by decide +kernel
theorem zM_292 : zMeth zT zXt zme zpcs 292 := ⟨zk_292, rfl, rfl, fun _ => (by rename_i h; exact Bool.noConfusion h), by decide +kernel, rfl, Nat.le_of_ble_eq_true rfl, (zw_19_ok _ (List.mem_of_getElem? (i := 6) rfl)), Or.inl ⟨rfl, rfl⟩⟩
set_option maxRecDepth 100000 in
theorem zk_293 : zckL zXt ze_293 prog_14_method_46_code zp_293 0 0 zc_293 = true := by decide +kernel
theorem zM_293 : zMeth zT zXt zme zpcs 293 := ⟨zk_293, rfl, rfl, fun _ => (by rename_i h; exact Bool.noConfusion h), by decide +kernel, rfl, Nat.le_of_ble_eq_true rfl, (zw_19_ok _ (List.mem_of_getElem? (i := 0) rfl)), Or.inl ⟨rfl, rfl⟩⟩
set_option maxRecDepth 100000 in
theorem zk_294 : zckL zXt ze_294 prog_14_method_31_code zp_294 0 0 zc_294 = true := by decide +kernel
theorem zM_294 : zMeth zT zXt zme zpcs 294 := ⟨zk_294, rfl, rfl, fun _ => (by rename_i h; exact Bool.noConfusion h), by decide +kernel, rfl, Nat.le_of_ble_eq_true rfl, (zw_18_ok _ (List.mem_of_getElem? (i := 16) rfl)), Or.inr (Or.inr (Or.inr ⟨rfl, rfl⟩))⟩
set_option maxRecDepth 100000 in
theorem zk_295 : zckL zXt ze_295 prog_14_method_34_code zp_295 0 0 zc_295 = true := by decide +kernel
theorem zM_295 : zMeth zT zXt zme zpcs 295 := ⟨zk_295, rfl, rfl, fun _ => (by rename_i h; exact Bool.noConfusion h), by decide +kernel, rfl, Nat.le_of_ble_eq_true rfl, (zw_18_ok _ (List.mem_of_getElem? (i := 29) rfl)), Or.inr (Or.inr (Or.inr ⟨rfl, rfl⟩))⟩
set_option maxRecDepth 100000 in
theorem zk_296 : zckL zXt ze_296 prog_14_method_134_code zp_296 0 0 zc_296 = true := by decide +kernel
theorem zM_296 : zMeth zT zXt zme zpcs 296 := ⟨zk_296, rfl, rfl, fun _ => (by rename_i h; exact Bool.noConfusion h), by decide +kernel, rfl, Nat.le_of_ble_eq_true rfl, (zw_21_ok _ (List.mem_of_getElem? (i := 7) rfl)), Or.inr (Or.inl ⟨rfl, rfl⟩)⟩
set_option maxRecDepth 100000 in
theorem zk_297 : zckL zXt ze_297 prog_1_method_35_code zp_297 0 0 zc_297 = true := by decide +kernel
theorem zM_297 : zMeth zT zXt zme zpcs 297 := ⟨zk_297, rfl, rfl, fun _ => (by rename_i h; exact Bool.noConfusion h), by decide +kernel, rfl, Nat.le_of_ble_eq_true rfl, (zw_17_ok _ (List.mem_of_getElem? (i := 18) rfl)), Or.inr (Or.inl ⟨rfl, rfl⟩)⟩
set_option maxRecDepth 100000 in
theorem zk_298 : zckL zXt ze_298 prog_1_method_40_code zp_298 0 0 zc_298 = true := by decide +kernel
theorem zM_298 : zMeth zT zXt zme zpcs 298 := ⟨zk_298, rfl, rfl, fun _ => (by rename_i h; exact Bool.noConfusion h), by decide +kernel, rfl, Nat.le_of_ble_eq_true rfl, (zw_17_ok _ (List.mem_of_getElem? (i := 26) rfl)), Or.inr (Or.inl ⟨rfl, rfl⟩)⟩
set_option maxRecDepth 100000 in
theorem zk_299 : zckL zXt ze_299 prog_1_method_6_code zp_299 0 0 zc_299 = true := by decide +kernel
theorem zM_299 : zMeth zT zXt zme zpcs 299 := ⟨zk_299, rfl, rfl, fun _ => (by rename_i h; exact Bool.noConfusion h), by decide +kernel, rfl, Nat.le_of_ble_eq_true rfl, (zw_14_ok _ (List.mem_of_getElem? (i := 35) rfl)), Or.inr (Or.inl ⟨rfl, rfl⟩)⟩
set_option maxRecDepth 100000 in
theorem zk_300 : zckL zXt ze_300 prog_1_method_26_code zp_300 0 0 zc_300 = true := by decide +kernel
theorem zM_300 : zMeth zT zXt zme zpcs 300 := ⟨zk_300, rfl, rfl, fun _ => (by rename_i h; exact Bool.noConfusion h), by decide +kernel, rfl, Nat.le_of_ble_eq_true rfl, (zw_16_ok _ (List.mem_of_getElem? (i := 15) rfl)), Or.inr (Or.inl ⟨rfl, rfl⟩)⟩
set_option maxRecDepth 100000 in
theorem zk_301 : zckL zXt ze_301 prog_1_method_33_code zp_301 0 0 zc_301 = true := by decide +kernel
theorem zM_301 : zMeth zT zXt zme zpcs 301 := ⟨zk_301, rfl, rfl, fun _ => (by rename_i h; exact Bool.noConfusion h), by decide +kernel, rfl, Nat.le_of_ble_eq_true rfl, (zw_17_ok _ (List.mem_of_getElem? (i := 5) rfl)), Or.inr (Or.inl ⟨rfl, rfl⟩)⟩
set_option maxRecDepth 100000 in
theorem zk_302 : zckL zXt ze_302 prog_1_method_3_code zp_302 0 0 zc_302 = true := by decide +kernel
theorem zM_302 : zMeth zT zXt zme zpcs 302 := ⟨zk_302, rfl, rfl, fun _ => (by rename_i h; exact Bool.noConfusion h), by decide +kernel, rfl, Nat.le_of_ble_eq_true rfl, (zw_13_ok _ (List.mem_of_getElem? (i := 17) rfl)), Or.inr (Or.inl ⟨rfl, rfl⟩)⟩
set_option maxRecDepth 100000 in
theorem zk_303 : zckL zXt ze_303 prog_1_method_32_code zp_303 0 0 zc_303 = true := by decide +kernel
theorem zM_303 : zMeth zT zXt zme zpcs 303 := ⟨zk_303, rfl, rfl, fun _ => (by rename_i h; exact Bool.noConfusion h), by decide +kernel, rfl, Nat.le_of_ble_eq_true rfl, (zw_17_ok _ (List.mem_of_getElem? (i := 0) rfl)), Or.inr (Or.inl ⟨rfl, rfl⟩)⟩
set_option maxRecDepth 100000 in
theorem zk_304 : zckL zXt ze_304 prog_1_method_31_code zp_304 0 0 zc_304 = true := by decide +kernel
theorem zM_304 : zMeth zT zXt zme zpcs 304 := ⟨zk_304, rfl, rfl, fun _ => (by rename_i h; exact Bool.noConfusion h), by decide +kernel, rfl, Nat.le_of_ble_eq_true rfl, (zw_16_ok _ (List.mem_of_getElem? (i := 34) rfl)), Or.inr (Or.inl ⟨rfl, rfl⟩)⟩
set_option maxRecDepth 100000 in
theorem zk_305 : zckL zXt ze_305 prog_1_method_9_code zp_305 0 0 zc_305 = true := by decide +kernel
theorem zM_305 : zMeth zT zXt zme zpcs 305 := ⟨zk_305, rfl, rfl, fun _ => (by rename_i h; exact Bool.noConfusion h), by decide +kernel, rfl, Nat.le_of_ble_eq_true rfl, (zw_15_ok _ (List.mem_of_getElem? (i := 1) rfl)), Or.inr (Or.inl ⟨rfl, rfl⟩)⟩
set_option maxRecDepth 100000 in
theorem zk_306 : zckL zXt ze_306 prog_1_method_4_code zp_306 0 0 zc_306 = true := by decide +kernel
theorem zM_306 : zMeth zT zXt zme zpcs 306 := ⟨zk_306, rfl, rfl, fun _ => (by rename_i h; exact Bool.noConfusion h), by decide +kernel, rfl, Nat.le_of_ble_eq_true rfl, (zw_14_ok _ (List.mem_of_getElem? (i := 20) rfl)), Or.inr (Or.inl ⟨rfl, rfl⟩)⟩
set_option maxRecDepth 100000 in
theorem zk_307 : zckL zXt ze_307 prog_1_method_39_code zp_307 0 0 zc_307 = true := by decide +kernel
theorem zM_307 : zMeth zT zXt zme zpcs 307 := ⟨zk_307, rfl, rfl, fun _ => (by rename_i h; exact Bool.noConfusion h), by decide +kernel, rfl, Nat.le_of_ble_eq_true rfl, (zw_17_ok _ (List.mem_of_getElem? (i := 24) rfl)), Or.inr (Or.inl ⟨rfl, rfl⟩)⟩
set_option maxRecDepth 100000 in
theorem zk_308 : zckL zXt ze_308 prog_14_method_130_code zp_308 0 0 zc_308 = true := by decide +kernel
theorem zM_308 : zMeth zT zXt zme zpcs 308 := ⟨zk_308, rfl, rfl, fun _ => (by rename_i h; exact Bool.noConfusion h), by decide +kernel, rfl, Nat.le_of_ble_eq_true rfl, (zw_21_ok _ (List.mem_of_getElem? (i := 6) rfl)), Or.inr (Or.inl ⟨rfl, rfl⟩)⟩
set_option maxRecDepth 100000 in
theorem zk_309 : zckL zXt ze_309 prog_14_method_97_code zp_309 0 0 zc_309 = true := by decide +kernel
theorem zM_309 : zMeth zT zXt zme zpcs 309 := ⟨zk_309, rfl, rfl, fun _ => (by rename_i h; exact Bool.noConfusion h), by decide +kernel, rfl, Nat.le_of_ble_eq_true rfl, (zw_20_ok _ (List.mem_of_getElem? (i := 11) rfl)), Or.inr (Or.inl ⟨rfl, rfl⟩)⟩
set_option maxRecDepth 100000 in
theorem zk_310 : zckL zXt ze_310 prog_14_method_141_code zp_310 0 0 zc_310 = true := by decide +kernel
theorem zM_310 : zMeth zT zXt zme zpcs 310 := ⟨zk_310, rfl, rfl, fun _ => (by rename_i h; exact Bool.noConfusion h), by decide +kernel, rfl, Nat.le_of_ble_eq_true rfl, (zw_21_ok _ (List.mem_of_getElem? (i := 15) rfl)), Or.inr (Or.inl ⟨rfl, rfl⟩)⟩
set_option maxRecDepth 100000 in
theorem zk_311 : zckL zXt ze_311 prog_14_method_107_code zp_311 0 0 zc_311 = true := by decide +kernel
theorem zM_311 : zMeth zT zXt zme zpcs 311 := ⟨zk_311, rfl, rfl, fun _ => (by rename_i h; exact Bool.noConfusion h), by decide +kernel, rfl, Nat.le_of_ble_eq_true rfl, (zw_20_ok _ (List.mem_of_getElem? (i := 20) rfl)), Or.inr (Or.inl ⟨rfl, rfl⟩)⟩
set_option maxRecDepth 100000 in
theorem zk_312 : zckL zXt ze_312 prog_14_method_114_code zp_312 0 0 zc_312 = true := by decide +kernel
theorem zM_312 : zMeth zT zXt zme zpcs 312 := ⟨zk_312, rfl, rfl, fun _ => (by rename_i h; exact Bool.noConfusion h), by decide +kernel, rfl, Nat.le_of_ble_eq_true rfl, (zw_20_ok _ (List.mem_of_getElem? (i := 26) rfl)), Or.inl ⟨rfl, rfl⟩⟩
set_option maxRecDepth 100000 in
theorem zk_313 : zckL zXt ze_313 prog_14_method_45_code zp_313 0 0 zc_313 = true := by decide +kernel
theorem zM_313 : zMeth zT zXt zme zpcs 313 := ⟨zk_313, rfl, rfl, fun _ => (by rename_i h; exact Bool.noConfusion h), by decide +kernel, rfl, Nat.le_of_ble_eq_true rfl, (zw_18_ok _ (List.mem_of_getElem? (i := 38) rfl)), Or.inr (Or.inl ⟨rfl, rfl⟩)⟩
set_option maxRecDepth 100000 in
theorem zk_314 : zckL zXt ze_314 prog_14_method_98_code zp_314 0 0 zc_314 = true := by decide +kernel
theorem zM_314 : zMeth zT zXt zme zpcs 314 := ⟨zk_314, rfl, rfl, fun _ => (by rename_i h; exact Bool.noConfusion h), by decide +kernel, rfl, Nat.le_of_ble_eq_true rfl, (zw_19_ok _ (List.mem_of_getElem? (i := 36) rfl)), Or.inr (Or.inl ⟨rfl, rfl⟩)⟩
set_option maxRecDepth 100000 in
theorem zk_315 : zckL zXt ze_315 prog_14_method_105_code zp_315 0 0 zc_315 = true := by decide +kernel
theorem zM_315 : zMeth zT zXt zme zpcs 315 := ⟨zk_315, rfl, rfl, fun _ => (by rename_i h; exact Bool.noConfusion h), by decide +kernel, rfl, Nat.le_of_ble_eq_true rfl, (zw_20_ok _ (List.mem_of_getElem? (i := 14) rfl)), Or.inr (Or.inl ⟨rfl, rfl⟩)⟩
set_option maxRecDepth 100000 in
theorem zk_316 : zckL zXt ze_316 prog_14_method_110_code zp_316 0 0 zc_316 = true := by decide +kernel
theorem zM_316 : zMeth zT zXt zme zpcs 316 := ⟨zk_316, rfl, rfl, fun _ => (by rename_i h; exact Bool.noConfusion h), by decide +kernel, rfl, Nat.le_of_ble_eq_true rfl, (zw_20_ok _ (List.mem_of_getElem? (i := 22) rfl)), Or.inr (Or.inr (Or.inl ⟨rfl, rfl⟩))⟩
set_option maxRecDepth 100000 in
theorem zk_317 : zckL zXt ze_317 prog_14_method_32_code zp_317 0 0 zc_317 = true := by decide +kernel
theorem zM_317 : zMeth zT zXt zme zpcs 317 := ⟨zk_317, rfl, rfl, fun _ => (by rename_i h; exact Bool.noConfusion h), by decide +kernel, rfl, Nat.le_of_ble_eq_true rfl, (zw_18_ok _ (List.mem_of_getElem? (i := 15) rfl)), Or.inr (Or.inr (Or.inr ⟨rfl, rfl⟩))⟩
set_option maxRecDepth 100000 in
theorem zk_318 : zckL zXt ze_318 prog_14_method_35_code zp_318 0 0 zc_318 = true := by decide +kernel
theorem zM_318 : zMeth zT zXt zme zpcs 318 := ⟨zk_318, rfl, rfl, fun _ => (by rename_i h; exact Bool.noConfusion h), by decide +kernel, rfl, Nat.le_of_ble_eq_true rfl, (zw_18_ok _ (List.mem_of_getElem? (i := 28) rfl)), Or.inr (Or.inr (Or.inr ⟨rfl, rfl⟩))⟩
set_option maxRecDepth 100000 in
theorem zk_319 : zckL zXt ze_319 prog_14_method_62_code zp_319 0 0 zc_319 = true := by decide +kernel
theorem zM_319 : zMeth zT zXt zme zpcs 319 := ⟨zk_319, rfl, rfl, fun _ => (by rename_i h; exact Bool.noConfusion h), by decide +kernel, rfl, Nat.le_of_ble_eq_true rfl, (zw_19_ok _ (List.mem_of_getElem? (i := 4) rfl)), Or.inr (Or.inl ⟨rfl, rfl⟩)⟩
set_option maxRecDepth 100000 in
theorem zk_320 : zckL zXt ze_320 prog_14_method_131_code zp_320 0 0 zc_320 = true := by decide +kernel
theorem zM_320 : zMeth zT zXt zme zpcs 320 := ⟨zk_320, rfl, rfl, fun _ => (by rename_i h; exact Bool.noConfusion h), by decide +kernel, rfl, Nat.le_of_ble_eq_true rfl, (zw_21_ok _ (List.mem_of_getElem? (i := 5) rfl)), Or.inr (Or.inl ⟨rfl, rfl⟩)⟩
set_option maxRecDepth 100000 in
theorem zk_321 : zckL zXt ze_321 prog_14_method_137_code zp_321 0 0 zc_321 = true := by decide +kernel
theorem zM_321 : zMeth zT zXt zme zpcs 321 := ⟨zk_321, rfl, rfl, fun _ => (by rename_i h; exact Bool.noConfusion h), by decide +kernel, rfl, Nat.le_of_ble_eq_true rfl, (zw_21_ok _ (List.mem_of_getElem? (i := 12) rfl)), Or.inr (Or.inl ⟨rfl, rfl⟩)⟩
set_option maxRecDepth 100000 in
theorem zk_322 : zckL zXt ze_322 prog_14_method_99_code zp_322 0 0 zc_322 = true := by decide +kernel
theorem zM_322 : zMeth zT zXt zme zpcs 322 := ⟨zk_322, rfl, rfl, fun _ => (by rename_i h; exact Bool.noConfusion h), by decide +kernel, rfl, Nat.le_of_ble_eq_true rfl, (zw_20_ok _ (List.mem_of_getElem? (i := 10) rfl)), Or.inr (Or.inl ⟨rfl, rfl⟩)⟩
set_option maxRecDepth 100000 in
theorem zk_323 : zckL zXt ze_323 prog_14_method_127_code zp_323 0 0 zc_323 = true := by decide +kernel
theorem zM_323 : zMeth zT zXt zme zpcs 323 := ⟨zk_323, rfl, rfl, fun _ => (by rename_i h; exact Bool.noConfusion h), by decide +kernel, rfl, Nat.le_of_ble_eq_true rfl, (zw_20_ok _ (List.mem_of_getElem? (i := 36) rfl)), Or.inr (Or.inl ⟨rfl, rfl⟩)⟩
set_option maxRecDepth 100000 in
theorem zk_324 : zckL zXt ze_324 prog_14_method_33_code zp_324 0 0 zc_324 = true := by decide +kernel
theorem zM_324 : zMeth zT zXt zme zpcs 324 := ⟨zk_324, rfl, rfl, fun _ => (by rename_i h; exact Bool.noConfusion h), by decide +kernel, rfl, Nat.le_of_ble_eq_true rfl, (zw_18_ok _ (List.mem_of_getElem? (i := 13) rfl)), Or.inr (Or.inl ⟨rfl, rfl⟩)⟩
set_option maxRecDepth 100000 in
theorem zk_325 : zckL zXt ze_325 prog_14_method_121_code zp_325 0 0 zc_325 = true := by decide +kernel
theorem zM_325 : zMeth zT zXt zme zpcs 325 := ⟨zk_325, rfl, rfl, fun _ => (by rename_i h; exact Bool.noConfusion h), by decide +kernel, rfl, Nat.le_of_ble_eq_true rfl, (zw_20_ok _ (List.mem_of_getElem? (i := 30) rfl)), Or.inr (Or.inl ⟨rfl, rfl⟩)⟩
set_option maxRecDepth 100000 in
theorem zk_326 : zckL zXt ze_326 prog_14_method_120_code zp_326 0 0 zc_326 = true := by decide +kernel
theorem zM_326 : zMeth zT zXt zme zpcs 326 := ⟨zk_326, rfl, rfl, fun _ => (by rename_i h; exact Bool.noConfusion h), by decide +kernel, rfl, Nat.le_of_ble_eq_true rfl, (zw_20_ok _ (List.mem_of_getElem? (i := 25) rfl)), Or.inr (Or.inl ⟨rfl, rfl⟩)⟩
set_option maxRecDepth 100000 in
theorem zk_327 : zckL zXt ze_327 prog_14_method_36_code zp_327 0 0 zc_327 = true := by decide +kernel
theorem zM_327 : zMeth zT zXt zme zpcs 327 := ⟨zk_327, rfl, rfl, fun _ => (by rename_i h; exact Bool.noConfusion h), by decide +kernel, rfl, Nat.le_of_ble_eq_true rfl, (zw_18_ok _ (List.mem_of_getElem? (i := 27) rfl)), Or.inr (Or.inr (Or.inr ⟨rfl, rfl⟩))⟩
set_option maxRecDepth 100000 in
theorem zk_328 : zckL zXt ze_328 prog_14_method_136_code zp_328 0 0 zc_328 = true := by decide +kernel
theorem zM_328 : zMeth zT zXt zme zpcs 328 := ⟨zk_328, rfl, rfl, fun _ => (by rename_i h; exact Bool.noConfusion h), by decide +kernel, rfl, Nat.le_of_ble_eq_true rfl, (zw_21_ok _ (List.mem_of_getElem? (i := 10) rfl)), Or.inr (Or.inl ⟨rfl, rfl⟩)⟩
set_option maxRecDepth 100000 in
theorem zk_329 : zckL zXt ze_329 prog_14_method_38_code zp_329 0 0 zc_329 = true := by decide +kernel
theorem zM_329 : zMeth zT zXt zme zpcs 329 := ⟨zk_329, rfl, rfl, fun _ => (by rename_i h; exact Bool.noConfusion h), by decide +kernel, rfl, Nat.le_of_ble_eq_true rfl, (zw_18_ok _ (List.mem_of_getElem? (i := 32) rfl)), Or.inl ⟨rfl, rfl⟩⟩
set_option maxRecDepth 100000 in
theorem zk_330 : zckL zXt ze_330 prog_14_method_37_code zp_330 0 0 zc_330 = true := by decide +kernel
theorem zM_330 : zMeth zT zXt zme zpcs 330 := ⟨zk_330, rfl, rfl, fun _ => (by rename_i h; exact Bool.noConfusion h), by decide +kernel, rfl, Nat.le_of_ble_eq_true rfl, (zw_18_ok _ (List.mem_of_getElem? (i := 26) rfl)), Or.inr (Or.inl ⟨rfl, rfl⟩)⟩
set_option maxRecDepth 100000 in
theorem zk_331 : zckL zXt ze_331 prog_14_method_41_code zp_331 0 0 zc_331 = true := by decide +kernel
theorem zM_331 : zMeth zT zXt zme zpcs 331 := ⟨zk_331, rfl, rfl, fun _ => (by rename_i h; exact Bool.noConfusion h), by decide +kernel, rfl, Nat.le_of_ble_eq_true rfl, (zw_18_ok _ (List.mem_of_getElem? (i := 31) rfl)), Or.inl ⟨rfl, rfl⟩⟩
set_option maxRecDepth 100000 in
theorem zk_332 : zckL zXt ze_332 prog_14_method_47_code zp_332 0 0 zc_332 = true := by decide +kernel
theorem zM_332 : zMeth zT zXt zme zpcs 332 := ⟨zk_332, rfl, rfl, fun _ => (by rename_i h; exact Bool.noConfusion h), by decide +kernel, rfl, Nat.le_of_ble_eq_true rfl, (zw_18_ok _ (List.mem_of_getElem? (i := 37) rfl)), Or.inr (Or.inl ⟨rfl, rfl⟩)⟩
set_option maxRecDepth 100000 in
theorem zk_333 : zckL zXt ze_333 prog_14_method_42_code zp_333 0 0 zc_333 = true := by decide +kernel
theorem zM_333 : zMeth zT zXt zme zpcs 333 := ⟨zk_333, rfl, rfl, fun _ => (by rename_i h; exact Bool.noConfusion h), by decide +kernel, rfl, Nat.le_of_ble_eq_true rfl, (zw_18_ok _ (List.mem_of_getElem? (i := 30) rfl)), Or.inr (Or.inl ⟨rfl, rfl⟩)⟩
